-- CoinCircleModel.reaches(IIII)V
def fX9_reaches (sh : AwS) (M : AwM) (v0 : Int) (v1 : Int) (v2 : Int) (v3 : Int) (v4 : Int) : Option (AwM) :=
  gd_ (kd_ sh v0 = (0, 9)) (gd_ ((kd_ sh (M v0 64)).1 = 1 ∧ (0 : Int) ≤ (w32 ((w32 (1024 * v1)) + v2)) ∧ (w32 ((w32 (1024 * v1)) + v2)) < ((kd_ sh (M v0 64)).2 : Int)) ((if (M (M v0 64) (w32 ((w32 (1024 * v1)) + v2))) = (-1) then bd_ (up_ M (M v0 64) (w32 ((w32 (1024 * v1)) + v2)) v4) fun (M4 : AwM) => (gd_ ((kd_ sh (M4 v0 63)).1 = 1 ∧ (0 : Int) ≤ (w32 ((w32 (1024 * v1)) + v2)) ∧ (w32 ((w32 (1024 * v1)) + v2)) < ((kd_ sh (M4 v0 63)).2 : Int)) (bd_ (up_ M4 (M4 v0 63) (w32 ((w32 (1024 * v1)) + v2)) v3) fun (M7 : AwM) => (gd_ ((kd_ sh (M7 v0 65)).1 = 1 ∧ (0 : Int) ≤ (M7 v0 66) ∧ (M7 v0 66) < ((kd_ sh (M7 v0 65)).2 : Int)) (bd_ (up_ M7 (M7 v0 65) (M7 v0 66) (w32 ((w32 (1024 * v1)) + v2))) fun (M10 : AwM) => (bd_ (up_ M10 v0 66 (w32 ((M10 v0 66) + 1))) fun (M12 : AwM) => (some M12)))))) else some M)))
set_option maxRecDepth 100000 in
set_option maxHeartbeats 4000000 in
theorem mX9_reaches {sh : AwS} {M : AwM} {v0 : Int} {v1 : Int} {v2 : Int} {v3 : Int} {v4 : Int} {M' : AwM} (h : fX9_reaches sh M v0 v1 v2 v3 v4 = some M') : AMet yX9_reaches cX9_reaches 6 none 1 0 0 [.inr (.inr v0), .inl v1, .inl v2, .inl v3, .inl v4] sh M none sh M' := by
  refine amet_of (by decide +kernel) (Nat.le_of_ble_eq_true rfl) (fun Γ hC => ?_)
  replace hC : AOK Γ RX9 cX9_reaches 6 1 0 0 "reaches" none := hC
  unfold fX9_reaches at h
  refine aw_sub hC [some (.inr (.inr v0)), some (.inl v1), some (.inl v2), some (.inl v3), some (.inl v4), none] ⟨rfl, ⟨rfl, ⟨rfl, ⟨rfl, ⟨rfl, trivial⟩⟩⟩⟩⟩ (Nat.le_of_ble_eq_true rfl) ?_
  refine aw_sipush (pc' := 3) hC dX9_reaches_0 rfl (by decide) ?_
  refine aw_iload_n (pc' := 4) (i := 1) hC dX9_reaches_3 rfl rfl rfl ?_
  refine aw_imul (pc' := 5) hC dX9_reaches_4 rfl  ?_
  refine aw_iload_n (pc' := 6) (i := 2) hC dX9_reaches_5 rfl rfl rfl ?_
  refine aw_iadd (pc' := 7) hC dX9_reaches_6 rfl  ?_
  refine aw_istore (pc' := 9) (ls' := [some (.inr (.inr v0)), some (.inl v1), some (.inl v2), some (.inl v3), some (.inl v4), some (.inl (w32 ((w32 (1024 * v1)) + v2)))]) hC dX9_reaches_7 rfl (Nat.le_of_ble_eq_true rfl) rfl rfl ?_
  refine aw_aload_n (pc' := 10) (i := 0) hC dX9_reaches_9 rfl rfl rfl ?_
  obtain ⟨g1, h⟩ := gd_s h
  refine aw_getfield (pc' := 13) (v := (.inr (.inr (M v0 64)))) hC dX9_reaches_10 rfl fl_X9_207 g1 rfl ?_
  refine aw_iload (pc' := 15) hC dX9_reaches_13 rfl rfl ?_
  obtain ⟨g2, h⟩ := gd_s h
  refine aw_iaload (pc' := 16) hC dX9_reaches_15 rfl g2 ?_
  refine aw_iconst (pc' := 17) hC dX9_reaches_16 rfl (by decide) ?_
  refine aw_icmp_eq (tgt := 21) (pc' := 20) hC dX9_reaches_17 (by decide) rfl (fun c3 => ?_) (fun c3 => ?_)
  · replace h := it_p c3 h
    refine aw_aload_n (pc' := 22) (i := 0) hC dX9_reaches_21 rfl rfl rfl ?_
    refine aw_getfield (pc' := 25) (v := (.inr (.inr (M v0 64)))) hC dX9_reaches_22 rfl fl_X9_207 g1 rfl ?_
    refine aw_iload (pc' := 27) hC dX9_reaches_25 rfl rfl ?_
    refine aw_iload (pc' := 29) hC dX9_reaches_27 rfl rfl ?_
    obtain ⟨M4, e5, h⟩ := bd_s h
    refine aw_ias (pc' := 30) hC dX9_reaches_29 rfl g2 e5 ?_
    refine aw_aload_n (pc' := 31) (i := 0) hC dX9_reaches_30 rfl rfl rfl ?_
    refine aw_getfield (pc' := 34) (v := (.inr (.inr (M4 v0 63)))) hC dX9_reaches_31 rfl fl_X9_204 g1 rfl ?_
    refine aw_iload (pc' := 36) hC dX9_reaches_34 rfl rfl ?_
    refine aw_iload_n (pc' := 37) (i := 3) hC dX9_reaches_36 rfl rfl rfl ?_
    obtain ⟨g6, h⟩ := gd_s h
    obtain ⟨M7, e8, h⟩ := bd_s h
    refine aw_ias (pc' := 38) hC dX9_reaches_37 rfl g6 e8 ?_
    refine aw_aload_n (pc' := 39) (i := 0) hC dX9_reaches_38 rfl rfl rfl ?_
    refine aw_getfield (pc' := 42) (v := (.inr (.inr (M7 v0 65)))) hC dX9_reaches_39 rfl fl_X9_210 g1 rfl ?_
    refine aw_aload_n (pc' := 43) (i := 0) hC dX9_reaches_42 rfl rfl rfl ?_
    refine aw_getfield (pc' := 46) (v := (.inl (M7 v0 66))) hC dX9_reaches_43 rfl fl_X9_213 g1 rfl ?_
    refine aw_iload (pc' := 48) hC dX9_reaches_46 rfl rfl ?_
    obtain ⟨g9, h⟩ := gd_s h
    obtain ⟨M10, e11, h⟩ := bd_s h
    refine aw_ias (pc' := 49) hC dX9_reaches_48 rfl g9 e11 ?_
    refine aw_aload_n (pc' := 50) (i := 0) hC dX9_reaches_49 rfl rfl rfl ?_
    refine aw_dup (pc' := 51) hC dX9_reaches_50 rfl rfl ?_
    refine aw_getfield (pc' := 54) (v := (.inl (M10 v0 66))) hC dX9_reaches_51 rfl fl_X9_213 g1 rfl ?_
    refine aw_iconst (pc' := 55) hC dX9_reaches_54 rfl (by decide) ?_
    refine aw_iadd (pc' := 56) hC dX9_reaches_55 rfl  ?_
    obtain ⟨M12, e13, h⟩ := bd_s h
    refine aw_pf (pc' := 59) hC dX9_reaches_56 rfl fp_X9_213 g1 rfl trivial e13 ?_
    cases h
    exact aw_vret hC dX9_reaches_59 (Nat.le_of_ble_eq_true rfl) (Nat.le_of_ble_eq_true rfl)
  · replace h := it_n c3 h
    cases h
    exact aw_vret hC dX9_reaches_20 (Nat.le_of_ble_eq_true rfl) (Nat.le_of_ble_eq_true rfl)
-- CoinCircleModel.goesOn(II)V
def fX9_goesOn__L35 (sh : AwS) (v0 : Int) (v1 : Int) (v2 : Int) (v3 : Int) (v4 : Int) (v5 : Int) (v6 : Int) (M : AwM) : Option ((Int × AwM) ⊕ (AwM)) :=
  gd_ (kd_ sh v0 = (0, 9)) (gd_ ((kd_ sh (M v0 14)).1 = 1 ∧ (0 : Int) ≤ (M v0 13) ∧ (M v0 13) < ((kd_ sh (M v0 14)).2 : Int)) ((if v6 < (M (M v0 14) (M v0 13)) then (if v6 = v3 then some (.inl ((w32 (v6 + 1)), M)) else pb (fX9_has2 sh M v4 v6) <| u1 fun (x11 : Int) => ((if x11 = 0 then some (.inl ((w32 (v6 + 1)), M)) else pb (fX9_reaches sh M v0 v6 v4 v2 v6) <| u1 fun (M14 : AwM) => (some (.inl ((w32 (v6 + 1)), M14)))))) else some (.inr M))))
def p_X9_goesOn__L35 (Γ : AwC) (sh : AwS) (v0 : Int) (v1 : Int) (v2 : Int) (v3 : Int) (v4 : Int) (v5 : Int) (Q : State → Prop) (s : Int × AwM) : Prop := AW Γ sh (s.2) 0 0 35 [some (.inr (.inr v0)), some (.inl v1), some (.inl v2), some (.inl v3), some (.inl v4), some (.inl v5), some (.inl (s.1))] [] Q
def x_X9_goesOn__L35 (Γ : AwC) (sh : AwS) (v0 : Int) (v1 : Int) (v2 : Int) (v3 : Int) (v4 : Int) (v5 : Int) (Q : State → Prop) : (AwM) → Prop := (fun (t : AwM) => AW Γ sh (t) 0 0 82 [some (.inr (.inr v0)), some (.inl v1), some (.inl v2), some (.inl v3), some (.inl v4), some (.inl v5), none] [] Q)
def fX9_goesOn__L85 (sh : AwS) (v0 : Int) (v1 : Int) (v2 : Int) (v3 : Int) (v4 : Int) (v5 : Int) (v6 : Int) (M : AwM) : Option ((Int × AwM) ⊕ (AwM)) :=
  gd_ (kd_ sh v0 = (0, 9)) (gd_ ((kd_ sh (M v0 14)).1 = 1 ∧ (0 : Int) ≤ (M v0 13) ∧ (M v0 13) < ((kd_ sh (M v0 14)).2 : Int)) ((if v6 < (M (M v0 14) (M v0 13)) then gd_ ((kd_ sh (M v0 51)).1 = 1 ∧ (0 : Int) ≤ v1 ∧ v1 < ((kd_ sh (M v0 51)).2 : Int)) (pb (fX9_has2 sh M (or_ v4 (M (M v0 51) v1)) v6) <| u1 fun (x21 : Int) => ((if x21 = 0 then pb (fX9_bits sh M v4) <| u1 fun (x24 : Int) => (gd_ ((kd_ sh (M v0 48)).1 = 1 ∧ (0 : Int) ≤ 0 ∧ 0 < ((kd_ sh (M v0 48)).2 : Int)) (pb (fX9_holdsTest sh M v0 v1 v3 v6 x24 v5 (M (M v0 48) 0)) <| u2 fun (x27 : Int) (M28 : AwM) => ((if x27 = 0 then some (.inl ((w32 (v6 + 1)), M28)) else pb (fX9_reaches sh M28 v0 v3 (or_ v4 (sl_ 1 v6)) v2 (w32 (10 + v6))) <| u1 fun (M31 : AwM) => (some (.inl ((w32 (v6 + 1)), M31))))))) else some (.inl ((w32 (v6 + 1)), M))))) else some (.inr M))))
def p_X9_goesOn__L85 (Γ : AwC) (sh : AwS) (v0 : Int) (v1 : Int) (v2 : Int) (v3 : Int) (v4 : Int) (v5 : Int) (Q : State → Prop) (s : Int × AwM) : Prop := AW Γ sh (s.2) 0 0 85 [some (.inr (.inr v0)), some (.inl v1), some (.inl v2), some (.inl v3), some (.inl v4), some (.inl v5), some (.inl (s.1))] [] Q
def x_X9_goesOn__L85 (Γ : AwC) (sh : AwS) (v0 : Int) (v1 : Int) (v2 : Int) (v3 : Int) (v4 : Int) (v5 : Int) (Q : State → Prop) : (AwM) → Prop := (fun (t : AwM) => AW Γ sh (t) 0 0 164 [none, none, none, none, none, none, none] [] Q)
def fX9_goesOn_ (sh : AwS) (M : AwM) (v0 : Int) (v1 : Int) (v2 : Int) : Option (AwM) :=
  gd_ (kd_ sh v0 = (0, 9)) (pb (fX9_heldBy sh M v0 0 (w32 (v2.tdiv 1024))) <| u1 fun (x3 : Int) => (pb (fX9_bits sh M (an_ x3 (xo_ (sl_ 1 v1) (-1)))) <| u1 fun (x5 : Int) => (pb (lp (u2 (fX9_goesOn__L35 sh v0 v1 v2 (w32 (v2.tdiv 1024)) (v2.tmod 1024) (w32 (x5 + 1)))) FU (0, M)) (u1 (fun (tq15 : AwM) => pb (lp (u2 (fX9_goesOn__L85 sh v0 v1 v2 (w32 (v2.tdiv 1024)) (v2.tmod 1024) (w32 (x5 + 1)))) FU (0, tq15)) (u1 (fun (tq32 : AwM) => some tq32)))))))
set_option maxRecDepth 100000 in
set_option maxHeartbeats 4000000 in
theorem w_X9_goesOn__L35 {Γ : AwC} (hC : AOK Γ RX9 cX9_goesOn_ 7 5 0 0 "goesOn" none) {sh : AwS} {v0 : Int} {v1 : Int} {v2 : Int} {v3 : Int} {v4 : Int} {v5 : Int} {Q : State → Prop} : ∀ s r, u2 (fX9_goesOn__L35 sh v0 v1 v2 v3 v4 v5) s = some r → (∀ s', r = .inl s' → p_X9_goesOn__L35 Γ sh v0 v1 v2 v3 v4 v5 Q s') → (∀ t, r = .inr t → x_X9_goesOn__L35 Γ sh v0 v1 v2 v3 v4 v5 Q t) → p_X9_goesOn__L35 Γ sh v0 v1 v2 v3 v4 v5 Q s := by
  intro s r h hL hX
  obtain ⟨v6, M⟩ := s
  replace h := u2_s h
  unfold fX9_goesOn__L35 at h
  show AW Γ sh M 0 0 35 [some (.inr (.inr v0)), some (.inl v1), some (.inl v2), some (.inl v3), some (.inl v4), some (.inl v5), some (.inl v6)] [] Q
  refine aw_iload (pc' := 37) hC dX9_goesOn__35 rfl rfl ?_
  refine aw_aload_n (pc' := 38) (i := 0) hC dX9_goesOn__37 rfl rfl rfl ?_
  obtain ⟨g6, h⟩ := gd_s h
  refine aw_getfield (pc' := 41) (v := (.inr (.inr (M v0 14)))) hC dX9_goesOn__38 rfl fl_X9_54 g6 rfl ?_
  refine aw_aload_n (pc' := 42) (i := 0) hC dX9_goesOn__41 rfl rfl rfl ?_
  refine aw_getfield (pc' := 45) (v := (.inl (M v0 13))) hC dX9_goesOn__42 rfl fl_X9_51 g6 rfl ?_
  obtain ⟨g7, h⟩ := gd_s h
  refine aw_iaload (pc' := 46) hC dX9_goesOn__45 rfl g7 ?_
  refine aw_icmp_ge (tgt := 82) (pc' := 49) hC dX9_goesOn__46 (by decide) rfl (fun c8 => ?_) (fun c8 => ?_)
  · replace h := it_n c8 h
    refine aw_sub hC [some (.inr (.inr v0)), some (.inl v1), some (.inl v2), some (.inl v3), some (.inl v4), some (.inl v5), none] ⟨rfl, ⟨rfl, ⟨rfl, ⟨rfl, ⟨rfl, ⟨rfl, trivial⟩⟩⟩⟩⟩⟩ (Nat.le_of_ble_eq_true rfl) ?_
    cases h
    exact hX _ rfl
  · replace h := it_p c8 h
    refine aw_iload (pc' := 51) hC dX9_goesOn__49 rfl rfl ?_
    refine aw_iload_n (pc' := 52) (i := 3) hC dX9_goesOn__51 rfl rfl rfl ?_
    refine aw_icmp_eq (tgt := 76) (pc' := 55) hC dX9_goesOn__52 (by decide) rfl (fun c9 => ?_) (fun c9 => ?_)
    · replace h := it_p c9 h
      refine aw_iinc (pc' := 79) (ls' := [some (.inr (.inr v0)), some (.inl v1), some (.inl v2), some (.inl v3), some (.inl v4), some (.inl v5), some (.inl (w32 (v6 + 1)))]) hC dX9_goesOn__76 rfl rfl rfl rfl ?_
      refine aw_goto (tgt := 35) hC dX9_goesOn__79 (by decide) ?_
      refine aw_sub hC [some (.inr (.inr v0)), some (.inl v1), some (.inl v2), some (.inl v3), some (.inl v4), some (.inl v5), some (.inl (w32 (v6 + 1)))] ⟨rfl, ⟨rfl, ⟨rfl, ⟨rfl, ⟨rfl, ⟨rfl, ⟨rfl, trivial⟩⟩⟩⟩⟩⟩⟩ (Nat.le_of_ble_eq_true rfl) ?_
      cases h
      exact hL _ rfl
    · replace h := it_n c9 h
      refine aw_iload (pc' := 57) hC dX9_goesOn__55 rfl rfl ?_
      refine aw_iload (pc' := 59) hC dX9_goesOn__57 rfl rfl ?_
      obtain ⟨x11, q10, h⟩ := pb_s h
      replace h := u1_s h
      refine aw_cS (pc' := 62) (k2 := 0) (n2 := 0) (st := []) (stN := [.inl x11]) hC [.inl v4, .inl v6] (mX9_has2 q10) lk_X9_373 dX9_goesOn__59 rfl rfl (Nat.le_of_ble_eq_true rfl) (Nat.le_of_ble_eq_true rfl) (Nat.le_of_ble_eq_true rfl) rfl (Nat.le_of_ble_eq_true rfl) rfl rfl rfl ?_
      refine aw_if_eq (tgt := 76) (pc' := 65) hC dX9_goesOn__62 (by decide) rfl (fun c12 => ?_) (fun c12 => ?_)
      · replace h := it_p c12 h
        refine aw_iinc (pc' := 79) (ls' := [some (.inr (.inr v0)), some (.inl v1), some (.inl v2), some (.inl v3), some (.inl v4), some (.inl v5), some (.inl (w32 (v6 + 1)))]) hC dX9_goesOn__76 rfl rfl rfl rfl ?_
        refine aw_goto (tgt := 35) hC dX9_goesOn__79 (by decide) ?_
        refine aw_sub hC [some (.inr (.inr v0)), some (.inl v1), some (.inl v2), some (.inl v3), some (.inl v4), some (.inl v5), some (.inl (w32 (v6 + 1)))] ⟨rfl, ⟨rfl, ⟨rfl, ⟨rfl, ⟨rfl, ⟨rfl, ⟨rfl, trivial⟩⟩⟩⟩⟩⟩⟩ (Nat.le_of_ble_eq_true rfl) ?_
        cases h
        exact hL _ rfl
      · replace h := it_n c12 h
        refine aw_aload_n (pc' := 66) (i := 0) hC dX9_goesOn__65 rfl rfl rfl ?_
        refine aw_iload (pc' := 68) hC dX9_goesOn__66 rfl rfl ?_
        refine aw_iload (pc' := 70) hC dX9_goesOn__68 rfl rfl ?_
        refine aw_iload_n (pc' := 71) (i := 2) hC dX9_goesOn__70 rfl rfl rfl ?_
        refine aw_iload (pc' := 73) hC dX9_goesOn__71 rfl rfl ?_
        obtain ⟨M14, q13, h⟩ := pb_s h
        replace h := u1_s h
        refine aw_cV (pc' := 76) (k2 := 0) (n2 := 0) (st := []) (stN := []) hC [.inl v6, .inl v4, .inl v2, .inl v6] (mX9_reaches q13) lk_X9_531 g6 dX9_goesOn__73 rfl rfl (Nat.le_of_ble_eq_true rfl) (Nat.le_of_ble_eq_true rfl) (Nat.le_of_ble_eq_true rfl) rfl (Nat.le_of_ble_eq_true rfl) rfl rfl rfl ?_
        refine aw_iinc (pc' := 79) (ls' := [some (.inr (.inr v0)), some (.inl v1), some (.inl v2), some (.inl v3), some (.inl v4), some (.inl v5), some (.inl (w32 (v6 + 1)))]) hC dX9_goesOn__76 rfl rfl rfl rfl ?_
        refine aw_goto (tgt := 35) hC dX9_goesOn__79 (by decide) ?_
        refine aw_sub hC [some (.inr (.inr v0)), some (.inl v1), some (.inl v2), some (.inl v3), some (.inl v4), some (.inl v5), some (.inl (w32 (v6 + 1)))] ⟨rfl, ⟨rfl, ⟨rfl, ⟨rfl, ⟨rfl, ⟨rfl, ⟨rfl, trivial⟩⟩⟩⟩⟩⟩⟩ (Nat.le_of_ble_eq_true rfl) ?_
        cases h
        exact hL _ rfl
set_option maxRecDepth 100000 in
set_option maxHeartbeats 4000000 in
theorem w_X9_goesOn__L85 {Γ : AwC} (hC : AOK Γ RX9 cX9_goesOn_ 7 5 0 0 "goesOn" none) {sh : AwS} {v0 : Int} {v1 : Int} {v2 : Int} {v3 : Int} {v4 : Int} {v5 : Int} {Q : State → Prop} : ∀ s r, u2 (fX9_goesOn__L85 sh v0 v1 v2 v3 v4 v5) s = some r → (∀ s', r = .inl s' → p_X9_goesOn__L85 Γ sh v0 v1 v2 v3 v4 v5 Q s') → (∀ t, r = .inr t → x_X9_goesOn__L85 Γ sh v0 v1 v2 v3 v4 v5 Q t) → p_X9_goesOn__L85 Γ sh v0 v1 v2 v3 v4 v5 Q s := by
  intro s r h hL hX
  obtain ⟨v6, M⟩ := s
  replace h := u2_s h
  unfold fX9_goesOn__L85 at h
  show AW Γ sh M 0 0 85 [some (.inr (.inr v0)), some (.inl v1), some (.inl v2), some (.inl v3), some (.inl v4), some (.inl v5), some (.inl v6)] [] Q
  refine aw_iload (pc' := 87) hC dX9_goesOn__85 rfl rfl ?_
  refine aw_aload_n (pc' := 88) (i := 0) hC dX9_goesOn__87 rfl rfl rfl ?_
  obtain ⟨g16, h⟩ := gd_s h
  refine aw_getfield (pc' := 91) (v := (.inr (.inr (M v0 14)))) hC dX9_goesOn__88 rfl fl_X9_54 g16 rfl ?_
  refine aw_aload_n (pc' := 92) (i := 0) hC dX9_goesOn__91 rfl rfl rfl ?_
  refine aw_getfield (pc' := 95) (v := (.inl (M v0 13))) hC dX9_goesOn__92 rfl fl_X9_51 g16 rfl ?_
  obtain ⟨g17, h⟩ := gd_s h
  refine aw_iaload (pc' := 96) hC dX9_goesOn__95 rfl g17 ?_
  refine aw_icmp_ge (tgt := 164) (pc' := 99) hC dX9_goesOn__96 (by decide) rfl (fun c18 => ?_) (fun c18 => ?_)
  · replace h := it_n c18 h
    refine aw_sub hC [none, none, none, none, none, none, none] trivial (Nat.le_of_ble_eq_true rfl) ?_
    cases h
    exact hX _ rfl
  · replace h := it_p c18 h
    refine aw_iload (pc' := 101) hC dX9_goesOn__99 rfl rfl ?_
    refine aw_aload_n (pc' := 102) (i := 0) hC dX9_goesOn__101 rfl rfl rfl ?_
    refine aw_getfield (pc' := 105) (v := (.inr (.inr (M v0 51)))) hC dX9_goesOn__102 rfl fl_X9_168 g16 rfl ?_
    refine aw_iload_n (pc' := 106) (i := 1) hC dX9_goesOn__105 rfl rfl rfl ?_
    obtain ⟨g19, h⟩ := gd_s h
    refine aw_iaload (pc' := 107) hC dX9_goesOn__106 rfl g19 ?_
    refine aw_ior (pc' := 108) hC dX9_goesOn__107 rfl  ?_
    refine aw_iload (pc' := 110) hC dX9_goesOn__108 rfl rfl ?_
    obtain ⟨x21, q20, h⟩ := pb_s h
    replace h := u1_s h
    refine aw_cS (pc' := 113) (k2 := 0) (n2 := 0) (st := []) (stN := [.inl x21]) hC [.inl (or_ v4 (M (M v0 51) v1)), .inl v6] (mX9_has2 q20) lk_X9_373 dX9_goesOn__110 rfl rfl (Nat.le_of_ble_eq_true rfl) (Nat.le_of_ble_eq_true rfl) (Nat.le_of_ble_eq_true rfl) rfl (Nat.le_of_ble_eq_true rfl) rfl rfl rfl ?_
    refine aw_if_ne (tgt := 158) (pc' := 116) hC dX9_goesOn__113 (by decide) rfl (fun c22 => ?_) (fun c22 => ?_)
    · replace h := it_n c22 h
      refine aw_iinc (pc' := 161) (ls' := [some (.inr (.inr v0)), some (.inl v1), some (.inl v2), some (.inl v3), some (.inl v4), some (.inl v5), some (.inl (w32 (v6 + 1)))]) hC dX9_goesOn__158 rfl rfl rfl rfl ?_
      refine aw_goto (tgt := 85) hC dX9_goesOn__161 (by decide) ?_
      refine aw_sub hC [some (.inr (.inr v0)), some (.inl v1), some (.inl v2), some (.inl v3), some (.inl v4), some (.inl v5), some (.inl (w32 (v6 + 1)))] ⟨rfl, ⟨rfl, ⟨rfl, ⟨rfl, ⟨rfl, ⟨rfl, ⟨rfl, trivial⟩⟩⟩⟩⟩⟩⟩ (Nat.le_of_ble_eq_true rfl) ?_
      cases h
      exact hL _ rfl
    · replace h := it_p c22 h
      refine aw_aload_n (pc' := 117) (i := 0) hC dX9_goesOn__116 rfl rfl rfl ?_
      refine aw_iload_n (pc' := 118) (i := 1) hC dX9_goesOn__117 rfl rfl rfl ?_
      refine aw_iload_n (pc' := 119) (i := 3) hC dX9_goesOn__118 rfl rfl rfl ?_
      refine aw_iload (pc' := 121) hC dX9_goesOn__119 rfl rfl ?_
      refine aw_iload (pc' := 123) hC dX9_goesOn__121 rfl rfl ?_
      obtain ⟨x24, q23, h⟩ := pb_s h
      replace h := u1_s h
      refine aw_cS (pc' := 126) (k2 := 0) (n2 := 0) (st := [.inl v6, .inl v3, .inl v1, .inr (.inr v0)]) (stN := [.inl x24, .inl v6, .inl v3, .inl v1, .inr (.inr v0)]) hC [.inl v4] (mX9_bits q23) lk_X9_448 dX9_goesOn__123 rfl rfl (Nat.le_of_ble_eq_true rfl) (Nat.le_of_ble_eq_true rfl) (Nat.le_of_ble_eq_true rfl) rfl (Nat.le_of_ble_eq_true rfl) rfl rfl rfl ?_
      refine aw_iload (pc' := 128) hC dX9_goesOn__126 rfl rfl ?_
      refine aw_aload_n (pc' := 129) (i := 0) hC dX9_goesOn__128 rfl rfl rfl ?_
      refine aw_getfield (pc' := 132) (v := (.inr (.inr (M v0 48)))) hC dX9_goesOn__129 rfl fl_X9_159 g16 rfl ?_
      refine aw_iconst (pc' := 133) hC dX9_goesOn__132 rfl (by decide) ?_
      obtain ⟨g25, h⟩ := gd_s h
      refine aw_iaload (pc' := 134) hC dX9_goesOn__133 rfl g25 ?_
      obtain ⟨⟨x27, M28⟩, q26, h⟩ := pb_s h
      replace h := u2_s h
      refine aw_cV (pc' := 137) (k2 := 0) (n2 := 0) (st := []) (stN := [.inl x27]) hC [.inl v1, .inl v3, .inl v6, .inl x24, .inl v5, .inl (M (M v0 48) 0)] (mX9_holdsTest q26) lk_X9_454 g16 dX9_goesOn__134 rfl rfl (Nat.le_of_ble_eq_true rfl) (Nat.le_of_ble_eq_true rfl) (Nat.le_of_ble_eq_true rfl) rfl (Nat.le_of_ble_eq_true rfl) rfl rfl rfl ?_
      refine aw_if_eq (tgt := 158) (pc' := 140) hC dX9_goesOn__137 (by decide) rfl (fun c29 => ?_) (fun c29 => ?_)
      · replace h := it_p c29 h
        refine aw_iinc (pc' := 161) (ls' := [some (.inr (.inr v0)), some (.inl v1), some (.inl v2), some (.inl v3), some (.inl v4), some (.inl v5), some (.inl (w32 (v6 + 1)))]) hC dX9_goesOn__158 rfl rfl rfl rfl ?_
        refine aw_goto (tgt := 85) hC dX9_goesOn__161 (by decide) ?_
        refine aw_sub hC [some (.inr (.inr v0)), some (.inl v1), some (.inl v2), some (.inl v3), some (.inl v4), some (.inl v5), some (.inl (w32 (v6 + 1)))] ⟨rfl, ⟨rfl, ⟨rfl, ⟨rfl, ⟨rfl, ⟨rfl, ⟨rfl, trivial⟩⟩⟩⟩⟩⟩⟩ (Nat.le_of_ble_eq_true rfl) ?_
        cases h
        exact hL _ rfl
      · replace h := it_n c29 h
        refine aw_aload_n (pc' := 141) (i := 0) hC dX9_goesOn__140 rfl rfl rfl ?_
        refine aw_iload_n (pc' := 142) (i := 3) hC dX9_goesOn__141 rfl rfl rfl ?_
        refine aw_iload (pc' := 144) hC dX9_goesOn__142 rfl rfl ?_
        refine aw_iconst (pc' := 145) hC dX9_goesOn__144 rfl (by decide) ?_
        refine aw_iload (pc' := 147) hC dX9_goesOn__145 rfl rfl ?_
        refine aw_ishl (pc' := 148) hC dX9_goesOn__147 rfl  ?_
        refine aw_ior (pc' := 149) hC dX9_goesOn__148 rfl  ?_
        refine aw_iload_n (pc' := 150) (i := 2) hC dX9_goesOn__149 rfl rfl rfl ?_
        refine aw_bipush (pc' := 152) hC dX9_goesOn__150 rfl (by decide) ?_
        refine aw_iload (pc' := 154) hC dX9_goesOn__152 rfl rfl ?_
        refine aw_iadd (pc' := 155) hC dX9_goesOn__154 rfl  ?_
        obtain ⟨M31, q30, h⟩ := pb_s h
        replace h := u1_s h
        refine aw_cV (pc' := 158) (k2 := 0) (n2 := 0) (st := []) (stN := []) hC [.inl v3, .inl (or_ v4 (sl_ 1 v6)), .inl v2, .inl (w32 (10 + v6))] (mX9_reaches q30) lk_X9_531 g16 dX9_goesOn__155 rfl rfl (Nat.le_of_ble_eq_true rfl) (Nat.le_of_ble_eq_true rfl) (Nat.le_of_ble_eq_true rfl) rfl (Nat.le_of_ble_eq_true rfl) rfl rfl rfl ?_
        refine aw_iinc (pc' := 161) (ls' := [some (.inr (.inr v0)), some (.inl v1), some (.inl v2), some (.inl v3), some (.inl v4), some (.inl v5), some (.inl (w32 (v6 + 1)))]) hC dX9_goesOn__158 rfl rfl rfl rfl ?_
        refine aw_goto (tgt := 85) hC dX9_goesOn__161 (by decide) ?_
        refine aw_sub hC [some (.inr (.inr v0)), some (.inl v1), some (.inl v2), some (.inl v3), some (.inl v4), some (.inl v5), some (.inl (w32 (v6 + 1)))] ⟨rfl, ⟨rfl, ⟨rfl, ⟨rfl, ⟨rfl, ⟨rfl, ⟨rfl, trivial⟩⟩⟩⟩⟩⟩⟩ (Nat.le_of_ble_eq_true rfl) ?_
        cases h
        exact hL _ rfl
set_option maxRecDepth 100000 in
set_option maxHeartbeats 4000000 in
theorem mX9_goesOn_ {sh : AwS} {M : AwM} {v0 : Int} {v1 : Int} {v2 : Int} {M' : AwM} (h : fX9_goesOn_ sh M v0 v1 v2 = some M') : AMet yX9_goesOn_ cX9_goesOn_ 7 none 5 0 0 [.inr (.inr v0), .inl v1, .inl v2] sh M none sh M' := by
  refine amet_of (by decide +kernel) (Nat.le_of_ble_eq_true rfl) (fun Γ hC => ?_)
  replace hC : AOK Γ RX9 cX9_goesOn_ 7 5 0 0 "goesOn" none := hC
  unfold fX9_goesOn_ at h
  refine aw_sub hC [some (.inr (.inr v0)), some (.inl v1), some (.inl v2), none, none, none, none] ⟨rfl, ⟨rfl, ⟨rfl, trivial⟩⟩⟩ (Nat.le_of_ble_eq_true rfl) ?_
  refine aw_iload_n (pc' := 1) (i := 2) hC dX9_goesOn__0 rfl rfl rfl ?_
  refine aw_sipush (pc' := 4) hC dX9_goesOn__1 rfl (by decide) ?_
  refine aw_idiv (pc' := 5) hC dX9_goesOn__4 rfl (by decide) ?_
  refine aw_istore_n (pc' := 6) (i := 3) (ls' := [some (.inr (.inr v0)), some (.inl v1), some (.inl v2), some (.inl (w32 (v2.tdiv 1024))), none, none, none]) hC dX9_goesOn__5 rfl rfl (Nat.le_of_ble_eq_true rfl) rfl rfl ?_
  refine aw_iload_n (pc' := 7) (i := 2) hC dX9_goesOn__6 rfl rfl rfl ?_
  refine aw_sipush (pc' := 10) hC dX9_goesOn__7 rfl (by decide) ?_
  refine aw_irem (pc' := 11) hC dX9_goesOn__10 rfl (by decide) ?_
  refine aw_istore (pc' := 13) (ls' := [some (.inr (.inr v0)), some (.inl v1), some (.inl v2), some (.inl (w32 (v2.tdiv 1024))), some (.inl (v2.tmod 1024)), none, none]) hC dX9_goesOn__11 rfl (Nat.le_of_ble_eq_true rfl) rfl rfl ?_
  refine aw_aload_n (pc' := 14) (i := 0) hC dX9_goesOn__13 rfl rfl rfl ?_
  refine aw_iconst (pc' := 15) hC dX9_goesOn__14 rfl (by decide) ?_
  refine aw_iload_n (pc' := 16) (i := 3) hC dX9_goesOn__15 rfl rfl rfl ?_
  obtain ⟨g2, h⟩ := gd_s h
  obtain ⟨x3, q1, h⟩ := pb_s h
  replace h := u1_s h
  refine aw_cV (pc' := 19) (k2 := 0) (n2 := 0) (st := []) (stN := [.inl x3]) hC [.inl 0, .inl (w32 (v2.tdiv 1024))] (mX9_heldBy q1) lk_X9_451 g2 dX9_goesOn__16 rfl rfl (Nat.le_of_ble_eq_true rfl) (Nat.le_of_ble_eq_true rfl) (Nat.le_of_ble_eq_true rfl) rfl (Nat.le_of_ble_eq_true rfl) rfl rfl rfl ?_
  refine aw_iconst (pc' := 20) hC dX9_goesOn__19 rfl (by decide) ?_
  refine aw_iload_n (pc' := 21) (i := 1) hC dX9_goesOn__20 rfl rfl rfl ?_
  refine aw_ishl (pc' := 22) hC dX9_goesOn__21 rfl  ?_
  refine aw_iconst (pc' := 23) hC dX9_goesOn__22 rfl (by decide) ?_
  refine aw_ixor (pc' := 24) hC dX9_goesOn__23 rfl  ?_
  refine aw_iand (pc' := 25) hC dX9_goesOn__24 rfl  ?_
  obtain ⟨x5, q4, h⟩ := pb_s h
  replace h := u1_s h
  refine aw_cS (pc' := 28) (k2 := 0) (n2 := 0) (st := []) (stN := [.inl x5]) hC [.inl (an_ x3 (xo_ (sl_ 1 v1) (-1)))] (mX9_bits q4) lk_X9_448 dX9_goesOn__25 rfl rfl (Nat.le_of_ble_eq_true rfl) (Nat.le_of_ble_eq_true rfl) (Nat.le_of_ble_eq_true rfl) rfl (Nat.le_of_ble_eq_true rfl) rfl rfl rfl ?_
  refine aw_iconst (pc' := 29) hC dX9_goesOn__28 rfl (by decide) ?_
  refine aw_iadd (pc' := 30) hC dX9_goesOn__29 rfl  ?_
  refine aw_istore (pc' := 32) (ls' := [some (.inr (.inr v0)), some (.inl v1), some (.inl v2), some (.inl (w32 (v2.tdiv 1024))), some (.inl (v2.tmod 1024)), some (.inl (w32 (x5 + 1))), none]) hC dX9_goesOn__30 rfl (Nat.le_of_ble_eq_true rfl) rfl rfl ?_
  refine aw_iconst (pc' := 33) hC dX9_goesOn__32 rfl (by decide) ?_
  refine aw_istore (pc' := 35) (ls' := [some (.inr (.inr v0)), some (.inl v1), some (.inl v2), some (.inl (w32 (v2.tdiv 1024))), some (.inl (v2.tmod 1024)), some (.inl (w32 (x5 + 1))), some (.inl 0)]) hC dX9_goesOn__33 rfl (Nat.le_of_ble_eq_true rfl) rfl rfl ?_
  obtain ⟨tq15, q15, h⟩ := pb_s h
  refine aw_sub hC [some (.inr (.inr v0)), some (.inl v1), some (.inl v2), some (.inl (w32 (v2.tdiv 1024))), some (.inl (v2.tmod 1024)), some (.inl (w32 (x5 + 1))), some (.inl 0)] ⟨rfl, ⟨rfl, ⟨rfl, ⟨rfl, ⟨rfl, ⟨rfl, ⟨rfl, trivial⟩⟩⟩⟩⟩⟩⟩ (Nat.le_of_ble_eq_true rfl) ?_
  refine (lp_aw (p_X9_goesOn__L35 Γ sh v0 v1 v2 (w32 (v2.tdiv 1024)) (v2.tmod 1024) (w32 (x5 + 1)) (fin_ Γ 0 0 none sh M')) (x_X9_goesOn__L35 Γ sh v0 v1 v2 (w32 (v2.tdiv 1024)) (v2.tmod 1024) (w32 (x5 + 1)) (fin_ Γ 0 0 none sh M')) (w_X9_goesOn__L35 hC ) FU _ _ q15 ?_ : p_X9_goesOn__L35 Γ sh v0 v1 v2 (w32 (v2.tdiv 1024)) (v2.tmod 1024) (w32 (x5 + 1)) (fin_ Γ 0 0 none sh M') (0, M))
  replace h := u1_s h
  show AW Γ sh tq15 0 0 82 [some (.inr (.inr v0)), some (.inl v1), some (.inl v2), some (.inl (w32 (v2.tdiv 1024))), some (.inl (v2.tmod 1024)), some (.inl (w32 (x5 + 1))), none] [] _
  refine aw_iconst (pc' := 83) hC dX9_goesOn__82 rfl (by decide) ?_
  refine aw_istore (pc' := 85) (ls' := [some (.inr (.inr v0)), some (.inl v1), some (.inl v2), some (.inl (w32 (v2.tdiv 1024))), some (.inl (v2.tmod 1024)), some (.inl (w32 (x5 + 1))), some (.inl 0)]) hC dX9_goesOn__83 rfl (Nat.le_of_ble_eq_true rfl) rfl rfl ?_
  obtain ⟨tq32, q32, h⟩ := pb_s h
  refine aw_sub hC [some (.inr (.inr v0)), some (.inl v1), some (.inl v2), some (.inl (w32 (v2.tdiv 1024))), some (.inl (v2.tmod 1024)), some (.inl (w32 (x5 + 1))), some (.inl 0)] ⟨rfl, ⟨rfl, ⟨rfl, ⟨rfl, ⟨rfl, ⟨rfl, ⟨rfl, trivial⟩⟩⟩⟩⟩⟩⟩ (Nat.le_of_ble_eq_true rfl) ?_
  refine (lp_aw (p_X9_goesOn__L85 Γ sh v0 v1 v2 (w32 (v2.tdiv 1024)) (v2.tmod 1024) (w32 (x5 + 1)) (fin_ Γ 0 0 none sh M')) (x_X9_goesOn__L85 Γ sh v0 v1 v2 (w32 (v2.tdiv 1024)) (v2.tmod 1024) (w32 (x5 + 1)) (fin_ Γ 0 0 none sh M')) (w_X9_goesOn__L85 hC ) FU _ _ q32 ?_ : p_X9_goesOn__L85 Γ sh v0 v1 v2 (w32 (v2.tdiv 1024)) (v2.tmod 1024) (w32 (x5 + 1)) (fin_ Γ 0 0 none sh M') (0, tq15))
  replace h := u1_s h
  show AW Γ sh tq32 0 0 164 [none, none, none, none, none, none, none] [] _
  cases h
  exact aw_vret hC dX9_goesOn__164 (Nat.le_of_ble_eq_true rfl) (Nat.le_of_ble_eq_true rfl)
-- CoinCircleModel.findsState(II)I
def fX9_findsState_L2 (sh : AwS) (v0 : Int) (v1 : Int) (v2 : Int) (v3 : Int) (M : AwM) : Option ((Int × AwM) ⊕ (AwM)) :=
  (if v3 < 10240 then gd_ (kd_ sh v0 = (0, 9)) (gd_ ((kd_ sh (M v0 64)).1 = 1 ∧ (0 : Int) ≤ v3 ∧ v3 < ((kd_ sh (M v0 64)).2 : Int)) (bd_ (up_ M (M v0 64) v3 (-1)) fun (M4 : AwM) => (some (.inl ((w32 (v3 + 1)), M4))))) else some (.inr M))
def p_X9_findsState_L2 (Γ : AwC) (sh : AwS) (v0 : Int) (v1 : Int) (v2 : Int) (Q : State → Prop) (s : Int × AwM) : Prop := AW Γ sh (s.2) 0 0 2 [some (.inr (.inr v0)), some (.inl v1), some (.inl v2), some (.inl (s.1))] [] Q
def x_X9_findsState_L2 (Γ : AwC) (sh : AwS) (v0 : Int) (v1 : Int) (v2 : Int) (Q : State → Prop) : (AwM) → Prop := (fun (t : AwM) => AW Γ sh (t) 0 0 22 [some (.inr (.inr v0)), some (.inl v1), some (.inl v2), none] [] Q)
def fX9_findsState_L49 (sh : AwS) (v0 : Int) (v1 : Int) (v2 : Int) (v3 : Int) (M : AwM) : Option ((Int × AwM) ⊕ ((AwM) ⊕ (Int × AwM))) :=
  gd_ (kd_ sh v0 = (0, 9)) ((if v3 < (M v0 66) then gd_ ((kd_ sh (M v0 65)).1 = 1 ∧ (0 : Int) ≤ v3 ∧ v3 < ((kd_ sh (M v0 65)).2 : Int)) ((if (w32 (((M (M v0 65) v3) : Int).tdiv 1024)) = v2 then some (.inr (.inr (v3, M))) else pb (fX9_goesOn_ sh M v0 v1 (M (M v0 65) v3)) <| u1 fun (M19 : AwM) => (some (.inl ((w32 (v3 + 1)), M19))))) else some (.inr (.inl M))))
def p_X9_findsState_L49 (Γ : AwC) (sh : AwS) (v0 : Int) (v1 : Int) (v2 : Int) (Q : State → Prop) (s : Int × AwM) : Prop := AW Γ sh (s.2) 0 0 49 [some (.inr (.inr v0)), some (.inl v1), some (.inl v2), some (.inl (s.1))] [] Q
def x_X9_findsState_L49 (Γ : AwC) (sh : AwS) (v0 : Int) (v1 : Int) (v2 : Int) (Q : State → Prop) : ((AwM) ⊕ (Int × AwM)) → Prop := (Sum.elim (fun (t : AwM) => AW Γ sh (t) 0 0 95 [none, none, none, none] [] Q) (fun (t : Int × AwM) => AW Γ sh (t.2) 0 0 71 [some (.inr (.inr v0)), none, none, some (.inl (t.1))] [] Q))
def fX9_findsState (sh : AwS) (M : AwM) (v0 : Int) (v1 : Int) (v2 : Int) : Option (Int × AwM) :=
  pb (lp (u2 (fX9_findsState_L2 sh v0 v1 v2)) FU (0, M)) (u1 (fun (tq6 : AwM) => gd_ (kd_ sh v0 = (0, 9)) (bd_ (up_ tq6 v0 66 0) fun (M8 : AwM) => (gd_ ((kd_ sh (M8 v0 49)).1 = 1 ∧ (0 : Int) ≤ v1 ∧ v1 < ((kd_ sh (M8 v0 49)).2 : Int)) (gd_ ((kd_ sh (M8 v0 50)).1 = 1 ∧ (0 : Int) ≤ v1 ∧ v1 < ((kd_ sh (M8 v0 50)).2 : Int)) (pb (fX9_reaches sh M8 v0 (M8 (M8 v0 49) v1) (M8 (M8 v0 50) v1) (-1) 100000000) <| u1 fun (M13 : AwM) => (pb (lp (u2 (fX9_findsState_L49 sh v0 v1 v2)) FU (0, M13)) (Sum.elim (u1 (fun (tq20 : AwM) => some ((-1), tq20))) (u2 (fun (x21 : Int) (M22 : AwM) => gd_ ((kd_ sh (M22 v0 65)).1 = 1 ∧ (0 : Int) ≤ x21 ∧ x21 < ((kd_ sh (M22 v0 65)).2 : Int)) (some ((M22 (M22 v0 65) x21), M22))))))))))))
set_option maxRecDepth 100000 in
set_option maxHeartbeats 4000000 in
theorem w_X9_findsState_L2 {Γ : AwC} (hC : AOK Γ RX9 cX9_findsState 4 6 0 0 "findsState" (some .int)) {sh : AwS} {v0 : Int} {v1 : Int} {v2 : Int} {Q : State → Prop} : ∀ s r, u2 (fX9_findsState_L2 sh v0 v1 v2) s = some r → (∀ s', r = .inl s' → p_X9_findsState_L2 Γ sh v0 v1 v2 Q s') → (∀ t, r = .inr t → x_X9_findsState_L2 Γ sh v0 v1 v2 Q t) → p_X9_findsState_L2 Γ sh v0 v1 v2 Q s := by
  intro s r h hL hX
  obtain ⟨v3, M⟩ := s
  replace h := u2_s h
  unfold fX9_findsState_L2 at h
  show AW Γ sh M 0 0 2 [some (.inr (.inr v0)), some (.inl v1), some (.inl v2), some (.inl v3)] [] Q
  refine aw_iload_n (pc' := 3) (i := 3) hC dX9_findsState_2 rfl rfl rfl ?_
  refine aw_sipush (pc' := 6) hC dX9_findsState_3 rfl (by decide) ?_
  refine aw_icmp_ge (tgt := 22) (pc' := 9) hC dX9_findsState_6 (by decide) rfl (fun c1 => ?_) (fun c1 => ?_)
  · replace h := it_n c1 h
    refine aw_sub hC [some (.inr (.inr v0)), some (.inl v1), some (.inl v2), none] ⟨rfl, ⟨rfl, ⟨rfl, trivial⟩⟩⟩ (Nat.le_of_ble_eq_true rfl) ?_
    cases h
    exact hX _ rfl
  · replace h := it_p c1 h
    refine aw_aload_n (pc' := 10) (i := 0) hC dX9_findsState_9 rfl rfl rfl ?_
    obtain ⟨g2, h⟩ := gd_s h
    refine aw_getfield (pc' := 13) (v := (.inr (.inr (M v0 64)))) hC dX9_findsState_10 rfl fl_X9_207 g2 rfl ?_
    refine aw_iload_n (pc' := 14) (i := 3) hC dX9_findsState_13 rfl rfl rfl ?_
    refine aw_iconst (pc' := 15) hC dX9_findsState_14 rfl (by decide) ?_
    obtain ⟨g3, h⟩ := gd_s h
    obtain ⟨M4, e5, h⟩ := bd_s h
    refine aw_ias (pc' := 16) hC dX9_findsState_15 rfl g3 e5 ?_
    refine aw_iinc (pc' := 19) (ls' := [some (.inr (.inr v0)), some (.inl v1), some (.inl v2), some (.inl (w32 (v3 + 1)))]) hC dX9_findsState_16 rfl rfl rfl rfl ?_
    refine aw_goto (tgt := 2) hC dX9_findsState_19 (by decide) ?_
    refine aw_sub hC [some (.inr (.inr v0)), some (.inl v1), some (.inl v2), some (.inl (w32 (v3 + 1)))] ⟨rfl, ⟨rfl, ⟨rfl, ⟨rfl, trivial⟩⟩⟩⟩ (Nat.le_of_ble_eq_true rfl) ?_
    cases h
    exact hL _ rfl
set_option maxRecDepth 100000 in
set_option maxHeartbeats 4000000 in
theorem w_X9_findsState_L49 {Γ : AwC} (hC : AOK Γ RX9 cX9_findsState 4 6 0 0 "findsState" (some .int)) {sh : AwS} {v0 : Int} {v1 : Int} {v2 : Int} {Q : State → Prop} : ∀ s r, u2 (fX9_findsState_L49 sh v0 v1 v2) s = some r → (∀ s', r = .inl s' → p_X9_findsState_L49 Γ sh v0 v1 v2 Q s') → (∀ t, r = .inr t → x_X9_findsState_L49 Γ sh v0 v1 v2 Q t) → p_X9_findsState_L49 Γ sh v0 v1 v2 Q s := by
  intro s r h hL hX
  obtain ⟨v3, M⟩ := s
  replace h := u2_s h
  unfold fX9_findsState_L49 at h
  show AW Γ sh M 0 0 49 [some (.inr (.inr v0)), some (.inl v1), some (.inl v2), some (.inl v3)] [] Q
  refine aw_iload_n (pc' := 50) (i := 3) hC dX9_findsState_49 rfl rfl rfl ?_
  refine aw_aload_n (pc' := 51) (i := 0) hC dX9_findsState_50 rfl rfl rfl ?_
  obtain ⟨g14, h⟩ := gd_s h
  refine aw_getfield (pc' := 54) (v := (.inl (M v0 66))) hC dX9_findsState_51 rfl fl_X9_213 g14 rfl ?_
  refine aw_icmp_ge (tgt := 95) (pc' := 57) hC dX9_findsState_54 (by decide) rfl (fun c15 => ?_) (fun c15 => ?_)
  · replace h := it_n c15 h
    refine aw_sub hC [none, none, none, none] trivial (Nat.le_of_ble_eq_true rfl) ?_
    cases h
    exact hX _ rfl
  · replace h := it_p c15 h
    refine aw_aload_n (pc' := 58) (i := 0) hC dX9_findsState_57 rfl rfl rfl ?_
    refine aw_getfield (pc' := 61) (v := (.inr (.inr (M v0 65)))) hC dX9_findsState_58 rfl fl_X9_210 g14 rfl ?_
    refine aw_iload_n (pc' := 62) (i := 3) hC dX9_findsState_61 rfl rfl rfl ?_
    obtain ⟨g16, h⟩ := gd_s h
    refine aw_iaload (pc' := 63) hC dX9_findsState_62 rfl g16 ?_
    refine aw_sipush (pc' := 66) hC dX9_findsState_63 rfl (by decide) ?_
    refine aw_idiv (pc' := 67) hC dX9_findsState_66 rfl (by decide) ?_
    refine aw_iload_n (pc' := 68) (i := 2) hC dX9_findsState_67 rfl rfl rfl ?_
    refine aw_icmp_ne (tgt := 78) (pc' := 71) hC dX9_findsState_68 (by decide) rfl (fun c17 => ?_) (fun c17 => ?_)
    · replace h := it_n c17 h
      refine aw_aload_n (pc' := 79) (i := 0) hC dX9_findsState_78 rfl rfl rfl ?_
      refine aw_iload_n (pc' := 80) (i := 1) hC dX9_findsState_79 rfl rfl rfl ?_
      refine aw_aload_n (pc' := 81) (i := 0) hC dX9_findsState_80 rfl rfl rfl ?_
      refine aw_getfield (pc' := 84) (v := (.inr (.inr (M v0 65)))) hC dX9_findsState_81 rfl fl_X9_210 g14 rfl ?_
      refine aw_iload_n (pc' := 85) (i := 3) hC dX9_findsState_84 rfl rfl rfl ?_
      refine aw_iaload (pc' := 86) hC dX9_findsState_85 rfl g16 ?_
      obtain ⟨M19, q18, h⟩ := pb_s h
      replace h := u1_s h
      refine aw_cV (pc' := 89) (k2 := 0) (n2 := 0) (st := []) (stN := []) hC [.inl v1, .inl (M (M v0 65) v3)] (mX9_goesOn_ q18) lk_X9_536 g14 dX9_findsState_86 rfl rfl (Nat.le_of_ble_eq_true rfl) (Nat.le_of_ble_eq_true rfl) (Nat.le_of_ble_eq_true rfl) rfl (Nat.le_of_ble_eq_true rfl) rfl rfl rfl ?_
      refine aw_iinc (pc' := 92) (ls' := [some (.inr (.inr v0)), some (.inl v1), some (.inl v2), some (.inl (w32 (v3 + 1)))]) hC dX9_findsState_89 rfl rfl rfl rfl ?_
      refine aw_goto (tgt := 49) hC dX9_findsState_92 (by decide) ?_
      refine aw_sub hC [some (.inr (.inr v0)), some (.inl v1), some (.inl v2), some (.inl (w32 (v3 + 1)))] ⟨rfl, ⟨rfl, ⟨rfl, ⟨rfl, trivial⟩⟩⟩⟩ (Nat.le_of_ble_eq_true rfl) ?_
      cases h
      exact hL _ rfl
    · replace h := it_p c17 h
      refine aw_sub hC [some (.inr (.inr v0)), none, none, some (.inl v3)] ⟨rfl, ⟨rfl, trivial⟩⟩ (Nat.le_of_ble_eq_true rfl) ?_
      cases h
      exact hX _ rfl
set_option maxRecDepth 100000 in
set_option maxHeartbeats 4000000 in
theorem mX9_findsState {sh : AwS} {M : AwM} {v0 : Int} {v1 : Int} {v2 : Int} {r : Int} {M' : AwM} (h : fX9_findsState sh M v0 v1 v2 = some (r, M')) : AMet yX9_findsState cX9_findsState 4 (some .int) 6 0 0 [.inr (.inr v0), .inl v1, .inl v2] sh M (some (.inl r)) sh M' := by
  refine amet_of (by decide +kernel) (Nat.le_of_ble_eq_true rfl) (fun Γ hC => ?_)
  replace hC : AOK Γ RX9 cX9_findsState 4 6 0 0 "findsState" (some .int) := hC
  unfold fX9_findsState at h
  refine aw_sub hC [some (.inr (.inr v0)), some (.inl v1), some (.inl v2), none] ⟨rfl, ⟨rfl, ⟨rfl, trivial⟩⟩⟩ (Nat.le_of_ble_eq_true rfl) ?_
  refine aw_iconst (pc' := 1) hC dX9_findsState_0 rfl (by decide) ?_
  refine aw_istore_n (pc' := 2) (i := 3) (ls' := [some (.inr (.inr v0)), some (.inl v1), some (.inl v2), some (.inl 0)]) hC dX9_findsState_1 rfl rfl (Nat.le_of_ble_eq_true rfl) rfl rfl ?_
  obtain ⟨tq6, q6, h⟩ := pb_s h
  refine aw_sub hC [some (.inr (.inr v0)), some (.inl v1), some (.inl v2), some (.inl 0)] ⟨rfl, ⟨rfl, ⟨rfl, ⟨rfl, trivial⟩⟩⟩⟩ (Nat.le_of_ble_eq_true rfl) ?_
  refine (lp_aw (p_X9_findsState_L2 Γ sh v0 v1 v2 (fin_ Γ 0 0 (some (.inl r)) sh M')) (x_X9_findsState_L2 Γ sh v0 v1 v2 (fin_ Γ 0 0 (some (.inl r)) sh M')) (w_X9_findsState_L2 hC ) FU _ _ q6 ?_ : p_X9_findsState_L2 Γ sh v0 v1 v2 (fin_ Γ 0 0 (some (.inl r)) sh M') (0, M))
  replace h := u1_s h
  show AW Γ sh tq6 0 0 22 [some (.inr (.inr v0)), some (.inl v1), some (.inl v2), none] [] _
  refine aw_aload_n (pc' := 23) (i := 0) hC dX9_findsState_22 rfl rfl rfl ?_
  refine aw_iconst (pc' := 24) hC dX9_findsState_23 rfl (by decide) ?_
  obtain ⟨g7, h⟩ := gd_s h
  obtain ⟨M8, e9, h⟩ := bd_s h
  refine aw_pf (pc' := 27) hC dX9_findsState_24 rfl fp_X9_213 g7 rfl trivial e9 ?_
  refine aw_aload_n (pc' := 28) (i := 0) hC dX9_findsState_27 rfl rfl rfl ?_
  refine aw_aload_n (pc' := 29) (i := 0) hC dX9_findsState_28 rfl rfl rfl ?_
  refine aw_getfield (pc' := 32) (v := (.inr (.inr (M8 v0 49)))) hC dX9_findsState_29 rfl fl_X9_162 g7 rfl ?_
  refine aw_iload_n (pc' := 33) (i := 1) hC dX9_findsState_32 rfl rfl rfl ?_
  obtain ⟨g10, h⟩ := gd_s h
  refine aw_iaload (pc' := 34) hC dX9_findsState_33 rfl g10 ?_
  refine aw_aload_n (pc' := 35) (i := 0) hC dX9_findsState_34 rfl rfl rfl ?_
  refine aw_getfield (pc' := 38) (v := (.inr (.inr (M8 v0 50)))) hC dX9_findsState_35 rfl fl_X9_165 g7 rfl ?_
  refine aw_iload_n (pc' := 39) (i := 1) hC dX9_findsState_38 rfl rfl rfl ?_
  obtain ⟨g11, h⟩ := gd_s h
  refine aw_iaload (pc' := 40) hC dX9_findsState_39 rfl g11 ?_
  refine aw_iconst (pc' := 41) hC dX9_findsState_40 rfl (by decide) ?_
  refine aw_ldcw (pc' := 44) (v := 100000000) hC dX9_findsState_41 rfl ck_X9_535 (by unfold I32; omega) ?_
  obtain ⟨M13, q12, h⟩ := pb_s h
  replace h := u1_s h
  refine aw_cV (pc' := 47) (k2 := 0) (n2 := 0) (st := []) (stN := []) hC [.inl (M8 (M8 v0 49) v1), .inl (M8 (M8 v0 50) v1), .inl (-1), .inl 100000000] (mX9_reaches q12) lk_X9_531 g7 dX9_findsState_44 rfl rfl (Nat.le_of_ble_eq_true rfl) (Nat.le_of_ble_eq_true rfl) (Nat.le_of_ble_eq_true rfl) rfl (Nat.le_of_ble_eq_true rfl) rfl rfl rfl ?_
  refine aw_iconst (pc' := 48) hC dX9_findsState_47 rfl (by decide) ?_
  refine aw_istore_n (pc' := 49) (i := 3) (ls' := [some (.inr (.inr v0)), some (.inl v1), some (.inl v2), some (.inl 0)]) hC dX9_findsState_48 rfl rfl (Nat.le_of_ble_eq_true rfl) rfl rfl ?_
  obtain ⟨tq20, q20, h⟩ := pb_s h
  refine aw_sub hC [some (.inr (.inr v0)), some (.inl v1), some (.inl v2), some (.inl 0)] ⟨rfl, ⟨rfl, ⟨rfl, ⟨rfl, trivial⟩⟩⟩⟩ (Nat.le_of_ble_eq_true rfl) ?_
  refine (lp_aw (p_X9_findsState_L49 Γ sh v0 v1 v2 (fin_ Γ 0 0 (some (.inl r)) sh M')) (x_X9_findsState_L49 Γ sh v0 v1 v2 (fin_ Γ 0 0 (some (.inl r)) sh M')) (w_X9_findsState_L49 hC ) FU _ _ q20 ?_ : p_X9_findsState_L49 Γ sh v0 v1 v2 (fin_ Γ 0 0 (some (.inl r)) sh M') (0, M13))
  rcases tq20 with tq20 | tq20
  · replace h := se_l h
    replace h := u1_s h
    show AW Γ sh tq20 0 0 95 [none, none, none, none] [] _
    refine aw_iconst (pc' := 96) hC dX9_findsState_95 rfl (by decide) ?_
    cases h
    exact aw_iret hC dX9_findsState_96 (Nat.le_of_ble_eq_true rfl) (Nat.le_of_ble_eq_true rfl)
  · replace h := se_r h
    obtain ⟨x21, M22⟩ := tq20
    replace h := u2_s h
    show AW Γ sh M22 0 0 71 [some (.inr (.inr v0)), none, none, some (.inl x21)] [] _
    refine aw_aload_n (pc' := 72) (i := 0) hC dX9_findsState_71 rfl rfl rfl ?_
    refine aw_getfield (pc' := 75) (v := (.inr (.inr (M22 v0 65)))) hC dX9_findsState_72 rfl fl_X9_210 g7 rfl ?_
    refine aw_iload_n (pc' := 76) (i := 3) hC dX9_findsState_75 rfl rfl rfl ?_
    obtain ⟨g23, h⟩ := gd_s h
    refine aw_iaload (pc' := 77) hC dX9_findsState_76 rfl g23 ?_
    cases h
    exact aw_iret hC dX9_findsState_77 (Nat.le_of_ble_eq_true rfl) (Nat.le_of_ble_eq_true rfl)
-- CoinCircleModel.comes(III)I
def fX9_comes_L41 (sh : AwS) (M : AwM) (v0 : Int) (v3 : Int) (v4 : Int) (v5 : Int) (v6 : Int) : Option ((Int × Int) ⊕ (Int)) :=
  gd_ (kd_ sh v0 = (0, 9)) (gd_ ((kd_ sh (M v0 63)).1 = 1 ∧ (0 : Int) ≤ v6 ∧ v6 < ((kd_ sh (M v0 63)).2 : Int)) ((if (M (M v0 63) v6) = (-1) then some (.inr v5) else some (.inl ((w32 (v5 + 1)), (M (M v0 63) v6))))))
def p_X9_comes_L41 (Γ : AwC) (sh : AwS) (M : AwM) (v0 : Int) (v3 : Int) (v4 : Int) (Q : State → Prop) (s : Int × Int) : Prop := AW Γ sh M 0 0 41 [some (.inr (.inr v0)), none, none, some (.inl v3), some (.inl v4), some (.inl (s.1)), some (.inl (s.2)), none] [] Q
def x_X9_comes_L41 (Γ : AwC) (sh : AwS) (M : AwM) (v0 : Int) (v3 : Int) (v4 : Int) (Q : State → Prop) : (Int) → Prop := (fun (t : Int) => AW Γ sh M 0 0 67 [some (.inr (.inr v0)), none, none, some (.inl v3), some (.inl v4), some (.inl (t)), none, none] [] Q)
def fX9_comes_L99 (sh : AwS) (M : AwM) (v0 : Int) (v3 : Int) (v6 : Int) (v7 : Int) : Option ((Int × Int) ⊕ (Int)) :=
  (if v3 < v7 then gd_ (kd_ sh v0 = (0, 9)) (gd_ ((kd_ sh (M v0 63)).1 = 1 ∧ (0 : Int) ≤ v6 ∧ v6 < ((kd_ sh (M v0 63)).2 : Int)) (some (.inl ((M (M v0 63) v6), (w32 (v7 + (-1))))))) else some (.inr v6))
def p_X9_comes_L99 (Γ : AwC) (sh : AwS) (M : AwM) (v0 : Int) (v3 : Int) (Q : State → Prop) (s : Int × Int) : Prop := AW Γ sh M 0 0 99 [some (.inr (.inr v0)), none, none, some (.inl v3), none, none, some (.inl (s.1)), some (.inl (s.2))] [] Q
def x_X9_comes_L99 (Γ : AwC) (sh : AwS) (M : AwM) (v0 : Int) (v3 : Int) (Q : State → Prop) : (Int) → Prop := (fun (t : Int) => AW Γ sh M 0 0 120 [some (.inr (.inr v0)), none, none, none, none, none, some (.inl (t)), none] [] Q)
def fX9_comes (sh : AwS) (M : AwM) (v0 : Int) (v1 : Int) (v2 : Int) (v3 : Int) : Option (Int × AwM) :=
  gd_ (kd_ sh v0 = (0, 9)) (pb (fX9_isCoin sh M v0 v1) <| u1 fun (x3 : Int) => ((if x3 = 0 then some ((-1), M) else pb (fX9_isPerson sh M v0 v2) <| u1 fun (x6 : Int) => ((if x6 = 0 then some ((-1), M) else pb (fX9_findsState sh M v0 v1 v2) <| u2 fun (x9 : Int) (M10 : AwM) => ((if x9 = (-1) then some ((-1), M10) else pb (lp (u2 (fX9_comes_L41 sh M10 v0 v3 x9)) FU (0, x9)) (u1 (fun (tq15 : Int) => (if v3 = (-1) then some (tq15, M10) else pb (fX9_is sh M10 v3 0 (w32 (tq15 - 1))) <| u1 fun (x18 : Int) => ((if x18 = 0 then some ((-1), M10) else pb (lp (u2 (fX9_comes_L99 sh M10 v0 v3)) FU (x9, (w32 (tq15 - 1)))) (u1 (fun (tq23 : Int) => gd_ ((kd_ sh (M10 v0 64)).1 = 1 ∧ (0 : Int) ≤ tq23 ∧ tq23 < ((kd_ sh (M10 v0 64)).2 : Int)) (some ((M10 (M10 v0 64) tq23), M10))))))))))))))))
set_option maxRecDepth 100000 in
set_option maxHeartbeats 4000000 in
theorem w_X9_comes_L41 {Γ : AwC} (hC : AOK Γ RX9 cX9_comes 8 7 0 0 "comes" (some .int)) {sh : AwS} {M : AwM} {v0 : Int} {v3 : Int} {v4 : Int} {Q : State → Prop} : ∀ s r, u2 (fX9_comes_L41 sh M v0 v3 v4) s = some r → (∀ s', r = .inl s' → p_X9_comes_L41 Γ sh M v0 v3 v4 Q s') → (∀ t, r = .inr t → x_X9_comes_L41 Γ sh M v0 v3 v4 Q t) → p_X9_comes_L41 Γ sh M v0 v3 v4 Q s := by
  intro s r h hL hX
  obtain ⟨v5, v6⟩ := s
  replace h := u2_s h
  unfold fX9_comes_L41 at h
  show AW Γ sh M 0 0 41 [some (.inr (.inr v0)), none, none, some (.inl v3), some (.inl v4), some (.inl v5), some (.inl v6), none] [] Q
  refine aw_aload_n (pc' := 42) (i := 0) hC dX9_comes_41 rfl rfl rfl ?_
  obtain ⟨g12, h⟩ := gd_s h
  refine aw_getfield (pc' := 45) (v := (.inr (.inr (M v0 63)))) hC dX9_comes_42 rfl fl_X9_204 g12 rfl ?_
  refine aw_iload (pc' := 47) hC dX9_comes_45 rfl rfl ?_
  obtain ⟨g13, h⟩ := gd_s h
  refine aw_iaload (pc' := 48) hC dX9_comes_47 rfl g13 ?_
  refine aw_iconst (pc' := 49) hC dX9_comes_48 rfl (by decide) ?_
  refine aw_icmp_eq (tgt := 67) (pc' := 52) hC dX9_comes_49 (by decide) rfl (fun c14 => ?_) (fun c14 => ?_)
  · replace h := it_p c14 h
    refine aw_sub hC [some (.inr (.inr v0)), none, none, some (.inl v3), some (.inl v4), some (.inl v5), none, none] ⟨rfl, ⟨rfl, ⟨rfl, ⟨rfl, trivial⟩⟩⟩⟩ (Nat.le_of_ble_eq_true rfl) ?_
    cases h
    exact hX _ rfl
  · replace h := it_n c14 h
    refine aw_iinc (pc' := 55) (ls' := [some (.inr (.inr v0)), none, none, some (.inl v3), some (.inl v4), some (.inl (w32 (v5 + 1))), some (.inl v6), none]) hC dX9_comes_52 rfl rfl rfl rfl ?_
    refine aw_aload_n (pc' := 56) (i := 0) hC dX9_comes_55 rfl rfl rfl ?_
    refine aw_getfield (pc' := 59) (v := (.inr (.inr (M v0 63)))) hC dX9_comes_56 rfl fl_X9_204 g12 rfl ?_
    refine aw_iload (pc' := 61) hC dX9_comes_59 rfl rfl ?_
    refine aw_iaload (pc' := 62) hC dX9_comes_61 rfl g13 ?_
    refine aw_istore (pc' := 64) (ls' := [some (.inr (.inr v0)), none, none, some (.inl v3), some (.inl v4), some (.inl (w32 (v5 + 1))), some (.inl (M (M v0 63) v6)), none]) hC dX9_comes_62 rfl (Nat.le_of_ble_eq_true rfl) rfl rfl ?_
    refine aw_goto (tgt := 41) hC dX9_comes_64 (by decide) ?_
    refine aw_sub hC [some (.inr (.inr v0)), none, none, some (.inl v3), some (.inl v4), some (.inl (w32 (v5 + 1))), some (.inl (M (M v0 63) v6)), none] ⟨rfl, ⟨rfl, ⟨rfl, ⟨rfl, ⟨rfl, trivial⟩⟩⟩⟩⟩ (Nat.le_of_ble_eq_true rfl) ?_
    cases h
    exact hL _ rfl
set_option maxRecDepth 100000 in
set_option maxHeartbeats 4000000 in
theorem w_X9_comes_L99 {Γ : AwC} (hC : AOK Γ RX9 cX9_comes 8 7 0 0 "comes" (some .int)) {sh : AwS} {M : AwM} {v0 : Int} {v3 : Int} {Q : State → Prop} : ∀ s r, u2 (fX9_comes_L99 sh M v0 v3) s = some r → (∀ s', r = .inl s' → p_X9_comes_L99 Γ sh M v0 v3 Q s') → (∀ t, r = .inr t → x_X9_comes_L99 Γ sh M v0 v3 Q t) → p_X9_comes_L99 Γ sh M v0 v3 Q s := by
  intro s r h hL hX
  obtain ⟨v6, v7⟩ := s
  replace h := u2_s h
  unfold fX9_comes_L99 at h
  show AW Γ sh M 0 0 99 [some (.inr (.inr v0)), none, none, some (.inl v3), none, none, some (.inl v6), some (.inl v7)] [] Q
  refine aw_iload (pc' := 101) hC dX9_comes_99 rfl rfl ?_
  refine aw_iload_n (pc' := 102) (i := 3) hC dX9_comes_101 rfl rfl rfl ?_
  refine aw_icmp_le (tgt := 120) (pc' := 105) hC dX9_comes_102 (by decide) rfl (fun c20 => ?_) (fun c20 => ?_)
  · replace h := it_n c20 h
    refine aw_sub hC [some (.inr (.inr v0)), none, none, none, none, none, some (.inl v6), none] ⟨rfl, ⟨rfl, trivial⟩⟩ (Nat.le_of_ble_eq_true rfl) ?_
    cases h
    exact hX _ rfl
  · replace h := it_p c20 h
    refine aw_aload_n (pc' := 106) (i := 0) hC dX9_comes_105 rfl rfl rfl ?_
    obtain ⟨g21, h⟩ := gd_s h
    refine aw_getfield (pc' := 109) (v := (.inr (.inr (M v0 63)))) hC dX9_comes_106 rfl fl_X9_204 g21 rfl ?_
    refine aw_iload (pc' := 111) hC dX9_comes_109 rfl rfl ?_
    obtain ⟨g22, h⟩ := gd_s h
    refine aw_iaload (pc' := 112) hC dX9_comes_111 rfl g22 ?_
    refine aw_istore (pc' := 114) (ls' := [some (.inr (.inr v0)), none, none, some (.inl v3), none, none, some (.inl (M (M v0 63) v6)), some (.inl v7)]) hC dX9_comes_112 rfl (Nat.le_of_ble_eq_true rfl) rfl rfl ?_
    refine aw_iinc (pc' := 117) (ls' := [some (.inr (.inr v0)), none, none, some (.inl v3), none, none, some (.inl (M (M v0 63) v6)), some (.inl (w32 (v7 + (-1))))]) hC dX9_comes_114 rfl rfl rfl rfl ?_
    refine aw_goto (tgt := 99) hC dX9_comes_117 (by decide) ?_
    refine aw_sub hC [some (.inr (.inr v0)), none, none, some (.inl v3), none, none, some (.inl (M (M v0 63) v6)), some (.inl (w32 (v7 + (-1))))] ⟨rfl, ⟨rfl, ⟨rfl, ⟨rfl, trivial⟩⟩⟩⟩ (Nat.le_of_ble_eq_true rfl) ?_
    cases h
    exact hL _ rfl
set_option maxRecDepth 100000 in
set_option maxHeartbeats 4000000 in
theorem mX9_comes {sh : AwS} {M : AwM} {v0 : Int} {v1 : Int} {v2 : Int} {v3 : Int} {r : Int} {M' : AwM} (h : fX9_comes sh M v0 v1 v2 v3 = some (r, M')) : AMet yX9_comes cX9_comes 8 (some .int) 7 0 0 [.inr (.inr v0), .inl v1, .inl v2, .inl v3] sh M (some (.inl r)) sh M' := by
  refine amet_of (by decide +kernel) (Nat.le_of_ble_eq_true rfl) (fun Γ hC => ?_)
  replace hC : AOK Γ RX9 cX9_comes 8 7 0 0 "comes" (some .int) := hC
  unfold fX9_comes at h
  refine aw_sub hC [some (.inr (.inr v0)), some (.inl v1), some (.inl v2), some (.inl v3), none, none, none, none] ⟨rfl, ⟨rfl, ⟨rfl, ⟨rfl, trivial⟩⟩⟩⟩ (Nat.le_of_ble_eq_true rfl) ?_
  refine aw_aload_n (pc' := 1) (i := 0) hC dX9_comes_0 rfl rfl rfl ?_
  refine aw_iload_n (pc' := 2) (i := 1) hC dX9_comes_1 rfl rfl rfl ?_
  obtain ⟨g2, h⟩ := gd_s h
  obtain ⟨x3, q1, h⟩ := pb_s h
  replace h := u1_s h
  refine aw_cV (pc' := 5) (k2 := 0) (n2 := 0) (st := []) (stN := [.inl x3]) hC [.inl v1] (mX9_isCoin q1) lk_X9_477 g2 dX9_comes_2 rfl rfl (Nat.le_of_ble_eq_true rfl) (Nat.le_of_ble_eq_true rfl) (Nat.le_of_ble_eq_true rfl) rfl (Nat.le_of_ble_eq_true rfl) rfl rfl rfl ?_
  refine aw_if_eq (tgt := 16) (pc' := 8) hC dX9_comes_5 (by decide) rfl (fun c4 => ?_) (fun c4 => ?_)
  · replace h := it_p c4 h
    refine aw_iconst (pc' := 17) hC dX9_comes_16 rfl (by decide) ?_
    cases h
    exact aw_iret hC dX9_comes_17 (Nat.le_of_ble_eq_true rfl) (Nat.le_of_ble_eq_true rfl)
  · replace h := it_n c4 h
    refine aw_aload_n (pc' := 9) (i := 0) hC dX9_comes_8 rfl rfl rfl ?_
    refine aw_iload_n (pc' := 10) (i := 2) hC dX9_comes_9 rfl rfl rfl ?_
    obtain ⟨x6, q5, h⟩ := pb_s h
    replace h := u1_s h
    refine aw_cV (pc' := 13) (k2 := 0) (n2 := 0) (st := []) (stN := [.inl x6]) hC [.inl v2] (mX9_isPerson q5) lk_X9_471 g2 dX9_comes_10 rfl rfl (Nat.le_of_ble_eq_true rfl) (Nat.le_of_ble_eq_true rfl) (Nat.le_of_ble_eq_true rfl) rfl (Nat.le_of_ble_eq_true rfl) rfl rfl rfl ?_
    refine aw_if_ne (tgt := 18) (pc' := 16) hC dX9_comes_13 (by decide) rfl (fun c7 => ?_) (fun c7 => ?_)
    · replace h := it_n c7 h
      refine aw_aload_n (pc' := 19) (i := 0) hC dX9_comes_18 rfl rfl rfl ?_
      refine aw_iload_n (pc' := 20) (i := 1) hC dX9_comes_19 rfl rfl rfl ?_
      refine aw_iload_n (pc' := 21) (i := 2) hC dX9_comes_20 rfl rfl rfl ?_
      obtain ⟨⟨x9, M10⟩, q8, h⟩ := pb_s h
      replace h := u2_s h
      refine aw_cV (pc' := 24) (k2 := 0) (n2 := 0) (st := []) (stN := [.inl x9]) hC [.inl v1, .inl v2] (mX9_findsState q8) lk_X9_538 g2 dX9_comes_21 rfl rfl (Nat.le_of_ble_eq_true rfl) (Nat.le_of_ble_eq_true rfl) (Nat.le_of_ble_eq_true rfl) rfl (Nat.le_of_ble_eq_true rfl) rfl rfl rfl ?_
      refine aw_istore (pc' := 26) (ls' := [some (.inr (.inr v0)), some (.inl v1), some (.inl v2), some (.inl v3), some (.inl x9), none, none, none]) hC dX9_comes_24 rfl (Nat.le_of_ble_eq_true rfl) rfl rfl ?_
      refine aw_iload (pc' := 28) hC dX9_comes_26 rfl rfl ?_
      refine aw_iconst (pc' := 29) hC dX9_comes_28 rfl (by decide) ?_
      refine aw_icmp_ne (tgt := 34) (pc' := 32) hC dX9_comes_29 (by decide) rfl (fun c11 => ?_) (fun c11 => ?_)
      · replace h := it_n c11 h
        refine aw_iconst (pc' := 35) hC dX9_comes_34 rfl (by decide) ?_
        refine aw_istore (pc' := 37) (ls' := [some (.inr (.inr v0)), some (.inl v1), some (.inl v2), some (.inl v3), some (.inl x9), some (.inl 0), none, none]) hC dX9_comes_35 rfl (Nat.le_of_ble_eq_true rfl) rfl rfl ?_
        refine aw_iload (pc' := 39) hC dX9_comes_37 rfl rfl ?_
        refine aw_istore (pc' := 41) (ls' := [some (.inr (.inr v0)), some (.inl v1), some (.inl v2), some (.inl v3), some (.inl x9), some (.inl 0), some (.inl x9), none]) hC dX9_comes_39 rfl (Nat.le_of_ble_eq_true rfl) rfl rfl ?_
        obtain ⟨tq15, q15, h⟩ := pb_s h
        refine aw_sub hC [some (.inr (.inr v0)), none, none, some (.inl v3), some (.inl x9), some (.inl 0), some (.inl x9), none] ⟨rfl, ⟨rfl, ⟨rfl, ⟨rfl, ⟨rfl, trivial⟩⟩⟩⟩⟩ (Nat.le_of_ble_eq_true rfl) ?_
        refine (lp_aw (p_X9_comes_L41 Γ sh M10 v0 v3 x9 (fin_ Γ 0 0 (some (.inl r)) sh M')) (x_X9_comes_L41 Γ sh M10 v0 v3 x9 (fin_ Γ 0 0 (some (.inl r)) sh M')) (w_X9_comes_L41 hC ) FU _ _ q15 ?_ : p_X9_comes_L41 Γ sh M10 v0 v3 x9 (fin_ Γ 0 0 (some (.inl r)) sh M') (0, x9))
        replace h := u1_s h
        show AW Γ sh M10 0 0 67 [some (.inr (.inr v0)), none, none, some (.inl v3), some (.inl x9), some (.inl tq15), none, none] [] _
        refine aw_iload_n (pc' := 68) (i := 3) hC dX9_comes_67 rfl rfl rfl ?_
        refine aw_iconst (pc' := 69) hC dX9_comes_68 rfl (by decide) ?_
        refine aw_icmp_ne (tgt := 75) (pc' := 72) hC dX9_comes_69 (by decide) rfl (fun c16 => ?_) (fun c16 => ?_)
        · replace h := it_n c16 h
          refine aw_iload_n (pc' := 76) (i := 3) hC dX9_comes_75 rfl rfl rfl ?_
          refine aw_iconst (pc' := 77) hC dX9_comes_76 rfl (by decide) ?_
          refine aw_iload (pc' := 79) hC dX9_comes_77 rfl rfl ?_
          refine aw_iconst (pc' := 80) hC dX9_comes_79 rfl (by decide) ?_
          refine aw_isub (pc' := 81) hC dX9_comes_80 rfl  ?_
          obtain ⟨x18, q17, h⟩ := pb_s h
          replace h := u1_s h
          refine aw_cS (pc' := 84) (k2 := 0) (n2 := 0) (st := []) (stN := [.inl x18]) hC [.inl v3, .inl 0, .inl (w32 (tq15 - 1))] (mX9_is q17) lk_X9_314 dX9_comes_81 rfl rfl (Nat.le_of_ble_eq_true rfl) (Nat.le_of_ble_eq_true rfl) (Nat.le_of_ble_eq_true rfl) rfl (Nat.le_of_ble_eq_true rfl) rfl rfl rfl ?_
          refine aw_if_ne (tgt := 89) (pc' := 87) hC dX9_comes_84 (by decide) rfl (fun c19 => ?_) (fun c19 => ?_)
          · replace h := it_n c19 h
            refine aw_iload (pc' := 91) hC dX9_comes_89 rfl rfl ?_
            refine aw_istore (pc' := 93) (ls' := [some (.inr (.inr v0)), none, none, some (.inl v3), some (.inl x9), some (.inl tq15), some (.inl x9), none]) hC dX9_comes_91 rfl (Nat.le_of_ble_eq_true rfl) rfl rfl ?_
            refine aw_iload (pc' := 95) hC dX9_comes_93 rfl rfl ?_
            refine aw_iconst (pc' := 96) hC dX9_comes_95 rfl (by decide) ?_
            refine aw_isub (pc' := 97) hC dX9_comes_96 rfl  ?_
            refine aw_istore (pc' := 99) (ls' := [some (.inr (.inr v0)), none, none, some (.inl v3), some (.inl x9), some (.inl tq15), some (.inl x9), some (.inl (w32 (tq15 - 1)))]) hC dX9_comes_97 rfl (Nat.le_of_ble_eq_true rfl) rfl rfl ?_
            obtain ⟨tq23, q23, h⟩ := pb_s h
            refine aw_sub hC [some (.inr (.inr v0)), none, none, some (.inl v3), none, none, some (.inl x9), some (.inl (w32 (tq15 - 1)))] ⟨rfl, ⟨rfl, ⟨rfl, ⟨rfl, trivial⟩⟩⟩⟩ (Nat.le_of_ble_eq_true rfl) ?_
            refine (lp_aw (p_X9_comes_L99 Γ sh M10 v0 v3 (fin_ Γ 0 0 (some (.inl r)) sh M')) (x_X9_comes_L99 Γ sh M10 v0 v3 (fin_ Γ 0 0 (some (.inl r)) sh M')) (w_X9_comes_L99 hC ) FU _ _ q23 ?_ : p_X9_comes_L99 Γ sh M10 v0 v3 (fin_ Γ 0 0 (some (.inl r)) sh M') (x9, (w32 (tq15 - 1))))
            replace h := u1_s h
            show AW Γ sh M10 0 0 120 [some (.inr (.inr v0)), none, none, none, none, none, some (.inl tq23), none] [] _
            refine aw_aload_n (pc' := 121) (i := 0) hC dX9_comes_120 rfl rfl rfl ?_
            refine aw_getfield (pc' := 124) (v := (.inr (.inr (M10 v0 64)))) hC dX9_comes_121 rfl fl_X9_207 g2 rfl ?_
            refine aw_iload (pc' := 126) hC dX9_comes_124 rfl rfl ?_
            obtain ⟨g24, h⟩ := gd_s h
            refine aw_iaload (pc' := 127) hC dX9_comes_126 rfl g24 ?_
            cases h
            exact aw_iret hC dX9_comes_127 (Nat.le_of_ble_eq_true rfl) (Nat.le_of_ble_eq_true rfl)
          · replace h := it_p c19 h
            refine aw_iconst (pc' := 88) hC dX9_comes_87 rfl (by decide) ?_
            cases h
            exact aw_iret hC dX9_comes_88 (Nat.le_of_ble_eq_true rfl) (Nat.le_of_ble_eq_true rfl)
        · replace h := it_p c16 h
          refine aw_iload (pc' := 74) hC dX9_comes_72 rfl rfl ?_
          cases h
          exact aw_iret hC dX9_comes_74 (Nat.le_of_ble_eq_true rfl) (Nat.le_of_ble_eq_true rfl)
      · replace h := it_p c11 h
        refine aw_iconst (pc' := 33) hC dX9_comes_32 rfl (by decide) ?_
        cases h
        exact aw_iret hC dX9_comes_33 (Nat.le_of_ble_eq_true rfl) (Nat.le_of_ble_eq_true rfl)
    · replace h := it_p c7 h
      refine aw_iconst (pc' := 17) hC dX9_comes_16 rfl (by decide) ?_
      cases h
      exact aw_iret hC dX9_comes_17 (Nat.le_of_ble_eq_true rfl) (Nat.le_of_ble_eq_true rfl)
-- CoinCircleModel.best(II)I
def fX9_best_L41 (sh : AwS) (v0 : Int) (v1 : Int) (v2 : Int) (v3 : Int) (v4 : Int) (v5 : Int) (M : AwM) : Option ((Int × Int × Int × AwM) ⊕ (Int × Int × AwM)) :=
  gd_ (kd_ sh v0 = (0, 9)) (gd_ ((kd_ sh (M v0 14)).1 = 1 ∧ (0 : Int) ≤ (M v0 13) ∧ (M v0 13) < ((kd_ sh (M v0 14)).2 : Int)) ((if v5 < (sl_ 1 (M (M v0 14) (M v0 13))) then pb (fX9_bits sh M v5) <| u1 fun (x14 : Int) => ((if x14 = v1 then pb (fX9_copies sh M v0 1 0) <| u1 fun (M17 : AwM) => (pb (fX9_teaOf sh M17 v0 1 v5) <| u2 fun (x19 : Int) (M20 : AwM) => (pb (fX9_flowOf sh M20 v0 1) <| u1 fun (x22 : Int) => ((if v4 < x22 then pb (fX9_flowOf sh M20 v0 1) <| u1 fun (x25 : Int) => (some (.inl (v5, x25, (w32 (v5 + 1)), M20))) else some (.inl (v3, v4, (w32 (v5 + 1)), M20)))))) else some (.inl (v3, v4, (w32 (v5 + 1)), M)))) else some (.inr (v3, v4, M)))))
def p_X9_best_L41 (Γ : AwC) (sh : AwS) (v0 : Int) (v1 : Int) (v2 : Int) (Q : State → Prop) (s : Int × Int × Int × AwM) : Prop := AW Γ sh (s.2.2.2) 0 0 41 [some (.inr (.inr v0)), some (.inl v1), some (.inl v2), some (.inl (s.1)), some (.inl (s.2.1)), some (.inl (s.2.2.1))] [] Q
def x_X9_best_L41 (Γ : AwC) (sh : AwS) (v0 : Int) (v1 : Int) (v2 : Int) (Q : State → Prop) : (Int × Int × AwM) → Prop := (fun (t : Int × Int × AwM) => AW Γ sh (t.2.2) 0 0 112 [none, none, some (.inl v2), some (.inl (t.1)), some (.inl (t.2.1)), none] [] Q)
def fX9_best (sh : AwS) (M : AwM) (v0 : Int) (v1 : Int) (v2 : Int) : Option (Int × AwM) :=
  pb (fX9_is sh M v1 2 4) <| u1 fun (x2 : Int) => ((if x2 = 0 then some ((-1), M) else gd_ (kd_ sh v0 = (0, 9)) (gd_ ((kd_ sh (M v0 14)).1 = 1 ∧ (0 : Int) ≤ (M v0 13) ∧ (M v0 13) < ((kd_ sh (M v0 14)).2 : Int)) ((if (M (M v0 14) (M v0 13)) < v1 then some ((-1), M) else pb (fX9_is sh M v2 0 1) <| u1 fun (x8 : Int) => ((if x8 = 0 then some ((-1), M) else pb (lp (u4 (fX9_best_L41 sh v0 v1 v2)) FU ((-1), (-1), 0, M)) (u3 (fun (x27 : Int) (x28 : Int) (M29 : AwM) => (if v2 = 0 then some (x27, M29) else some (x28, M29)))))))))))
set_option maxRecDepth 100000 in
set_option maxHeartbeats 4000000 in
theorem w_X9_best_L41 {Γ : AwC} (hC : AOK Γ RX9 cX9_best 6 7 0 0 "best" (some .int)) {sh : AwS} {v0 : Int} {v1 : Int} {v2 : Int} {Q : State → Prop} : ∀ s r, u4 (fX9_best_L41 sh v0 v1 v2) s = some r → (∀ s', r = .inl s' → p_X9_best_L41 Γ sh v0 v1 v2 Q s') → (∀ t, r = .inr t → x_X9_best_L41 Γ sh v0 v1 v2 Q t) → p_X9_best_L41 Γ sh v0 v1 v2 Q s := by
  intro s r h hL hX
  obtain ⟨v3, v4, v5, M⟩ := s
  replace h := u4_s h
  unfold fX9_best_L41 at h
  show AW Γ sh M 0 0 41 [some (.inr (.inr v0)), some (.inl v1), some (.inl v2), some (.inl v3), some (.inl v4), some (.inl v5)] [] Q
  refine aw_iload (pc' := 43) hC dX9_best_41 rfl rfl ?_
  refine aw_iconst (pc' := 44) hC dX9_best_43 rfl (by decide) ?_
  refine aw_aload_n (pc' := 45) (i := 0) hC dX9_best_44 rfl rfl rfl ?_
  obtain ⟨g10, h⟩ := gd_s h
  refine aw_getfield (pc' := 48) (v := (.inr (.inr (M v0 14)))) hC dX9_best_45 rfl fl_X9_54 g10 rfl ?_
  refine aw_aload_n (pc' := 49) (i := 0) hC dX9_best_48 rfl rfl rfl ?_
  refine aw_getfield (pc' := 52) (v := (.inl (M v0 13))) hC dX9_best_49 rfl fl_X9_51 g10 rfl ?_
  obtain ⟨g11, h⟩ := gd_s h
  refine aw_iaload (pc' := 53) hC dX9_best_52 rfl g11 ?_
  refine aw_ishl (pc' := 54) hC dX9_best_53 rfl  ?_
  refine aw_icmp_ge (tgt := 112) (pc' := 57) hC dX9_best_54 (by decide) rfl (fun c12 => ?_) (fun c12 => ?_)
  · replace h := it_n c12 h
    refine aw_sub hC [none, none, some (.inl v2), some (.inl v3), some (.inl v4), none] ⟨rfl, ⟨rfl, ⟨rfl, trivial⟩⟩⟩ (Nat.le_of_ble_eq_true rfl) ?_
    cases h
    exact hX _ rfl
  · replace h := it_p c12 h
    refine aw_iload (pc' := 59) hC dX9_best_57 rfl rfl ?_
    obtain ⟨x14, q13, h⟩ := pb_s h
    replace h := u1_s h
    refine aw_cS (pc' := 62) (k2 := 0) (n2 := 0) (st := []) (stN := [.inl x14]) hC [.inl v5] (mX9_bits q13) lk_X9_448 dX9_best_59 rfl rfl (Nat.le_of_ble_eq_true rfl) (Nat.le_of_ble_eq_true rfl) (Nat.le_of_ble_eq_true rfl) rfl (Nat.le_of_ble_eq_true rfl) rfl rfl rfl ?_
    refine aw_iload_n (pc' := 63) (i := 1) hC dX9_best_62 rfl rfl rfl ?_
    refine aw_icmp_eq (tgt := 69) (pc' := 66) hC dX9_best_63 (by decide) rfl (fun c15 => ?_) (fun c15 => ?_)
    · replace h := it_p c15 h
      refine aw_aload_n (pc' := 70) (i := 0) hC dX9_best_69 rfl rfl rfl ?_
      refine aw_iconst (pc' := 71) hC dX9_best_70 rfl (by decide) ?_
      refine aw_iconst (pc' := 72) hC dX9_best_71 rfl (by decide) ?_
      obtain ⟨M17, q16, h⟩ := pb_s h
      replace h := u1_s h
      refine aw_cV (pc' := 75) (k2 := 0) (n2 := 0) (st := []) (stN := []) hC [.inl 1, .inl 0] (mX9_copies q16) lk_X9_416 g10 dX9_best_72 rfl rfl (Nat.le_of_ble_eq_true rfl) (Nat.le_of_ble_eq_true rfl) (Nat.le_of_ble_eq_true rfl) rfl (Nat.le_of_ble_eq_true rfl) rfl rfl rfl ?_
      refine aw_aload_n (pc' := 76) (i := 0) hC dX9_best_75 rfl rfl rfl ?_
      refine aw_iconst (pc' := 77) hC dX9_best_76 rfl (by decide) ?_
      refine aw_iload (pc' := 79) hC dX9_best_77 rfl rfl ?_
      obtain ⟨⟨x19, M20⟩, q18, h⟩ := pb_s h
      replace h := u2_s h
      refine aw_cV (pc' := 82) (k2 := 0) (n2 := 0) (st := []) (stN := [.inl x19]) hC [.inl 1, .inl v5] (mX9_teaOf q18) lk_X9_514 g10 dX9_best_79 rfl rfl (Nat.le_of_ble_eq_true rfl) (Nat.le_of_ble_eq_true rfl) (Nat.le_of_ble_eq_true rfl) rfl (Nat.le_of_ble_eq_true rfl) rfl rfl rfl ?_
      refine aw_pop (pc' := 83) hC dX9_best_82 rfl rfl ?_
      refine aw_aload_n (pc' := 84) (i := 0) hC dX9_best_83 rfl rfl rfl ?_
      refine aw_iconst (pc' := 85) hC dX9_best_84 rfl (by decide) ?_
      obtain ⟨x22, q21, h⟩ := pb_s h
      replace h := u1_s h
      refine aw_cV (pc' := 88) (k2 := 0) (n2 := 0) (st := []) (stN := [.inl x22]) hC [.inl 1] (mX9_flowOf q21) lk_X9_463 g10 dX9_best_85 rfl rfl (Nat.le_of_ble_eq_true rfl) (Nat.le_of_ble_eq_true rfl) (Nat.le_of_ble_eq_true rfl) rfl (Nat.le_of_ble_eq_true rfl) rfl rfl rfl ?_
      refine aw_iload (pc' := 90) hC dX9_best_88 rfl rfl ?_
      refine aw_icmp_gt (tgt := 96) (pc' := 93) hC dX9_best_90 (by decide) rfl (fun c23 => ?_) (fun c23 => ?_)
      · replace h := it_p c23 h
        refine aw_aload_n (pc' := 97) (i := 0) hC dX9_best_96 rfl rfl rfl ?_
        refine aw_iconst (pc' := 98) hC dX9_best_97 rfl (by decide) ?_
        obtain ⟨x25, q24, h⟩ := pb_s h
        replace h := u1_s h
        refine aw_cV (pc' := 101) (k2 := 0) (n2 := 0) (st := []) (stN := [.inl x25]) hC [.inl 1] (mX9_flowOf q24) lk_X9_463 g10 dX9_best_98 rfl rfl (Nat.le_of_ble_eq_true rfl) (Nat.le_of_ble_eq_true rfl) (Nat.le_of_ble_eq_true rfl) rfl (Nat.le_of_ble_eq_true rfl) rfl rfl rfl ?_
        refine aw_istore (pc' := 103) (ls' := [some (.inr (.inr v0)), some (.inl v1), some (.inl v2), some (.inl v3), some (.inl x25), some (.inl v5)]) hC dX9_best_101 rfl (Nat.le_of_ble_eq_true rfl) rfl rfl ?_
        refine aw_iload (pc' := 105) hC dX9_best_103 rfl rfl ?_
        refine aw_istore_n (pc' := 106) (i := 3) (ls' := [some (.inr (.inr v0)), some (.inl v1), some (.inl v2), some (.inl v5), some (.inl x25), some (.inl v5)]) hC dX9_best_105 rfl rfl (Nat.le_of_ble_eq_true rfl) rfl rfl ?_
        refine aw_iinc (pc' := 109) (ls' := [some (.inr (.inr v0)), some (.inl v1), some (.inl v2), some (.inl v5), some (.inl x25), some (.inl (w32 (v5 + 1)))]) hC dX9_best_106 rfl rfl rfl rfl ?_
        refine aw_goto (tgt := 41) hC dX9_best_109 (by decide) ?_
        refine aw_sub hC [some (.inr (.inr v0)), some (.inl v1), some (.inl v2), some (.inl v5), some (.inl x25), some (.inl (w32 (v5 + 1)))] ⟨rfl, ⟨rfl, ⟨rfl, ⟨rfl, ⟨rfl, ⟨rfl, trivial⟩⟩⟩⟩⟩⟩ (Nat.le_of_ble_eq_true rfl) ?_
        cases h
        exact hL _ rfl
      · replace h := it_n c23 h
        refine aw_goto (tgt := 106) hC dX9_best_93 (by decide) ?_
        refine aw_iinc (pc' := 109) (ls' := [some (.inr (.inr v0)), some (.inl v1), some (.inl v2), some (.inl v3), some (.inl v4), some (.inl (w32 (v5 + 1)))]) hC dX9_best_106 rfl rfl rfl rfl ?_
        refine aw_goto (tgt := 41) hC dX9_best_109 (by decide) ?_
        refine aw_sub hC [some (.inr (.inr v0)), some (.inl v1), some (.inl v2), some (.inl v3), some (.inl v4), some (.inl (w32 (v5 + 1)))] ⟨rfl, ⟨rfl, ⟨rfl, ⟨rfl, ⟨rfl, ⟨rfl, trivial⟩⟩⟩⟩⟩⟩ (Nat.le_of_ble_eq_true rfl) ?_
        cases h
        exact hL _ rfl
    · replace h := it_n c15 h
      refine aw_goto (tgt := 106) hC dX9_best_66 (by decide) ?_
      refine aw_iinc (pc' := 109) (ls' := [some (.inr (.inr v0)), some (.inl v1), some (.inl v2), some (.inl v3), some (.inl v4), some (.inl (w32 (v5 + 1)))]) hC dX9_best_106 rfl rfl rfl rfl ?_
      refine aw_goto (tgt := 41) hC dX9_best_109 (by decide) ?_
      refine aw_sub hC [some (.inr (.inr v0)), some (.inl v1), some (.inl v2), some (.inl v3), some (.inl v4), some (.inl (w32 (v5 + 1)))] ⟨rfl, ⟨rfl, ⟨rfl, ⟨rfl, ⟨rfl, ⟨rfl, trivial⟩⟩⟩⟩⟩⟩ (Nat.le_of_ble_eq_true rfl) ?_
      cases h
      exact hL _ rfl
set_option maxRecDepth 100000 in
set_option maxHeartbeats 4000000 in
theorem mX9_best {sh : AwS} {M : AwM} {v0 : Int} {v1 : Int} {v2 : Int} {r : Int} {M' : AwM} (h : fX9_best sh M v0 v1 v2 = some (r, M')) : AMet yX9_best cX9_best 6 (some .int) 7 0 0 [.inr (.inr v0), .inl v1, .inl v2] sh M (some (.inl r)) sh M' := by
  refine amet_of (by decide +kernel) (Nat.le_of_ble_eq_true rfl) (fun Γ hC => ?_)
  replace hC : AOK Γ RX9 cX9_best 6 7 0 0 "best" (some .int) := hC
  unfold fX9_best at h
  refine aw_sub hC [some (.inr (.inr v0)), some (.inl v1), some (.inl v2), none, none, none] ⟨rfl, ⟨rfl, ⟨rfl, trivial⟩⟩⟩ (Nat.le_of_ble_eq_true rfl) ?_
  refine aw_iload_n (pc' := 1) (i := 1) hC dX9_best_0 rfl rfl rfl ?_
  refine aw_iconst (pc' := 2) hC dX9_best_1 rfl (by decide) ?_
  refine aw_iconst (pc' := 3) hC dX9_best_2 rfl (by decide) ?_
  obtain ⟨x2, q1, h⟩ := pb_s h
  replace h := u1_s h
  refine aw_cS (pc' := 6) (k2 := 0) (n2 := 0) (st := []) (stN := [.inl x2]) hC [.inl v1, .inl 2, .inl 4] (mX9_is q1) lk_X9_314 dX9_best_3 rfl rfl (Nat.le_of_ble_eq_true rfl) (Nat.le_of_ble_eq_true rfl) (Nat.le_of_ble_eq_true rfl) rfl (Nat.le_of_ble_eq_true rfl) rfl rfl rfl ?_
  refine aw_if_eq (tgt := 31) (pc' := 9) hC dX9_best_6 (by decide) rfl (fun c3 => ?_) (fun c3 => ?_)
  · replace h := it_p c3 h
    refine aw_iconst (pc' := 32) hC dX9_best_31 rfl (by decide) ?_
    cases h
    exact aw_iret hC dX9_best_32 (Nat.le_of_ble_eq_true rfl) (Nat.le_of_ble_eq_true rfl)
  · replace h := it_n c3 h
    refine aw_iload_n (pc' := 10) (i := 1) hC dX9_best_9 rfl rfl rfl ?_
    refine aw_aload_n (pc' := 11) (i := 0) hC dX9_best_10 rfl rfl rfl ?_
    obtain ⟨g4, h⟩ := gd_s h
    refine aw_getfield (pc' := 14) (v := (.inr (.inr (M v0 14)))) hC dX9_best_11 rfl fl_X9_54 g4 rfl ?_
    refine aw_aload_n (pc' := 15) (i := 0) hC dX9_best_14 rfl rfl rfl ?_
    refine aw_getfield (pc' := 18) (v := (.inl (M v0 13))) hC dX9_best_15 rfl fl_X9_51 g4 rfl ?_
    obtain ⟨g5, h⟩ := gd_s h
    refine aw_iaload (pc' := 19) hC dX9_best_18 rfl g5 ?_
    refine aw_icmp_gt (tgt := 31) (pc' := 22) hC dX9_best_19 (by decide) rfl (fun c6 => ?_) (fun c6 => ?_)
    · replace h := it_p c6 h
      refine aw_iconst (pc' := 32) hC dX9_best_31 rfl (by decide) ?_
      cases h
      exact aw_iret hC dX9_best_32 (Nat.le_of_ble_eq_true rfl) (Nat.le_of_ble_eq_true rfl)
    · replace h := it_n c6 h
      refine aw_iload_n (pc' := 23) (i := 2) hC dX9_best_22 rfl rfl rfl ?_
      refine aw_iconst (pc' := 24) hC dX9_best_23 rfl (by decide) ?_
      refine aw_iconst (pc' := 25) hC dX9_best_24 rfl (by decide) ?_
      obtain ⟨x8, q7, h⟩ := pb_s h
      replace h := u1_s h
      refine aw_cS (pc' := 28) (k2 := 0) (n2 := 0) (st := []) (stN := [.inl x8]) hC [.inl v2, .inl 0, .inl 1] (mX9_is q7) lk_X9_314 dX9_best_25 rfl rfl (Nat.le_of_ble_eq_true rfl) (Nat.le_of_ble_eq_true rfl) (Nat.le_of_ble_eq_true rfl) rfl (Nat.le_of_ble_eq_true rfl) rfl rfl rfl ?_
      refine aw_if_ne (tgt := 33) (pc' := 31) hC dX9_best_28 (by decide) rfl (fun c9 => ?_) (fun c9 => ?_)
      · replace h := it_n c9 h
        refine aw_iconst (pc' := 34) hC dX9_best_33 rfl (by decide) ?_
        refine aw_istore_n (pc' := 35) (i := 3) (ls' := [some (.inr (.inr v0)), some (.inl v1), some (.inl v2), some (.inl (-1)), none, none]) hC dX9_best_34 rfl rfl (Nat.le_of_ble_eq_true rfl) rfl rfl ?_
        refine aw_iconst (pc' := 36) hC dX9_best_35 rfl (by decide) ?_
        refine aw_istore (pc' := 38) (ls' := [some (.inr (.inr v0)), some (.inl v1), some (.inl v2), some (.inl (-1)), some (.inl (-1)), none]) hC dX9_best_36 rfl (Nat.le_of_ble_eq_true rfl) rfl rfl ?_
        refine aw_iconst (pc' := 39) hC dX9_best_38 rfl (by decide) ?_
        refine aw_istore (pc' := 41) (ls' := [some (.inr (.inr v0)), some (.inl v1), some (.inl v2), some (.inl (-1)), some (.inl (-1)), some (.inl 0)]) hC dX9_best_39 rfl (Nat.le_of_ble_eq_true rfl) rfl rfl ?_
        obtain ⟨tq26, q26, h⟩ := pb_s h
        refine aw_sub hC [some (.inr (.inr v0)), some (.inl v1), some (.inl v2), some (.inl (-1)), some (.inl (-1)), some (.inl 0)] ⟨rfl, ⟨rfl, ⟨rfl, ⟨rfl, ⟨rfl, ⟨rfl, trivial⟩⟩⟩⟩⟩⟩ (Nat.le_of_ble_eq_true rfl) ?_
        refine (lp_aw (p_X9_best_L41 Γ sh v0 v1 v2 (fin_ Γ 0 0 (some (.inl r)) sh M')) (x_X9_best_L41 Γ sh v0 v1 v2 (fin_ Γ 0 0 (some (.inl r)) sh M')) (w_X9_best_L41 hC ) FU _ _ q26 ?_ : p_X9_best_L41 Γ sh v0 v1 v2 (fin_ Γ 0 0 (some (.inl r)) sh M') ((-1), (-1), 0, M))
        obtain ⟨x27, x28, M29⟩ := tq26
        replace h := u3_s h
        show AW Γ sh M29 0 0 112 [none, none, some (.inl v2), some (.inl x27), some (.inl x28), none] [] _
        refine aw_iload_n (pc' := 113) (i := 2) hC dX9_best_112 rfl rfl rfl ?_
        refine aw_if_ne (tgt := 120) (pc' := 116) hC dX9_best_113 (by decide) rfl (fun c30 => ?_) (fun c30 => ?_)
        · replace h := it_n c30 h
          refine aw_iload (pc' := 122) hC dX9_best_120 rfl rfl ?_
          cases h
          exact aw_iret hC dX9_best_122 (Nat.le_of_ble_eq_true rfl) (Nat.le_of_ble_eq_true rfl)
        · replace h := it_p c30 h
          refine aw_iload_n (pc' := 117) (i := 3) hC dX9_best_116 rfl rfl rfl ?_
          refine aw_goto (tgt := 122) hC dX9_best_117 (by decide) ?_
          cases h
          exact aw_iret hC dX9_best_122 (Nat.le_of_ble_eq_true rfl) (Nat.le_of_ble_eq_true rfl)
      · replace h := it_p c9 h
        refine aw_iconst (pc' := 32) hC dX9_best_31 rfl (by decide) ?_
        cases h
        exact aw_iret hC dX9_best_32 (Nat.le_of_ble_eq_true rfl) (Nat.le_of_ble_eq_true rfl)
-- CoinCircleModel.letters()I
def fX9_letters_L34 (sh : AwS) (M : AwM) (v0 : Int) (v1 : Int) (v2 : Int) (v3 : Int) : Option ((Int × Int) ⊕ (Int)) :=
  (if v3 < v1 then (if v2 = 0 then some (.inr v2) else gd_ (kd_ sh v0 = (0, 9)) (gd_ ((kd_ sh (M v0 0)).1 = 1 ∧ (0 : Int) ≤ v3 ∧ v3 < ((kd_ sh (M v0 0)).2 : Int)) (pb (fX9_isCoin sh M v0 (M (M v0 0) v3)) <| u1 fun (x10 : Int) => ((if x10 = 0 then some (.inl (0, (w32 (v3 + 2)))) else gd_ ((kd_ sh (M v0 0)).1 = 1 ∧ (0 : Int) ≤ (w32 (v3 + 1)) ∧ (w32 (v3 + 1)) < ((kd_ sh (M v0 0)).2 : Int)) (pb (fX9_isPerson sh M v0 (M (M v0 0) (w32 (v3 + 1)))) <| u1 fun (x14 : Int) => ((if x14 = 0 then some (.inl (0, (w32 (v3 + 2)))) else some (.inl (1, (w32 (v3 + 2)))))))))))) else some (.inr v2))
def p_X9_letters_L34 (Γ : AwC) (sh : AwS) (M : AwM) (v0 : Int) (v1 : Int) (Q : State → Prop) (s : Int × Int) : Prop := AW Γ sh M 0 0 34 [some (.inr (.inr v0)), some (.inl v1), some (.inl (s.1)), some (.inl (s.2)), none, none, none] [] Q
def x_X9_letters_L34 (Γ : AwC) (sh : AwS) (M : AwM) (v0 : Int) (v1 : Int) (Q : State → Prop) : (Int) → Prop := (fun (t : Int) => AW Γ sh M 0 0 83 [some (.inr (.inr v0)), some (.inl v1), some (.inl (t)), none, none, none, none] [] Q)
def fX9_letters_J199_105 (sh : AwS) (M : AwM) (v0 : Int) (v3 : Int) (v4 : Int) (s0 : Int) (s1 : Int) (s2 : Int) : Option ((Int × Int × AwM) ⊕ (Int × AwM)) :=
  gd_ ((kd_ sh s0).1 = 1 ∧ (0 : Int) ≤ s1 ∧ s1 < ((kd_ sh s0).2 : Int)) (bd_ (up_ M s0 s1 s2) fun (M38 : AwM) => (gd_ (kd_ sh v0 = (0, 9)) (gd_ ((kd_ sh (M38 v0 68)).1 = 1 ∧ (0 : Int) ≤ v4 ∧ v4 < ((kd_ sh (M38 v0 68)).2 : Int)) ((if 0 < (M38 (M38 v0 68) v4) then some (.inl ((w32 (v3 + 1)), (w32 (v4 + 1)), M38)) else some (.inl ((w32 (v3 + 0)), (w32 (v4 + 1)), M38)))))))
def fX9_letters_L105 (sh : AwS) (v0 : Int) (v3 : Int) (v4 : Int) (M : AwM) : Option ((Int × Int × AwM) ⊕ (Int × AwM)) :=
  gd_ (kd_ sh v0 = (0, 9)) ((if v4 < (M v0 67) then gd_ ((kd_ sh (M v0 0)).1 = 1 ∧ (0 : Int) ≤ (w32 (2 * v4)) ∧ (w32 (2 * v4)) < ((kd_ sh (M v0 0)).2 : Int)) (gd_ ((kd_ sh (M v0 0)).1 = 1 ∧ (0 : Int) ≤ (w32 ((w32 (2 * v4)) + 1)) ∧ (w32 ((w32 (2 * v4)) + 1)) < ((kd_ sh (M v0 0)).2 : Int)) (gd_ ((kd_ sh (M v0 50)).1 = 1 ∧ (0 : Int) ≤ (M (M v0 0) (w32 (2 * v4))) ∧ (M (M v0 0) (w32 (2 * v4))) < ((kd_ sh (M v0 50)).2 : Int)) (pb (fX9_has2 sh M (M (M v0 50) (M (M v0 0) (w32 (2 * v4)))) (M (M v0 0) (w32 ((w32 (2 * v4)) + 1)))) <| u1 fun (x27 : Int) => ((if x27 = 0 then gd_ ((kd_ sh (M v0 51)).1 = 1 ∧ (0 : Int) ≤ (M (M v0 0) (w32 (2 * v4))) ∧ (M (M v0 0) (w32 (2 * v4))) < ((kd_ sh (M v0 51)).2 : Int)) (pb (fX9_has2 sh M (M (M v0 51) (M (M v0 0) (w32 (2 * v4)))) (M (M v0 0) (w32 ((w32 (2 * v4)) + 1)))) <| u1 fun (x31 : Int) => ((if x31 = 0 then pb (fX9_wouldKnow sh M v0 0 (M (M v0 0) (w32 (2 * v4))) (M (M v0 0) (w32 ((w32 (2 * v4)) + 1)))) <| u2 fun (x34 : Int) (M35 : AwM) => ((if x34 = 0 then fX9_letters_J199_105 sh M35 v0 v3 v4 (M v0 68) v4 3 else fX9_letters_J199_105 sh M35 v0 v3 v4 (M v0 68) v4 0)) else fX9_letters_J199_105 sh M v0 v3 v4 (M v0 68) v4 2))) else fX9_letters_J199_105 sh M v0 v3 v4 (M v0 68) v4 1))))) else some (.inr (v3, M))))
def p_X9_letters_L105 (Γ : AwC) (sh : AwS) (v0 : Int) (Q : State → Prop) (s : Int × Int × AwM) : Prop := AW Γ sh (s.2.2) 0 0 105 [some (.inr (.inr v0)), none, none, some (.inl (s.1)), some (.inl (s.2.1)), none, none] [] Q
def x_X9_letters_L105 (Γ : AwC) (sh : AwS) (v0 : Int) (Q : State → Prop) : (Int × AwM) → Prop := (fun (t : Int × AwM) => AW Γ sh (t.2) 0 0 224 [none, none, none, some (.inl (t.1)), none, none, none] [] Q)
def fX9_letters_J83 (sh : AwS) (M : AwM) (v0 : Int) (v1 : Int) (v2 : Int) : Option (Int × AwM) :=
  (if v2 = 0 then gd_ (kd_ sh v0 = (0, 9)) (pb (fX9_refuses sh M v0 5) <| u2 fun (x48 : Int) (M49 : AwM) => (some (x48, M49))) else gd_ (kd_ sh v0 = (0, 9)) (bd_ (up_ M v0 67 (w32 (v1.tdiv 2))) fun (M19 : AwM) => (pb (lp (u3 (fX9_letters_L105 sh v0)) FU (0, 0, M19)) (u2 (fun (x44 : Int) (M45 : AwM) => some (x44, M45))))))
def fX9_letters (sh : AwS) (M : AwM) (v0 : Int) : Option (Int × AwM) :=
  gd_ (kd_ sh v0 = (0, 9)) (bd_ (up_ M v0 1 0) fun (M2 : AwM) => ((if 0 < (M v0 1) then (if (((M v0 1) : Int).tmod 2) = 0 then (if 40 < (M v0 1) then pb (lp (u2 (fX9_letters_L34 sh M2 v0 (M v0 1))) FU (0, 0)) (u1 (fun (tq53 : Int) => fX9_letters_J83 sh M2 v0 (M v0 1) tq53)) else pb (lp (u2 (fX9_letters_L34 sh M2 v0 (M v0 1))) FU (1, 0)) (u1 (fun (tq54 : Int) => fX9_letters_J83 sh M2 v0 (M v0 1) tq54))) else pb (lp (u2 (fX9_letters_L34 sh M2 v0 (M v0 1))) FU (0, 0)) (u1 (fun (tq51 : Int) => fX9_letters_J83 sh M2 v0 (M v0 1) tq51))) else pb (lp (u2 (fX9_letters_L34 sh M2 v0 (M v0 1))) FU (0, 0)) (u1 (fun (tq16 : Int) => fX9_letters_J83 sh M2 v0 (M v0 1) tq16)))))
set_option maxRecDepth 100000 in
set_option maxHeartbeats 4000000 in
theorem w_X9_letters_L34 {Γ : AwC} (hC : AOK Γ RX9 cX9_letters 7 6 0 0 "letters" (some .int)) {sh : AwS} {M : AwM} {v0 : Int} {v1 : Int} {Q : State → Prop} : ∀ s r, u2 (fX9_letters_L34 sh M v0 v1) s = some r → (∀ s', r = .inl s' → p_X9_letters_L34 Γ sh M v0 v1 Q s') → (∀ t, r = .inr t → x_X9_letters_L34 Γ sh M v0 v1 Q t) → p_X9_letters_L34 Γ sh M v0 v1 Q s := by
  intro s r h hL hX
  obtain ⟨v2, v3⟩ := s
  replace h := u2_s h
  unfold fX9_letters_L34 at h
  show AW Γ sh M 0 0 34 [some (.inr (.inr v0)), some (.inl v1), some (.inl v2), some (.inl v3), none, none, none] [] Q
  refine aw_iload_n (pc' := 35) (i := 3) hC dX9_letters_34 rfl rfl rfl ?_
  refine aw_iload_n (pc' := 36) (i := 1) hC dX9_letters_35 rfl rfl rfl ?_
  refine aw_icmp_ge (tgt := 83) (pc' := 39) hC dX9_letters_36 (by decide) rfl (fun c5 => ?_) (fun c5 => ?_)
  · replace h := it_n c5 h
    refine aw_sub hC [some (.inr (.inr v0)), some (.inl v1), some (.inl v2), none, none, none, none] ⟨rfl, ⟨rfl, ⟨rfl, trivial⟩⟩⟩ (Nat.le_of_ble_eq_true rfl) ?_
    cases h
    exact hX _ rfl
  · replace h := it_p c5 h
    refine aw_iload_n (pc' := 40) (i := 2) hC dX9_letters_39 rfl rfl rfl ?_
    refine aw_if_eq (tgt := 83) (pc' := 43) hC dX9_letters_40 (by decide) rfl (fun c6 => ?_) (fun c6 => ?_)
    · replace h := it_p c6 h
      refine aw_sub hC [some (.inr (.inr v0)), some (.inl v1), some (.inl v2), none, none, none, none] ⟨rfl, ⟨rfl, ⟨rfl, trivial⟩⟩⟩ (Nat.le_of_ble_eq_true rfl) ?_
      cases h
      exact hX _ rfl
    · replace h := it_n c6 h
      refine aw_aload_n (pc' := 44) (i := 0) hC dX9_letters_43 rfl rfl rfl ?_
      refine aw_aload_n (pc' := 45) (i := 0) hC dX9_letters_44 rfl rfl rfl ?_
      obtain ⟨g7, h⟩ := gd_s h
      refine aw_getfield (pc' := 48) (v := (.inr (.inr (M v0 0)))) hC dX9_letters_45 rfl fl_X9_7 g7 rfl ?_
      refine aw_iload_n (pc' := 49) (i := 3) hC dX9_letters_48 rfl rfl rfl ?_
      obtain ⟨g8, h⟩ := gd_s h
      refine aw_iaload (pc' := 50) hC dX9_letters_49 rfl g8 ?_
      obtain ⟨x10, q9, h⟩ := pb_s h
      replace h := u1_s h
      refine aw_cV (pc' := 53) (k2 := 0) (n2 := 0) (st := []) (stN := [.inl x10]) hC [.inl (M (M v0 0) v3)] (mX9_isCoin q9) lk_X9_477 g7 dX9_letters_50 rfl rfl (Nat.le_of_ble_eq_true rfl) (Nat.le_of_ble_eq_true rfl) (Nat.le_of_ble_eq_true rfl) rfl (Nat.le_of_ble_eq_true rfl) rfl rfl rfl ?_
      refine aw_if_eq (tgt := 75) (pc' := 56) hC dX9_letters_53 (by decide) rfl (fun c11 => ?_) (fun c11 => ?_)
      · replace h := it_p c11 h
        refine aw_iconst (pc' := 76) hC dX9_letters_75 rfl (by decide) ?_
        refine aw_istore_n (pc' := 77) (i := 2) (ls' := [some (.inr (.inr v0)), some (.inl v1), some (.inl 0), some (.inl v3), none, none, none]) hC dX9_letters_76 rfl rfl (Nat.le_of_ble_eq_true rfl) rfl rfl ?_
        refine aw_iinc (pc' := 80) (ls' := [some (.inr (.inr v0)), some (.inl v1), some (.inl 0), some (.inl (w32 (v3 + 2))), none, none, none]) hC dX9_letters_77 rfl rfl rfl rfl ?_
        refine aw_goto (tgt := 34) hC dX9_letters_80 (by decide) ?_
        refine aw_sub hC [some (.inr (.inr v0)), some (.inl v1), some (.inl 0), some (.inl (w32 (v3 + 2))), none, none, none] ⟨rfl, ⟨rfl, ⟨rfl, ⟨rfl, trivial⟩⟩⟩⟩ (Nat.le_of_ble_eq_true rfl) ?_
        cases h
        exact hL _ rfl
      · replace h := it_n c11 h
        refine aw_aload_n (pc' := 57) (i := 0) hC dX9_letters_56 rfl rfl rfl ?_
        refine aw_aload_n (pc' := 58) (i := 0) hC dX9_letters_57 rfl rfl rfl ?_
        refine aw_getfield (pc' := 61) (v := (.inr (.inr (M v0 0)))) hC dX9_letters_58 rfl fl_X9_7 g7 rfl ?_
        refine aw_iload_n (pc' := 62) (i := 3) hC dX9_letters_61 rfl rfl rfl ?_
        refine aw_iconst (pc' := 63) hC dX9_letters_62 rfl (by decide) ?_
        refine aw_iadd (pc' := 64) hC dX9_letters_63 rfl  ?_
        obtain ⟨g12, h⟩ := gd_s h
        refine aw_iaload (pc' := 65) hC dX9_letters_64 rfl g12 ?_
        obtain ⟨x14, q13, h⟩ := pb_s h
        replace h := u1_s h
        refine aw_cV (pc' := 68) (k2 := 0) (n2 := 0) (st := []) (stN := [.inl x14]) hC [.inl (M (M v0 0) (w32 (v3 + 1)))] (mX9_isPerson q13) lk_X9_471 g7 dX9_letters_65 rfl rfl (Nat.le_of_ble_eq_true rfl) (Nat.le_of_ble_eq_true rfl) (Nat.le_of_ble_eq_true rfl) rfl (Nat.le_of_ble_eq_true rfl) rfl rfl rfl ?_
        refine aw_if_eq (tgt := 75) (pc' := 71) hC dX9_letters_68 (by decide) rfl (fun c15 => ?_) (fun c15 => ?_)
        · replace h := it_p c15 h
          refine aw_iconst (pc' := 76) hC dX9_letters_75 rfl (by decide) ?_
          refine aw_istore_n (pc' := 77) (i := 2) (ls' := [some (.inr (.inr v0)), some (.inl v1), some (.inl 0), some (.inl v3), none, none, none]) hC dX9_letters_76 rfl rfl (Nat.le_of_ble_eq_true rfl) rfl rfl ?_
          refine aw_iinc (pc' := 80) (ls' := [some (.inr (.inr v0)), some (.inl v1), some (.inl 0), some (.inl (w32 (v3 + 2))), none, none, none]) hC dX9_letters_77 rfl rfl rfl rfl ?_
          refine aw_goto (tgt := 34) hC dX9_letters_80 (by decide) ?_
          refine aw_sub hC [some (.inr (.inr v0)), some (.inl v1), some (.inl 0), some (.inl (w32 (v3 + 2))), none, none, none] ⟨rfl, ⟨rfl, ⟨rfl, ⟨rfl, trivial⟩⟩⟩⟩ (Nat.le_of_ble_eq_true rfl) ?_
          cases h
          exact hL _ rfl
        · replace h := it_n c15 h
          refine aw_iconst (pc' := 72) hC dX9_letters_71 rfl (by decide) ?_
          refine aw_goto (tgt := 76) hC dX9_letters_72 (by decide) ?_
          refine aw_istore_n (pc' := 77) (i := 2) (ls' := [some (.inr (.inr v0)), some (.inl v1), some (.inl 1), some (.inl v3), none, none, none]) hC dX9_letters_76 rfl rfl (Nat.le_of_ble_eq_true rfl) rfl rfl ?_
          refine aw_iinc (pc' := 80) (ls' := [some (.inr (.inr v0)), some (.inl v1), some (.inl 1), some (.inl (w32 (v3 + 2))), none, none, none]) hC dX9_letters_77 rfl rfl rfl rfl ?_
          refine aw_goto (tgt := 34) hC dX9_letters_80 (by decide) ?_
          refine aw_sub hC [some (.inr (.inr v0)), some (.inl v1), some (.inl 1), some (.inl (w32 (v3 + 2))), none, none, none] ⟨rfl, ⟨rfl, ⟨rfl, ⟨rfl, trivial⟩⟩⟩⟩ (Nat.le_of_ble_eq_true rfl) ?_
          cases h
          exact hL _ rfl
set_option maxRecDepth 100000 in
set_option maxHeartbeats 4000000 in
theorem w_X9_letters_J199_105 {Γ : AwC} (hC : AOK Γ RX9 cX9_letters 7 6 0 0 "letters" (some .int)) {sh : AwS} {M : AwM} {v0 : Int} {v3 : Int} {v4 : Int} {s0 : Int} {s1 : Int} {s2 : Int} {Q : State → Prop} {r : (Int × Int × AwM) ⊕ (Int × AwM)} (h : fX9_letters_J199_105 sh M v0 v3 v4 s0 s1 s2 = some r) (hL : ∀ s', r = .inl s' → p_X9_letters_L105 Γ sh v0 Q s') (hX : ∀ t, r = .inr t → x_X9_letters_L105 Γ sh v0 Q t) : AW Γ sh M 0 0 199 [some (.inr (.inr v0)), none, none, some (.inl v3), some (.inl v4), none, none] [.inl s2, .inl s1, .inr (.inr s0)] Q := by
  unfold fX9_letters_J199_105 at h
  obtain ⟨g37, h⟩ := gd_s h
  obtain ⟨M38, e39, h⟩ := bd_s h
  refine aw_ias (pc' := 200) hC dX9_letters_199 rfl g37 e39 ?_
  refine aw_iload_n (pc' := 201) (i := 3) hC dX9_letters_200 rfl rfl rfl ?_
  refine aw_aload_n (pc' := 202) (i := 0) hC dX9_letters_201 rfl rfl rfl ?_
  obtain ⟨g40, h⟩ := gd_s h
  refine aw_getfield (pc' := 205) (v := (.inr (.inr (M38 v0 68)))) hC dX9_letters_202 rfl fl_X9_219 g40 rfl ?_
  refine aw_iload (pc' := 207) hC dX9_letters_205 rfl rfl ?_
  obtain ⟨g41, h⟩ := gd_s h
  refine aw_iaload (pc' := 208) hC dX9_letters_207 rfl g41 ?_
  refine aw_if_le (tgt := 215) (pc' := 211) hC dX9_letters_208 (by decide) rfl (fun c42 => ?_) (fun c42 => ?_)
  · replace h := it_n c42 h
    refine aw_iconst (pc' := 216) hC dX9_letters_215 rfl (by decide) ?_
    refine aw_iadd (pc' := 217) hC dX9_letters_216 rfl  ?_
    refine aw_istore_n (pc' := 218) (i := 3) (ls' := [some (.inr (.inr v0)), none, none, some (.inl (w32 (v3 + 0))), some (.inl v4), none, none]) hC dX9_letters_217 rfl rfl (Nat.le_of_ble_eq_true rfl) rfl rfl ?_
    refine aw_iinc (pc' := 221) (ls' := [some (.inr (.inr v0)), none, none, some (.inl (w32 (v3 + 0))), some (.inl (w32 (v4 + 1))), none, none]) hC dX9_letters_218 rfl rfl rfl rfl ?_
    refine aw_goto (tgt := 105) hC dX9_letters_221 (by decide) ?_
    refine aw_sub hC [some (.inr (.inr v0)), none, none, some (.inl (w32 (v3 + 0))), some (.inl (w32 (v4 + 1))), none, none] ⟨rfl, ⟨rfl, ⟨rfl, trivial⟩⟩⟩ (Nat.le_of_ble_eq_true rfl) ?_
    cases h
    exact hL _ rfl
  · replace h := it_p c42 h
    refine aw_iconst (pc' := 212) hC dX9_letters_211 rfl (by decide) ?_
    refine aw_goto (tgt := 216) hC dX9_letters_212 (by decide) ?_
    refine aw_iadd (pc' := 217) hC dX9_letters_216 rfl  ?_
    refine aw_istore_n (pc' := 218) (i := 3) (ls' := [some (.inr (.inr v0)), none, none, some (.inl (w32 (v3 + 1))), some (.inl v4), none, none]) hC dX9_letters_217 rfl rfl (Nat.le_of_ble_eq_true rfl) rfl rfl ?_
    refine aw_iinc (pc' := 221) (ls' := [some (.inr (.inr v0)), none, none, some (.inl (w32 (v3 + 1))), some (.inl (w32 (v4 + 1))), none, none]) hC dX9_letters_218 rfl rfl rfl rfl ?_
    refine aw_goto (tgt := 105) hC dX9_letters_221 (by decide) ?_
    refine aw_sub hC [some (.inr (.inr v0)), none, none, some (.inl (w32 (v3 + 1))), some (.inl (w32 (v4 + 1))), none, none] ⟨rfl, ⟨rfl, ⟨rfl, trivial⟩⟩⟩ (Nat.le_of_ble_eq_true rfl) ?_
    cases h
    exact hL _ rfl
set_option maxRecDepth 100000 in
set_option maxHeartbeats 4000000 in
theorem w_X9_letters_L105 {Γ : AwC} (hC : AOK Γ RX9 cX9_letters 7 6 0 0 "letters" (some .int)) {sh : AwS} {v0 : Int} {Q : State → Prop} : ∀ s r, u3 (fX9_letters_L105 sh v0) s = some r → (∀ s', r = .inl s' → p_X9_letters_L105 Γ sh v0 Q s') → (∀ t, r = .inr t → x_X9_letters_L105 Γ sh v0 Q t) → p_X9_letters_L105 Γ sh v0 Q s := by
  intro s r h hL hX
  obtain ⟨v3, v4, M⟩ := s
  replace h := u3_s h
  unfold fX9_letters_L105 at h
  show AW Γ sh M 0 0 105 [some (.inr (.inr v0)), none, none, some (.inl v3), some (.inl v4), none, none] [] Q
  refine aw_iload (pc' := 107) hC dX9_letters_105 rfl rfl ?_
  refine aw_aload_n (pc' := 108) (i := 0) hC dX9_letters_107 rfl rfl rfl ?_
  obtain ⟨g21, h⟩ := gd_s h
  refine aw_getfield (pc' := 111) (v := (.inl (M v0 67))) hC dX9_letters_108 rfl fl_X9_216 g21 rfl ?_
  refine aw_icmp_ge (tgt := 224) (pc' := 114) hC dX9_letters_111 (by decide) rfl (fun c22 => ?_) (fun c22 => ?_)
  · replace h := it_n c22 h
    refine aw_sub hC [none, none, none, some (.inl v3), none, none, none] ⟨rfl, trivial⟩ (Nat.le_of_ble_eq_true rfl) ?_
    cases h
    exact hX _ rfl
  · replace h := it_p c22 h
    refine aw_aload_n (pc' := 115) (i := 0) hC dX9_letters_114 rfl rfl rfl ?_
    refine aw_getfield (pc' := 118) (v := (.inr (.inr (M v0 0)))) hC dX9_letters_115 rfl fl_X9_7 g21 rfl ?_
    refine aw_iconst (pc' := 119) hC dX9_letters_118 rfl (by decide) ?_
    refine aw_iload (pc' := 121) hC dX9_letters_119 rfl rfl ?_
    refine aw_imul (pc' := 122) hC dX9_letters_121 rfl  ?_
    obtain ⟨g23, h⟩ := gd_s h
    refine aw_iaload (pc' := 123) hC dX9_letters_122 rfl g23 ?_
    refine aw_istore (pc' := 125) (ls' := [some (.inr (.inr v0)), none, none, some (.inl v3), some (.inl v4), some (.inl (M (M v0 0) (w32 (2 * v4)))), none]) hC dX9_letters_123 rfl (Nat.le_of_ble_eq_true rfl) rfl rfl ?_
    refine aw_aload_n (pc' := 126) (i := 0) hC dX9_letters_125 rfl rfl rfl ?_
    refine aw_getfield (pc' := 129) (v := (.inr (.inr (M v0 0)))) hC dX9_letters_126 rfl fl_X9_7 g21 rfl ?_
    refine aw_iconst (pc' := 130) hC dX9_letters_129 rfl (by decide) ?_
    refine aw_iload (pc' := 132) hC dX9_letters_130 rfl rfl ?_
    refine aw_imul (pc' := 133) hC dX9_letters_132 rfl  ?_
    refine aw_iconst (pc' := 134) hC dX9_letters_133 rfl (by decide) ?_
    refine aw_iadd (pc' := 135) hC dX9_letters_134 rfl  ?_
    obtain ⟨g24, h⟩ := gd_s h
    refine aw_iaload (pc' := 136) hC dX9_letters_135 rfl g24 ?_
    refine aw_istore (pc' := 138) (ls' := [some (.inr (.inr v0)), none, none, some (.inl v3), some (.inl v4), some (.inl (M (M v0 0) (w32 (2 * v4)))), some (.inl (M (M v0 0) (w32 ((w32 (2 * v4)) + 1))))]) hC dX9_letters_136 rfl (Nat.le_of_ble_eq_true rfl) rfl rfl ?_
    refine aw_aload_n (pc' := 139) (i := 0) hC dX9_letters_138 rfl rfl rfl ?_
    refine aw_getfield (pc' := 142) (v := (.inr (.inr (M v0 68)))) hC dX9_letters_139 rfl fl_X9_219 g21 rfl ?_
    refine aw_iload (pc' := 144) hC dX9_letters_142 rfl rfl ?_
    refine aw_aload_n (pc' := 145) (i := 0) hC dX9_letters_144 rfl rfl rfl ?_
    refine aw_getfield (pc' := 148) (v := (.inr (.inr (M v0 50)))) hC dX9_letters_145 rfl fl_X9_165 g21 rfl ?_
    refine aw_iload (pc' := 150) hC dX9_letters_148 rfl rfl ?_
    obtain ⟨g25, h⟩ := gd_s h
    refine aw_iaload (pc' := 151) hC dX9_letters_150 rfl g25 ?_
    refine aw_iload (pc' := 153) hC dX9_letters_151 rfl rfl ?_
    obtain ⟨x27, q26, h⟩ := pb_s h
    replace h := u1_s h
    refine aw_cS (pc' := 156) (k2 := 0) (n2 := 0) (st := [.inl v4, .inr (.inr (M v0 68))]) (stN := [.inl x27, .inl v4, .inr (.inr (M v0 68))]) hC [.inl (M (M v0 50) (M (M v0 0) (w32 (2 * v4)))), .inl (M (M v0 0) (w32 ((w32 (2 * v4)) + 1)))] (mX9_has2 q26) lk_X9_373 dX9_letters_153 rfl rfl (Nat.le_of_ble_eq_true rfl) (Nat.le_of_ble_eq_true rfl) (Nat.le_of_ble_eq_true rfl) rfl (Nat.le_of_ble_eq_true rfl) rfl rfl rfl ?_
    refine aw_if_eq (tgt := 163) (pc' := 159) hC dX9_letters_156 (by decide) rfl (fun c28 => ?_) (fun c28 => ?_)
    · replace h := it_p c28 h
      refine aw_aload_n (pc' := 164) (i := 0) hC dX9_letters_163 rfl rfl rfl ?_
      refine aw_getfield (pc' := 167) (v := (.inr (.inr (M v0 51)))) hC dX9_letters_164 rfl fl_X9_168 g21 rfl ?_
      refine aw_iload (pc' := 169) hC dX9_letters_167 rfl rfl ?_
      obtain ⟨g29, h⟩ := gd_s h
      refine aw_iaload (pc' := 170) hC dX9_letters_169 rfl g29 ?_
      refine aw_iload (pc' := 172) hC dX9_letters_170 rfl rfl ?_
      obtain ⟨x31, q30, h⟩ := pb_s h
      replace h := u1_s h
      refine aw_cS (pc' := 175) (k2 := 0) (n2 := 0) (st := [.inl v4, .inr (.inr (M v0 68))]) (stN := [.inl x31, .inl v4, .inr (.inr (M v0 68))]) hC [.inl (M (M v0 51) (M (M v0 0) (w32 (2 * v4)))), .inl (M (M v0 0) (w32 ((w32 (2 * v4)) + 1)))] (mX9_has2 q30) lk_X9_373 dX9_letters_172 rfl rfl (Nat.le_of_ble_eq_true rfl) (Nat.le_of_ble_eq_true rfl) (Nat.le_of_ble_eq_true rfl) rfl (Nat.le_of_ble_eq_true rfl) rfl rfl rfl ?_
      refine aw_if_eq (tgt := 182) (pc' := 178) hC dX9_letters_175 (by decide) rfl (fun c32 => ?_) (fun c32 => ?_)
      · replace h := it_p c32 h
        refine aw_aload_n (pc' := 183) (i := 0) hC dX9_letters_182 rfl rfl rfl ?_
        refine aw_iconst (pc' := 184) hC dX9_letters_183 rfl (by decide) ?_
        refine aw_iload (pc' := 186) hC dX9_letters_184 rfl rfl ?_
        refine aw_iload (pc' := 188) hC dX9_letters_186 rfl rfl ?_
        obtain ⟨⟨x34, M35⟩, q33, h⟩ := pb_s h
        replace h := u2_s h
        refine aw_cV (pc' := 191) (k2 := 0) (n2 := 0) (st := [.inl v4, .inr (.inr (M v0 68))]) (stN := [.inl x34, .inl v4, .inr (.inr (M v0 68))]) hC [.inl 0, .inl (M (M v0 0) (w32 (2 * v4))), .inl (M (M v0 0) (w32 ((w32 (2 * v4)) + 1)))] (mX9_wouldKnow q33) lk_X9_483 g21 dX9_letters_188 rfl rfl (Nat.le_of_ble_eq_true rfl) (Nat.le_of_ble_eq_true rfl) (Nat.le_of_ble_eq_true rfl) rfl (Nat.le_of_ble_eq_true rfl) rfl rfl rfl ?_
        refine aw_if_eq (tgt := 198) (pc' := 194) hC dX9_letters_191 (by decide) rfl (fun c36 => ?_) (fun c36 => ?_)
        · replace h := it_p c36 h
          refine aw_iconst (pc' := 199) hC dX9_letters_198 rfl (by decide) ?_
          refine aw_sub hC [some (.inr (.inr v0)), none, none, some (.inl v3), some (.inl v4), none, none] ⟨rfl, ⟨rfl, ⟨rfl, trivial⟩⟩⟩ (Nat.le_of_ble_eq_true rfl) ?_
          exact w_X9_letters_J199_105 hC h hL hX
        · replace h := it_n c36 h
          refine aw_iconst (pc' := 195) hC dX9_letters_194 rfl (by decide) ?_
          refine aw_goto (tgt := 199) hC dX9_letters_195 (by decide) ?_
          refine aw_sub hC [some (.inr (.inr v0)), none, none, some (.inl v3), some (.inl v4), none, none] ⟨rfl, ⟨rfl, ⟨rfl, trivial⟩⟩⟩ (Nat.le_of_ble_eq_true rfl) ?_
          exact w_X9_letters_J199_105 hC h hL hX
      · replace h := it_n c32 h
        refine aw_iconst (pc' := 179) hC dX9_letters_178 rfl (by decide) ?_
        refine aw_goto (tgt := 199) hC dX9_letters_179 (by decide) ?_
        refine aw_sub hC [some (.inr (.inr v0)), none, none, some (.inl v3), some (.inl v4), none, none] ⟨rfl, ⟨rfl, ⟨rfl, trivial⟩⟩⟩ (Nat.le_of_ble_eq_true rfl) ?_
        exact w_X9_letters_J199_105 hC h hL hX
    · replace h := it_n c28 h
      refine aw_iconst (pc' := 160) hC dX9_letters_159 rfl (by decide) ?_
      refine aw_goto (tgt := 199) hC dX9_letters_160 (by decide) ?_
      refine aw_sub hC [some (.inr (.inr v0)), none, none, some (.inl v3), some (.inl v4), none, none] ⟨rfl, ⟨rfl, ⟨rfl, trivial⟩⟩⟩ (Nat.le_of_ble_eq_true rfl) ?_
      exact w_X9_letters_J199_105 hC h hL hX
set_option maxRecDepth 100000 in
set_option maxHeartbeats 4000000 in
theorem w_X9_letters_J83 {Γ : AwC} (hC : AOK Γ RX9 cX9_letters 7 6 0 0 "letters" (some .int)) {sh : AwS} {M : AwM} {v0 : Int} {v1 : Int} {v2 : Int} {r : Int} {M' : AwM} (h : fX9_letters_J83 sh M v0 v1 v2 = some (r, M')) {Q : State → Prop} (hQ : Q = (fin_ Γ 0 0 (some (.inl r)) sh M')) : AW Γ sh M 0 0 83 [some (.inr (.inr v0)), some (.inl v1), some (.inl v2), none, none, none, none] [] Q := by
  unfold fX9_letters_J83 at h
  refine aw_iload_n (pc' := 84) (i := 2) hC dX9_letters_83 rfl rfl rfl ?_
  refine aw_if_ne (tgt := 93) (pc' := 87) hC dX9_letters_84 (by decide) rfl (fun c17 => ?_) (fun c17 => ?_)
  · replace h := it_n c17 h
    refine aw_aload_n (pc' := 94) (i := 0) hC dX9_letters_93 rfl rfl rfl ?_
    refine aw_iload_n (pc' := 95) (i := 1) hC dX9_letters_94 rfl rfl rfl ?_
    refine aw_iconst (pc' := 96) hC dX9_letters_95 rfl (by decide) ?_
    refine aw_idiv (pc' := 97) hC dX9_letters_96 rfl (by decide) ?_
    obtain ⟨g18, h⟩ := gd_s h
    obtain ⟨M19, e20, h⟩ := bd_s h
    refine aw_pf (pc' := 100) hC dX9_letters_97 rfl fp_X9_216 g18 rfl trivial e20 ?_
    refine aw_iconst (pc' := 101) hC dX9_letters_100 rfl (by decide) ?_
    refine aw_istore_n (pc' := 102) (i := 3) (ls' := [some (.inr (.inr v0)), some (.inl v1), some (.inl v2), some (.inl 0), none, none, none]) hC dX9_letters_101 rfl rfl (Nat.le_of_ble_eq_true rfl) rfl rfl ?_
    refine aw_iconst (pc' := 103) hC dX9_letters_102 rfl (by decide) ?_
    refine aw_istore (pc' := 105) (ls' := [some (.inr (.inr v0)), some (.inl v1), some (.inl v2), some (.inl 0), some (.inl 0), none, none]) hC dX9_letters_103 rfl (Nat.le_of_ble_eq_true rfl) rfl rfl ?_
    obtain ⟨tq43, q43, h⟩ := pb_s h
    refine aw_sub hC [some (.inr (.inr v0)), none, none, some (.inl 0), some (.inl 0), none, none] ⟨rfl, ⟨rfl, ⟨rfl, trivial⟩⟩⟩ (Nat.le_of_ble_eq_true rfl) ?_
    refine (lp_aw (p_X9_letters_L105 Γ sh v0 Q) (x_X9_letters_L105 Γ sh v0 Q) (w_X9_letters_L105 hC ) FU _ _ q43 ?_ : p_X9_letters_L105 Γ sh v0 Q (0, 0, M19))
    obtain ⟨x44, M45⟩ := tq43
    replace h := u2_s h
    show AW Γ sh M45 0 0 224 [none, none, none, some (.inl x44), none, none, none] [] _
    refine aw_iload_n (pc' := 225) (i := 3) hC dX9_letters_224 rfl rfl rfl ?_
    cases h
    subst hQ
    exact aw_iret hC dX9_letters_225 (Nat.le_of_ble_eq_true rfl) (Nat.le_of_ble_eq_true rfl)
  · replace h := it_p c17 h
    refine aw_aload_n (pc' := 88) (i := 0) hC dX9_letters_87 rfl rfl rfl ?_
    refine aw_iconst (pc' := 89) hC dX9_letters_88 rfl (by decide) ?_
    obtain ⟨g47, h⟩ := gd_s h
    obtain ⟨⟨x48, M49⟩, q46, h⟩ := pb_s h
    replace h := u2_s h
    refine aw_cV (pc' := 92) (k2 := 0) (n2 := 0) (st := []) (stN := [.inl x48]) hC [.inl 5] (mX9_refuses q46) lk_X9_228 g47 dX9_letters_89 rfl rfl (Nat.le_of_ble_eq_true rfl) (Nat.le_of_ble_eq_true rfl) (Nat.le_of_ble_eq_true rfl) rfl (Nat.le_of_ble_eq_true rfl) rfl rfl rfl ?_
    cases h
    subst hQ
    exact aw_iret hC dX9_letters_92 (Nat.le_of_ble_eq_true rfl) (Nat.le_of_ble_eq_true rfl)
set_option maxRecDepth 100000 in
set_option maxHeartbeats 4000000 in
theorem mX9_letters {sh : AwS} {M : AwM} {v0 : Int} {r : Int} {M' : AwM} (h : fX9_letters sh M v0 = some (r, M')) : AMet yX9_letters cX9_letters 7 (some .int) 6 0 0 [.inr (.inr v0)] sh M (some (.inl r)) sh M' := by
  refine amet_of (by decide +kernel) (Nat.le_of_ble_eq_true rfl) (fun Γ hC => ?_)
  replace hC : AOK Γ RX9 cX9_letters 7 6 0 0 "letters" (some .int) := hC
  unfold fX9_letters at h
  refine aw_sub hC [some (.inr (.inr v0)), none, none, none, none, none, none] ⟨rfl, trivial⟩ (Nat.le_of_ble_eq_true rfl) ?_
  refine aw_aload_n (pc' := 1) (i := 0) hC dX9_letters_0 rfl rfl rfl ?_
  obtain ⟨g1, h⟩ := gd_s h
  refine aw_getfield (pc' := 4) (v := (.inl (M v0 1))) hC dX9_letters_1 rfl fl_X9_13 g1 rfl ?_
  refine aw_istore_n (pc' := 5) (i := 1) (ls' := [some (.inr (.inr v0)), some (.inl (M v0 1)), none, none, none, none, none]) hC dX9_letters_4 rfl rfl (Nat.le_of_ble_eq_true rfl) rfl rfl ?_
  refine aw_aload_n (pc' := 6) (i := 0) hC dX9_letters_5 rfl rfl rfl ?_
  refine aw_iconst (pc' := 7) hC dX9_letters_6 rfl (by decide) ?_
  obtain ⟨M2, e3, h⟩ := bd_s h
  refine aw_pf (pc' := 10) hC dX9_letters_7 rfl fp_X9_13 g1 rfl trivial e3 ?_
  refine aw_iload_n (pc' := 11) (i := 1) hC dX9_letters_10 rfl rfl rfl ?_
  refine aw_if_le (tgt := 30) (pc' := 14) hC dX9_letters_11 (by decide) rfl (fun c4 => ?_) (fun c4 => ?_)
  · replace h := it_n c4 h
    refine aw_iconst (pc' := 31) hC dX9_letters_30 rfl (by decide) ?_
    refine aw_istore_n (pc' := 32) (i := 2) (ls' := [some (.inr (.inr v0)), some (.inl (M v0 1)), some (.inl 0), none, none, none, none]) hC dX9_letters_31 rfl rfl (Nat.le_of_ble_eq_true rfl) rfl rfl ?_
    refine aw_iconst (pc' := 33) hC dX9_letters_32 rfl (by decide) ?_
    refine aw_istore_n (pc' := 34) (i := 3) (ls' := [some (.inr (.inr v0)), some (.inl (M v0 1)), some (.inl 0), some (.inl 0), none, none, none]) hC dX9_letters_33 rfl rfl (Nat.le_of_ble_eq_true rfl) rfl rfl ?_
    obtain ⟨tq16, q16, h⟩ := pb_s h
    refine aw_sub hC [some (.inr (.inr v0)), some (.inl (M v0 1)), some (.inl 0), some (.inl 0), none, none, none] ⟨rfl, ⟨rfl, ⟨rfl, ⟨rfl, trivial⟩⟩⟩⟩ (Nat.le_of_ble_eq_true rfl) ?_
    refine (lp_aw (p_X9_letters_L34 Γ sh M2 v0 (M v0 1) (fin_ Γ 0 0 (some (.inl r)) sh M')) (x_X9_letters_L34 Γ sh M2 v0 (M v0 1) (fin_ Γ 0 0 (some (.inl r)) sh M')) (w_X9_letters_L34 hC ) FU _ _ q16 ?_ : p_X9_letters_L34 Γ sh M2 v0 (M v0 1) (fin_ Γ 0 0 (some (.inl r)) sh M') (0, 0))
    replace h := u1_s h
    show AW Γ sh M2 0 0 83 [some (.inr (.inr v0)), some (.inl (M v0 1)), some (.inl tq16), none, none, none, none] [] _
    refine aw_sub hC [some (.inr (.inr v0)), some (.inl (M v0 1)), some (.inl tq16), none, none, none, none] ⟨rfl, ⟨rfl, ⟨rfl, trivial⟩⟩⟩ (Nat.le_of_ble_eq_true rfl) ?_
    exact w_X9_letters_J83 hC h rfl
  · replace h := it_p c4 h
    refine aw_iload_n (pc' := 15) (i := 1) hC dX9_letters_14 rfl rfl rfl ?_
    refine aw_iconst (pc' := 16) hC dX9_letters_15 rfl (by decide) ?_
    refine aw_irem (pc' := 17) hC dX9_letters_16 rfl (by decide) ?_
    refine aw_if_ne (tgt := 30) (pc' := 20) hC dX9_letters_17 (by decide) rfl (fun c50 => ?_) (fun c50 => ?_)
    · replace h := it_n c50 h
      refine aw_iconst (pc' := 31) hC dX9_letters_30 rfl (by decide) ?_
      refine aw_istore_n (pc' := 32) (i := 2) (ls' := [some (.inr (.inr v0)), some (.inl (M v0 1)), some (.inl 0), none, none, none, none]) hC dX9_letters_31 rfl rfl (Nat.le_of_ble_eq_true rfl) rfl rfl ?_
      refine aw_iconst (pc' := 33) hC dX9_letters_32 rfl (by decide) ?_
      refine aw_istore_n (pc' := 34) (i := 3) (ls' := [some (.inr (.inr v0)), some (.inl (M v0 1)), some (.inl 0), some (.inl 0), none, none, none]) hC dX9_letters_33 rfl rfl (Nat.le_of_ble_eq_true rfl) rfl rfl ?_
      obtain ⟨tq51, q51, h⟩ := pb_s h
      refine aw_sub hC [some (.inr (.inr v0)), some (.inl (M v0 1)), some (.inl 0), some (.inl 0), none, none, none] ⟨rfl, ⟨rfl, ⟨rfl, ⟨rfl, trivial⟩⟩⟩⟩ (Nat.le_of_ble_eq_true rfl) ?_
      refine (lp_aw (p_X9_letters_L34 Γ sh M2 v0 (M v0 1) (fin_ Γ 0 0 (some (.inl r)) sh M')) (x_X9_letters_L34 Γ sh M2 v0 (M v0 1) (fin_ Γ 0 0 (some (.inl r)) sh M')) (w_X9_letters_L34 hC ) FU _ _ q51 ?_ : p_X9_letters_L34 Γ sh M2 v0 (M v0 1) (fin_ Γ 0 0 (some (.inl r)) sh M') (0, 0))
      replace h := u1_s h
      show AW Γ sh M2 0 0 83 [some (.inr (.inr v0)), some (.inl (M v0 1)), some (.inl tq51), none, none, none, none] [] _
      refine aw_sub hC [some (.inr (.inr v0)), some (.inl (M v0 1)), some (.inl tq51), none, none, none, none] ⟨rfl, ⟨rfl, ⟨rfl, trivial⟩⟩⟩ (Nat.le_of_ble_eq_true rfl) ?_
      exact w_X9_letters_J83 hC h rfl
    · replace h := it_p c50 h
      refine aw_iload_n (pc' := 21) (i := 1) hC dX9_letters_20 rfl rfl rfl ?_
      refine aw_bipush (pc' := 23) hC dX9_letters_21 rfl (by decide) ?_
      refine aw_icmp_gt (tgt := 30) (pc' := 26) hC dX9_letters_23 (by decide) rfl (fun c52 => ?_) (fun c52 => ?_)
      · replace h := it_p c52 h
        refine aw_iconst (pc' := 31) hC dX9_letters_30 rfl (by decide) ?_
        refine aw_istore_n (pc' := 32) (i := 2) (ls' := [some (.inr (.inr v0)), some (.inl (M v0 1)), some (.inl 0), none, none, none, none]) hC dX9_letters_31 rfl rfl (Nat.le_of_ble_eq_true rfl) rfl rfl ?_
        refine aw_iconst (pc' := 33) hC dX9_letters_32 rfl (by decide) ?_
        refine aw_istore_n (pc' := 34) (i := 3) (ls' := [some (.inr (.inr v0)), some (.inl (M v0 1)), some (.inl 0), some (.inl 0), none, none, none]) hC dX9_letters_33 rfl rfl (Nat.le_of_ble_eq_true rfl) rfl rfl ?_
        obtain ⟨tq53, q53, h⟩ := pb_s h
        refine aw_sub hC [some (.inr (.inr v0)), some (.inl (M v0 1)), some (.inl 0), some (.inl 0), none, none, none] ⟨rfl, ⟨rfl, ⟨rfl, ⟨rfl, trivial⟩⟩⟩⟩ (Nat.le_of_ble_eq_true rfl) ?_
        refine (lp_aw (p_X9_letters_L34 Γ sh M2 v0 (M v0 1) (fin_ Γ 0 0 (some (.inl r)) sh M')) (x_X9_letters_L34 Γ sh M2 v0 (M v0 1) (fin_ Γ 0 0 (some (.inl r)) sh M')) (w_X9_letters_L34 hC ) FU _ _ q53 ?_ : p_X9_letters_L34 Γ sh M2 v0 (M v0 1) (fin_ Γ 0 0 (some (.inl r)) sh M') (0, 0))
        replace h := u1_s h
        show AW Γ sh M2 0 0 83 [some (.inr (.inr v0)), some (.inl (M v0 1)), some (.inl tq53), none, none, none, none] [] _
        refine aw_sub hC [some (.inr (.inr v0)), some (.inl (M v0 1)), some (.inl tq53), none, none, none, none] ⟨rfl, ⟨rfl, ⟨rfl, trivial⟩⟩⟩ (Nat.le_of_ble_eq_true rfl) ?_
        exact w_X9_letters_J83 hC h rfl
      · replace h := it_n c52 h
        refine aw_iconst (pc' := 27) hC dX9_letters_26 rfl (by decide) ?_
        refine aw_goto (tgt := 31) hC dX9_letters_27 (by decide) ?_
        refine aw_istore_n (pc' := 32) (i := 2) (ls' := [some (.inr (.inr v0)), some (.inl (M v0 1)), some (.inl 1), none, none, none, none]) hC dX9_letters_31 rfl rfl (Nat.le_of_ble_eq_true rfl) rfl rfl ?_
        refine aw_iconst (pc' := 33) hC dX9_letters_32 rfl (by decide) ?_
        refine aw_istore_n (pc' := 34) (i := 3) (ls' := [some (.inr (.inr v0)), some (.inl (M v0 1)), some (.inl 1), some (.inl 0), none, none, none]) hC dX9_letters_33 rfl rfl (Nat.le_of_ble_eq_true rfl) rfl rfl ?_
        obtain ⟨tq54, q54, h⟩ := pb_s h
        refine aw_sub hC [some (.inr (.inr v0)), some (.inl (M v0 1)), some (.inl 1), some (.inl 0), none, none, none] ⟨rfl, ⟨rfl, ⟨rfl, ⟨rfl, trivial⟩⟩⟩⟩ (Nat.le_of_ble_eq_true rfl) ?_
        refine (lp_aw (p_X9_letters_L34 Γ sh M2 v0 (M v0 1) (fin_ Γ 0 0 (some (.inl r)) sh M')) (x_X9_letters_L34 Γ sh M2 v0 (M v0 1) (fin_ Γ 0 0 (some (.inl r)) sh M')) (w_X9_letters_L34 hC ) FU _ _ q54 ?_ : p_X9_letters_L34 Γ sh M2 v0 (M v0 1) (fin_ Γ 0 0 (some (.inl r)) sh M') (1, 0))
        replace h := u1_s h
        show AW Γ sh M2 0 0 83 [some (.inr (.inr v0)), some (.inl (M v0 1)), some (.inl tq54), none, none, none, none] [] _
        refine aw_sub hC [some (.inr (.inr v0)), some (.inl (M v0 1)), some (.inl tq54), none, none, none, none] ⟨rfl, ⟨rfl, ⟨rfl, trivial⟩⟩⟩ (Nat.le_of_ble_eq_true rfl) ?_
        exact w_X9_letters_J83 hC h rfl
-- CoinCircleModel.letterIs(I)I
def fX9_letterIs (sh : AwS) (M : AwM) (v0 : Int) (v1 : Int) : Option Int :=
  gd_ (kd_ sh v0 = (0, 9)) (pb (fX9_is sh M v1 0 (w32 ((M v0 67) - 1))) <| u1 fun (x3 : Int) => ((if x3 = 0 then some (-1) else gd_ ((kd_ sh (M v0 68)).1 = 1 ∧ (0 : Int) ≤ v1 ∧ v1 < ((kd_ sh (M v0 68)).2 : Int)) (some (M (M v0 68) v1)))))
set_option maxRecDepth 100000 in
set_option maxHeartbeats 4000000 in
theorem mX9_letterIs {sh : AwS} {M : AwM} {v0 : Int} {v1 : Int} {r : Int} (h : fX9_letterIs sh M v0 v1 = some r) : AMet yX9_letterIs cX9_letterIs 2 (some .int) 2 0 0 [.inr (.inr v0), .inl v1] sh M (some (.inl r)) sh M := by
  refine amet_of (by decide +kernel) (Nat.le_of_ble_eq_true rfl) (fun Γ hC => ?_)
  replace hC : AOK Γ RX9 cX9_letterIs 2 2 0 0 "letterIs" (some .int) := hC
  unfold fX9_letterIs at h
  refine aw_sub hC [some (.inr (.inr v0)), some (.inl v1)] ⟨rfl, ⟨rfl, trivial⟩⟩ (Nat.le_of_ble_eq_true rfl) ?_
  refine aw_iload_n (pc' := 1) (i := 1) hC dX9_letterIs_0 rfl rfl rfl ?_
  refine aw_iconst (pc' := 2) hC dX9_letterIs_1 rfl (by decide) ?_
  refine aw_aload_n (pc' := 3) (i := 0) hC dX9_letterIs_2 rfl rfl rfl ?_
  obtain ⟨g1, h⟩ := gd_s h
  refine aw_getfield (pc' := 6) (v := (.inl (M v0 67))) hC dX9_letterIs_3 rfl fl_X9_216 g1 rfl ?_
  refine aw_iconst (pc' := 7) hC dX9_letterIs_6 rfl (by decide) ?_
  refine aw_isub (pc' := 8) hC dX9_letterIs_7 rfl  ?_
  obtain ⟨x3, q2, h⟩ := pb_s h
  replace h := u1_s h
  refine aw_cS (pc' := 11) (k2 := 0) (n2 := 0) (st := []) (stN := [.inl x3]) hC [.inl v1, .inl 0, .inl (w32 ((M v0 67) - 1))] (mX9_is q2) lk_X9_314 dX9_letterIs_8 rfl rfl (Nat.le_of_ble_eq_true rfl) (Nat.le_of_ble_eq_true rfl) (Nat.le_of_ble_eq_true rfl) rfl (Nat.le_of_ble_eq_true rfl) rfl rfl rfl ?_
  refine aw_if_eq (tgt := 23) (pc' := 14) hC dX9_letterIs_11 (by decide) rfl (fun c4 => ?_) (fun c4 => ?_)
  · replace h := it_p c4 h
    refine aw_iconst (pc' := 24) hC dX9_letterIs_23 rfl (by decide) ?_
    cases h
    exact aw_iret hC dX9_letterIs_24 (Nat.le_of_ble_eq_true rfl) (Nat.le_of_ble_eq_true rfl)
  · replace h := it_n c4 h
    refine aw_aload_n (pc' := 15) (i := 0) hC dX9_letterIs_14 rfl rfl rfl ?_
    refine aw_getfield (pc' := 18) (v := (.inr (.inr (M v0 68)))) hC dX9_letterIs_15 rfl fl_X9_219 g1 rfl ?_
    refine aw_iload_n (pc' := 19) (i := 1) hC dX9_letterIs_18 rfl rfl rfl ?_
    obtain ⟨g5, h⟩ := gd_s h
    refine aw_iaload (pc' := 20) hC dX9_letterIs_19 rfl g5 ?_
    refine aw_goto (tgt := 24) hC dX9_letterIs_20 (by decide) ?_
    cases h
    exact aw_iret hC dX9_letterIs_24 (Nat.le_of_ble_eq_true rfl) (Nat.le_of_ble_eq_true rfl)
-- CoinCircleModel.fair(II)I
def fX9_fair_J94_37 (sh : AwS) (M : AwM) (v0 : Int) (v2 : Int) (v3 : Int) (v4 : Int) (v5 : Int) (v6 : Int) (s0 : Int) : Option ((Int × Int × Int) ⊕ (Int × Int)) :=
  (if s0 < v5 then some (.inl (v6, s0, (w32 (v6 + 1)))) else some (.inl (v4, v5, (w32 (v6 + 1)))))
def fX9_fair_L37 (sh : AwS) (M : AwM) (v0 : Int) (v2 : Int) (v3 : Int) (v4 : Int) (v5 : Int) (v6 : Int) : Option ((Int × Int × Int) ⊕ (Int × Int)) :=
  gd_ (kd_ sh v0 = (0, 9)) (gd_ ((kd_ sh (M v0 16)).1 = 1 ∧ (0 : Int) ≤ (M v0 13) ∧ (M v0 13) < ((kd_ sh (M v0 16)).2 : Int)) ((if v6 < (sl_ 1 (M (M v0 16) (M v0 13))) then (if (an_ v6 (xo_ v3 (-1))) = 0 then pb (fX9_worthAll sh M v0 v6) <| u1 fun (x15 : Int) => (pb (fX9_worthAll sh M v0 v3) <| u1 fun (x17 : Int) => ((if (w32 ((w32 (2 * x15)) - x17)) < 0 then fX9_fair_J94_37 sh M v0 v2 v3 v4 v5 v6 (w32 (-(w32 ((w32 (2 * x15)) - x17)))) else fX9_fair_J94_37 sh M v0 v2 v3 v4 v5 v6 (w32 ((w32 (2 * x15)) - x17))))) else some (.inl (v4, v5, (w32 (v6 + 1))))) else some (.inr (v4, v5)))))
def p_X9_fair_L37 (Γ : AwC) (sh : AwS) (M : AwM) (v0 : Int) (v2 : Int) (v3 : Int) (Q : State → Prop) (s : Int × Int × Int) : Prop := AW Γ sh M 0 0 37 [some (.inr (.inr v0)), none, some (.inl v2), some (.inl v3), some (.inl (s.1)), some (.inl (s.2.1)), some (.inl (s.2.2)), none] [] Q
def x_X9_fair_L37 (Γ : AwC) (sh : AwS) (M : AwM) (v0 : Int) (v2 : Int) (v3 : Int) (Q : State → Prop) : (Int × Int) → Prop := (fun (t : Int × Int) => AW Γ sh M 0 0 120 [none, none, some (.inl v2), none, some (.inl (t.1)), some (.inl (t.2)), none, none] [] Q)
def fX9_fair (sh : AwS) (M : AwM) (v0 : Int) (v1 : Int) (v2 : Int) : Option Int :=
  gd_ (kd_ sh v0 = (0, 9)) (pb (fX9_isPerson sh M v0 v1) <| u1 fun (x3 : Int) => ((if x3 = 0 then some (-1) else pb (fX9_is sh M v2 0 1) <| u1 fun (x6 : Int) => ((if x6 = 0 then some (-1) else pb (fX9_heldBy sh M v0 0 v1) <| u1 fun (x9 : Int) => (pb (lp (u3 (fX9_fair_L37 sh M v0 v2 x9)) FU ((-1), 100000000, 0)) (u2 (fun (x21 : Int) (x22 : Int) => (if v2 = 0 then some x21 else some x22)))))))))
set_option maxRecDepth 100000 in
set_option maxHeartbeats 4000000 in
theorem w_X9_fair_J94_37 {Γ : AwC} (hC : AOK Γ RX9 cX9_fair 8 3 0 0 "fair" (some .int)) {sh : AwS} {M : AwM} {v0 : Int} {v2 : Int} {v3 : Int} {v4 : Int} {v5 : Int} {v6 : Int} {s0 : Int} {Q : State → Prop} {r : (Int × Int × Int) ⊕ (Int × Int)} (h : fX9_fair_J94_37 sh M v0 v2 v3 v4 v5 v6 s0 = some r) (hL : ∀ s', r = .inl s' → p_X9_fair_L37 Γ sh M v0 v2 v3 Q s') (hX : ∀ t, r = .inr t → x_X9_fair_L37 Γ sh M v0 v2 v3 Q t) : AW Γ sh M 0 0 94 [some (.inr (.inr v0)), none, some (.inl v2), some (.inl v3), some (.inl v4), some (.inl v5), some (.inl v6), none] [.inl s0] Q := by
  unfold fX9_fair_J94_37 at h
  refine aw_istore (pc' := 96) (ls' := [some (.inr (.inr v0)), none, some (.inl v2), some (.inl v3), some (.inl v4), some (.inl v5), some (.inl v6), some (.inl s0)]) hC dX9_fair_94 rfl (Nat.le_of_ble_eq_true rfl) rfl rfl ?_
  refine aw_iload (pc' := 98) hC dX9_fair_96 rfl rfl ?_
  refine aw_iload (pc' := 100) hC dX9_fair_98 rfl rfl ?_
  refine aw_icmp_lt (tgt := 106) (pc' := 103) hC dX9_fair_100 (by decide) rfl (fun c19 => ?_) (fun c19 => ?_)
  · replace h := it_p c19 h
    refine aw_iload (pc' := 108) hC dX9_fair_106 rfl rfl ?_
    refine aw_istore (pc' := 110) (ls' := [some (.inr (.inr v0)), none, some (.inl v2), some (.inl v3), some (.inl v4), some (.inl s0), some (.inl v6), some (.inl s0)]) hC dX9_fair_108 rfl (Nat.le_of_ble_eq_true rfl) rfl rfl ?_
    refine aw_iload (pc' := 112) hC dX9_fair_110 rfl rfl ?_
    refine aw_istore (pc' := 114) (ls' := [some (.inr (.inr v0)), none, some (.inl v2), some (.inl v3), some (.inl v6), some (.inl s0), some (.inl v6), some (.inl s0)]) hC dX9_fair_112 rfl (Nat.le_of_ble_eq_true rfl) rfl rfl ?_
    refine aw_iinc (pc' := 117) (ls' := [some (.inr (.inr v0)), none, some (.inl v2), some (.inl v3), some (.inl v6), some (.inl s0), some (.inl (w32 (v6 + 1))), some (.inl s0)]) hC dX9_fair_114 rfl rfl rfl rfl ?_
    refine aw_goto (tgt := 37) hC dX9_fair_117 (by decide) ?_
    refine aw_sub hC [some (.inr (.inr v0)), none, some (.inl v2), some (.inl v3), some (.inl v6), some (.inl s0), some (.inl (w32 (v6 + 1))), none] ⟨rfl, ⟨rfl, ⟨rfl, ⟨rfl, ⟨rfl, ⟨rfl, trivial⟩⟩⟩⟩⟩⟩ (Nat.le_of_ble_eq_true rfl) ?_
    cases h
    exact hL _ rfl
  · replace h := it_n c19 h
    refine aw_goto (tgt := 114) hC dX9_fair_103 (by decide) ?_
    refine aw_iinc (pc' := 117) (ls' := [some (.inr (.inr v0)), none, some (.inl v2), some (.inl v3), some (.inl v4), some (.inl v5), some (.inl (w32 (v6 + 1))), some (.inl s0)]) hC dX9_fair_114 rfl rfl rfl rfl ?_
    refine aw_goto (tgt := 37) hC dX9_fair_117 (by decide) ?_
    refine aw_sub hC [some (.inr (.inr v0)), none, some (.inl v2), some (.inl v3), some (.inl v4), some (.inl v5), some (.inl (w32 (v6 + 1))), none] ⟨rfl, ⟨rfl, ⟨rfl, ⟨rfl, ⟨rfl, ⟨rfl, trivial⟩⟩⟩⟩⟩⟩ (Nat.le_of_ble_eq_true rfl) ?_
    cases h
    exact hL _ rfl
set_option maxRecDepth 100000 in
set_option maxHeartbeats 4000000 in
theorem w_X9_fair_L37 {Γ : AwC} (hC : AOK Γ RX9 cX9_fair 8 3 0 0 "fair" (some .int)) {sh : AwS} {M : AwM} {v0 : Int} {v2 : Int} {v3 : Int} {Q : State → Prop} : ∀ s r, u3 (fX9_fair_L37 sh M v0 v2 v3) s = some r → (∀ s', r = .inl s' → p_X9_fair_L37 Γ sh M v0 v2 v3 Q s') → (∀ t, r = .inr t → x_X9_fair_L37 Γ sh M v0 v2 v3 Q t) → p_X9_fair_L37 Γ sh M v0 v2 v3 Q s := by
  intro s r h hL hX
  obtain ⟨v4, v5, v6⟩ := s
  replace h := u3_s h
  unfold fX9_fair_L37 at h
  show AW Γ sh M 0 0 37 [some (.inr (.inr v0)), none, some (.inl v2), some (.inl v3), some (.inl v4), some (.inl v5), some (.inl v6), none] [] Q
  refine aw_iload (pc' := 39) hC dX9_fair_37 rfl rfl ?_
  refine aw_iconst (pc' := 40) hC dX9_fair_39 rfl (by decide) ?_
  refine aw_aload_n (pc' := 41) (i := 0) hC dX9_fair_40 rfl rfl rfl ?_
  obtain ⟨g10, h⟩ := gd_s h
  refine aw_getfield (pc' := 44) (v := (.inr (.inr (M v0 16)))) hC dX9_fair_41 rfl fl_X9_60 g10 rfl ?_
  refine aw_aload_n (pc' := 45) (i := 0) hC dX9_fair_44 rfl rfl rfl ?_
  refine aw_getfield (pc' := 48) (v := (.inl (M v0 13))) hC dX9_fair_45 rfl fl_X9_51 g10 rfl ?_
  obtain ⟨g11, h⟩ := gd_s h
  refine aw_iaload (pc' := 49) hC dX9_fair_48 rfl g11 ?_
  refine aw_ishl (pc' := 50) hC dX9_fair_49 rfl  ?_
  refine aw_icmp_ge (tgt := 120) (pc' := 53) hC dX9_fair_50 (by decide) rfl (fun c12 => ?_) (fun c12 => ?_)
  · replace h := it_n c12 h
    refine aw_sub hC [none, none, some (.inl v2), none, some (.inl v4), some (.inl v5), none, none] ⟨rfl, ⟨rfl, ⟨rfl, trivial⟩⟩⟩ (Nat.le_of_ble_eq_true rfl) ?_
    cases h
    exact hX _ rfl
  · replace h := it_p c12 h
    refine aw_iload (pc' := 55) hC dX9_fair_53 rfl rfl ?_
    refine aw_iload_n (pc' := 56) (i := 3) hC dX9_fair_55 rfl rfl rfl ?_
    refine aw_iconst (pc' := 57) hC dX9_fair_56 rfl (by decide) ?_
    refine aw_ixor (pc' := 58) hC dX9_fair_57 rfl  ?_
    refine aw_iand (pc' := 59) hC dX9_fair_58 rfl  ?_
    refine aw_if_eq (tgt := 65) (pc' := 62) hC dX9_fair_59 (by decide) rfl (fun c13 => ?_) (fun c13 => ?_)
    · replace h := it_p c13 h
      refine aw_iconst (pc' := 66) hC dX9_fair_65 rfl (by decide) ?_
      refine aw_aload_n (pc' := 67) (i := 0) hC dX9_fair_66 rfl rfl rfl ?_
      refine aw_iload (pc' := 69) hC dX9_fair_67 rfl rfl ?_
      obtain ⟨x15, q14, h⟩ := pb_s h
      replace h := u1_s h
      refine aw_cV (pc' := 72) (k2 := 0) (n2 := 0) (st := [.inl 2]) (stN := [.inl x15, .inl 2]) hC [.inl v6] (mX9_worthAll q14) lk_X9_474 g10 dX9_fair_69 rfl rfl (Nat.le_of_ble_eq_true rfl) (Nat.le_of_ble_eq_true rfl) (Nat.le_of_ble_eq_true rfl) rfl (Nat.le_of_ble_eq_true rfl) rfl rfl rfl ?_
      refine aw_imul (pc' := 73) hC dX9_fair_72 rfl  ?_
      refine aw_aload_n (pc' := 74) (i := 0) hC dX9_fair_73 rfl rfl rfl ?_
      refine aw_iload_n (pc' := 75) (i := 3) hC dX9_fair_74 rfl rfl rfl ?_
      obtain ⟨x17, q16, h⟩ := pb_s h
      replace h := u1_s h
      refine aw_cV (pc' := 78) (k2 := 0) (n2 := 0) (st := [.inl (w32 (2 * x15))]) (stN := [.inl x17, .inl (w32 (2 * x15))]) hC [.inl v3] (mX9_worthAll q16) lk_X9_474 g10 dX9_fair_75 rfl rfl (Nat.le_of_ble_eq_true rfl) (Nat.le_of_ble_eq_true rfl) (Nat.le_of_ble_eq_true rfl) rfl (Nat.le_of_ble_eq_true rfl) rfl rfl rfl ?_
      refine aw_isub (pc' := 79) hC dX9_fair_78 rfl  ?_
      refine aw_istore (pc' := 81) (ls' := [some (.inr (.inr v0)), none, some (.inl v2), some (.inl v3), some (.inl v4), some (.inl v5), some (.inl v6), some (.inl (w32 ((w32 (2 * x15)) - x17)))]) hC dX9_fair_79 rfl (Nat.le_of_ble_eq_true rfl) rfl rfl ?_
      refine aw_iload (pc' := 83) hC dX9_fair_81 rfl rfl ?_
      refine aw_if_ge (tgt := 92) (pc' := 86) hC dX9_fair_83 (by decide) rfl (fun c18 => ?_) (fun c18 => ?_)
      · replace h := it_n c18 h
        refine aw_iload (pc' := 94) hC dX9_fair_92 rfl rfl ?_
        refine aw_sub hC [some (.inr (.inr v0)), none, some (.inl v2), some (.inl v3), some (.inl v4), some (.inl v5), some (.inl v6), none] ⟨rfl, ⟨rfl, ⟨rfl, ⟨rfl, ⟨rfl, ⟨rfl, trivial⟩⟩⟩⟩⟩⟩ (Nat.le_of_ble_eq_true rfl) ?_
        exact w_X9_fair_J94_37 hC h hL hX
      · replace h := it_p c18 h
        refine aw_iload (pc' := 88) hC dX9_fair_86 rfl rfl ?_
        refine aw_ineg (pc' := 89) hC dX9_fair_88 rfl  ?_
        refine aw_goto (tgt := 94) hC dX9_fair_89 (by decide) ?_
        refine aw_sub hC [some (.inr (.inr v0)), none, some (.inl v2), some (.inl v3), some (.inl v4), some (.inl v5), some (.inl v6), none] ⟨rfl, ⟨rfl, ⟨rfl, ⟨rfl, ⟨rfl, ⟨rfl, trivial⟩⟩⟩⟩⟩⟩ (Nat.le_of_ble_eq_true rfl) ?_
        exact w_X9_fair_J94_37 hC h hL hX
    · replace h := it_n c13 h
      refine aw_goto (tgt := 114) hC dX9_fair_62 (by decide) ?_
      refine aw_iinc (pc' := 117) (ls' := [some (.inr (.inr v0)), none, some (.inl v2), some (.inl v3), some (.inl v4), some (.inl v5), some (.inl (w32 (v6 + 1))), none]) hC dX9_fair_114 rfl rfl rfl rfl ?_
      refine aw_goto (tgt := 37) hC dX9_fair_117 (by decide) ?_
      refine aw_sub hC [some (.inr (.inr v0)), none, some (.inl v2), some (.inl v3), some (.inl v4), some (.inl v5), some (.inl (w32 (v6 + 1))), none] ⟨rfl, ⟨rfl, ⟨rfl, ⟨rfl, ⟨rfl, ⟨rfl, trivial⟩⟩⟩⟩⟩⟩ (Nat.le_of_ble_eq_true rfl) ?_
      cases h
      exact hL _ rfl
set_option maxRecDepth 100000 in
set_option maxHeartbeats 4000000 in
theorem mX9_fair {sh : AwS} {M : AwM} {v0 : Int} {v1 : Int} {v2 : Int} {r : Int} (h : fX9_fair sh M v0 v1 v2 = some r) : AMet yX9_fair cX9_fair 8 (some .int) 3 0 0 [.inr (.inr v0), .inl v1, .inl v2] sh M (some (.inl r)) sh M := by
  refine amet_of (by decide +kernel) (Nat.le_of_ble_eq_true rfl) (fun Γ hC => ?_)
  replace hC : AOK Γ RX9 cX9_fair 8 3 0 0 "fair" (some .int) := hC
  unfold fX9_fair at h
  refine aw_sub hC [some (.inr (.inr v0)), some (.inl v1), some (.inl v2), none, none, none, none, none] ⟨rfl, ⟨rfl, ⟨rfl, trivial⟩⟩⟩ (Nat.le_of_ble_eq_true rfl) ?_
  refine aw_aload_n (pc' := 1) (i := 0) hC dX9_fair_0 rfl rfl rfl ?_
  refine aw_iload_n (pc' := 2) (i := 1) hC dX9_fair_1 rfl rfl rfl ?_
  obtain ⟨g2, h⟩ := gd_s h
  obtain ⟨x3, q1, h⟩ := pb_s h
  replace h := u1_s h
  refine aw_cV (pc' := 5) (k2 := 0) (n2 := 0) (st := []) (stN := [.inl x3]) hC [.inl v1] (mX9_isPerson q1) lk_X9_471 g2 dX9_fair_2 rfl rfl (Nat.le_of_ble_eq_true rfl) (Nat.le_of_ble_eq_true rfl) (Nat.le_of_ble_eq_true rfl) rfl (Nat.le_of_ble_eq_true rfl) rfl rfl rfl ?_
  refine aw_if_eq (tgt := 17) (pc' := 8) hC dX9_fair_5 (by decide) rfl (fun c4 => ?_) (fun c4 => ?_)
  · replace h := it_p c4 h
    refine aw_iconst (pc' := 18) hC dX9_fair_17 rfl (by decide) ?_
    cases h
    exact aw_iret hC dX9_fair_18 (Nat.le_of_ble_eq_true rfl) (Nat.le_of_ble_eq_true rfl)
  · replace h := it_n c4 h
    refine aw_iload_n (pc' := 9) (i := 2) hC dX9_fair_8 rfl rfl rfl ?_
    refine aw_iconst (pc' := 10) hC dX9_fair_9 rfl (by decide) ?_
    refine aw_iconst (pc' := 11) hC dX9_fair_10 rfl (by decide) ?_
    obtain ⟨x6, q5, h⟩ := pb_s h
    replace h := u1_s h
    refine aw_cS (pc' := 14) (k2 := 0) (n2 := 0) (st := []) (stN := [.inl x6]) hC [.inl v2, .inl 0, .inl 1] (mX9_is q5) lk_X9_314 dX9_fair_11 rfl rfl (Nat.le_of_ble_eq_true rfl) (Nat.le_of_ble_eq_true rfl) (Nat.le_of_ble_eq_true rfl) rfl (Nat.le_of_ble_eq_true rfl) rfl rfl rfl ?_
    refine aw_if_ne (tgt := 19) (pc' := 17) hC dX9_fair_14 (by decide) rfl (fun c7 => ?_) (fun c7 => ?_)
    · replace h := it_n c7 h
      refine aw_aload_n (pc' := 20) (i := 0) hC dX9_fair_19 rfl rfl rfl ?_
      refine aw_iconst (pc' := 21) hC dX9_fair_20 rfl (by decide) ?_
      refine aw_iload_n (pc' := 22) (i := 1) hC dX9_fair_21 rfl rfl rfl ?_
      obtain ⟨x9, q8, h⟩ := pb_s h
      replace h := u1_s h
      refine aw_cV (pc' := 25) (k2 := 0) (n2 := 0) (st := []) (stN := [.inl x9]) hC [.inl 0, .inl v1] (mX9_heldBy q8) lk_X9_451 g2 dX9_fair_22 rfl rfl (Nat.le_of_ble_eq_true rfl) (Nat.le_of_ble_eq_true rfl) (Nat.le_of_ble_eq_true rfl) rfl (Nat.le_of_ble_eq_true rfl) rfl rfl rfl ?_
      refine aw_istore_n (pc' := 26) (i := 3) (ls' := [some (.inr (.inr v0)), some (.inl v1), some (.inl v2), some (.inl x9), none, none, none, none]) hC dX9_fair_25 rfl rfl (Nat.le_of_ble_eq_true rfl) rfl rfl ?_
      refine aw_iconst (pc' := 27) hC dX9_fair_26 rfl (by decide) ?_
      refine aw_istore (pc' := 29) (ls' := [some (.inr (.inr v0)), some (.inl v1), some (.inl v2), some (.inl x9), some (.inl (-1)), none, none, none]) hC dX9_fair_27 rfl (Nat.le_of_ble_eq_true rfl) rfl rfl ?_
      refine aw_ldcw (pc' := 32) (v := 100000000) hC dX9_fair_29 rfl ck_X9_535 (by unfold I32; omega) ?_
      refine aw_istore (pc' := 34) (ls' := [some (.inr (.inr v0)), some (.inl v1), some (.inl v2), some (.inl x9), some (.inl (-1)), some (.inl 100000000), none, none]) hC dX9_fair_32 rfl (Nat.le_of_ble_eq_true rfl) rfl rfl ?_
      refine aw_iconst (pc' := 35) hC dX9_fair_34 rfl (by decide) ?_
      refine aw_istore (pc' := 37) (ls' := [some (.inr (.inr v0)), some (.inl v1), some (.inl v2), some (.inl x9), some (.inl (-1)), some (.inl 100000000), some (.inl 0), none]) hC dX9_fair_35 rfl (Nat.le_of_ble_eq_true rfl) rfl rfl ?_
      obtain ⟨tq20, q20, h⟩ := pb_s h
      refine aw_sub hC [some (.inr (.inr v0)), none, some (.inl v2), some (.inl x9), some (.inl (-1)), some (.inl 100000000), some (.inl 0), none] ⟨rfl, ⟨rfl, ⟨rfl, ⟨rfl, ⟨rfl, ⟨rfl, trivial⟩⟩⟩⟩⟩⟩ (Nat.le_of_ble_eq_true rfl) ?_
      refine (lp_aw (p_X9_fair_L37 Γ sh M v0 v2 x9 (fin_ Γ 0 0 (some (.inl r)) sh M)) (x_X9_fair_L37 Γ sh M v0 v2 x9 (fin_ Γ 0 0 (some (.inl r)) sh M)) (w_X9_fair_L37 hC ) FU _ _ q20 ?_ : p_X9_fair_L37 Γ sh M v0 v2 x9 (fin_ Γ 0 0 (some (.inl r)) sh M) ((-1), 100000000, 0))
      obtain ⟨x21, x22⟩ := tq20
      replace h := u2_s h
      show AW Γ sh M 0 0 120 [none, none, some (.inl v2), none, some (.inl x21), some (.inl x22), none, none] [] _
      refine aw_iload_n (pc' := 121) (i := 2) hC dX9_fair_120 rfl rfl rfl ?_
      refine aw_if_ne (tgt := 129) (pc' := 124) hC dX9_fair_121 (by decide) rfl (fun c23 => ?_) (fun c23 => ?_)
      · replace h := it_n c23 h
        refine aw_iload (pc' := 131) hC dX9_fair_129 rfl rfl ?_
        cases h
        exact aw_iret hC dX9_fair_131 (Nat.le_of_ble_eq_true rfl) (Nat.le_of_ble_eq_true rfl)
      · replace h := it_p c23 h
        refine aw_iload (pc' := 126) hC dX9_fair_124 rfl rfl ?_
        refine aw_goto (tgt := 131) hC dX9_fair_126 (by decide) ?_
        cases h
        exact aw_iret hC dX9_fair_131 (Nat.le_of_ble_eq_true rfl) (Nat.le_of_ble_eq_true rfl)
    · replace h := it_p c7 h
      refine aw_iconst (pc' := 18) hC dX9_fair_17 rfl (by decide) ?_
      cases h
      exact aw_iret hC dX9_fair_18 (Nat.le_of_ble_eq_true rfl) (Nat.le_of_ble_eq_true rfl)
-- CoinCircleModel.isAhead(I)Z
def fX9_isAhead (sh : AwS) (M : AwM) (v0 : Int) (v1 : Int) : Option Int :=
  pb (fX9_is sh M v1 0 60) <| u1 fun (x2 : Int) => ((if x2 = 0 then some 0 else gd_ (kd_ sh v0 = (0, 9)) (gd_ ((kd_ sh (M v0 48)).1 = 1 ∧ (0 : Int) ≤ 0 ∧ 0 < ((kd_ sh (M v0 48)).2 : Int)) ((if 999 < (w32 ((M (M v0 48) 0) + v1)) then some 0 else some 1)))))
set_option maxRecDepth 100000 in
set_option maxHeartbeats 4000000 in
theorem mX9_isAhead {sh : AwS} {M : AwM} {v0 : Int} {v1 : Int} {r : Int} (h : fX9_isAhead sh M v0 v1 = some r) : AMet yX9_isAhead cX9_isAhead 2 (some .boolean) 2 0 0 [.inr (.inr v0), .inl v1] sh M (some (.inl r)) sh M := by
  refine amet_of (by decide +kernel) (Nat.le_of_ble_eq_true rfl) (fun Γ hC => ?_)
  replace hC : AOK Γ RX9 cX9_isAhead 2 2 0 0 "isAhead" (some .boolean) := hC
  unfold fX9_isAhead at h
  refine aw_sub hC [some (.inr (.inr v0)), some (.inl v1)] ⟨rfl, ⟨rfl, trivial⟩⟩ (Nat.le_of_ble_eq_true rfl) ?_
  refine aw_iload_n (pc' := 1) (i := 1) hC dX9_isAhead_0 rfl rfl rfl ?_
  refine aw_iconst (pc' := 2) hC dX9_isAhead_1 rfl (by decide) ?_
  refine aw_bipush (pc' := 4) hC dX9_isAhead_2 rfl (by decide) ?_
  obtain ⟨x2, q1, h⟩ := pb_s h
  replace h := u1_s h
  refine aw_cS (pc' := 7) (k2 := 0) (n2 := 0) (st := []) (stN := [.inl x2]) hC [.inl v1, .inl 0, .inl 60] (mX9_is q1) lk_X9_314 dX9_isAhead_4 rfl rfl (Nat.le_of_ble_eq_true rfl) (Nat.le_of_ble_eq_true rfl) (Nat.le_of_ble_eq_true rfl) rfl (Nat.le_of_ble_eq_true rfl) rfl rfl rfl ?_
  refine aw_if_eq (tgt := 28) (pc' := 10) hC dX9_isAhead_7 (by decide) rfl (fun c3 => ?_) (fun c3 => ?_)
  · replace h := it_p c3 h
    refine aw_iconst (pc' := 29) hC dX9_isAhead_28 rfl (by decide) ?_
    cases h
    exact aw_zret hC (Or.inl rfl) dX9_isAhead_29 (Nat.le_of_ble_eq_true rfl) (Nat.le_of_ble_eq_true rfl)
  · replace h := it_n c3 h
    refine aw_aload_n (pc' := 11) (i := 0) hC dX9_isAhead_10 rfl rfl rfl ?_
    obtain ⟨g4, h⟩ := gd_s h
    refine aw_getfield (pc' := 14) (v := (.inr (.inr (M v0 48)))) hC dX9_isAhead_11 rfl fl_X9_159 g4 rfl ?_
    refine aw_iconst (pc' := 15) hC dX9_isAhead_14 rfl (by decide) ?_
    obtain ⟨g5, h⟩ := gd_s h
    refine aw_iaload (pc' := 16) hC dX9_isAhead_15 rfl g5 ?_
    refine aw_iload_n (pc' := 17) (i := 1) hC dX9_isAhead_16 rfl rfl rfl ?_
    refine aw_iadd (pc' := 18) hC dX9_isAhead_17 rfl  ?_
    refine aw_sipush (pc' := 21) hC dX9_isAhead_18 rfl (by decide) ?_
    refine aw_icmp_gt (tgt := 28) (pc' := 24) hC dX9_isAhead_21 (by decide) rfl (fun c6 => ?_) (fun c6 => ?_)
    · replace h := it_p c6 h
      refine aw_iconst (pc' := 29) hC dX9_isAhead_28 rfl (by decide) ?_
      cases h
      exact aw_zret hC (Or.inl rfl) dX9_isAhead_29 (Nat.le_of_ble_eq_true rfl) (Nat.le_of_ble_eq_true rfl)
    · replace h := it_n c6 h
      refine aw_iconst (pc' := 25) hC dX9_isAhead_24 rfl (by decide) ?_
      refine aw_goto (tgt := 29) hC dX9_isAhead_25 (by decide) ?_
      cases h
      exact aw_zret hC (Or.inr rfl) dX9_isAhead_29 (Nat.le_of_ble_eq_true rfl) (Nat.le_of_ble_eq_true rfl)
-- CoinCircleModel.later(II)I
def fX9_later_L26 (sh : AwS) (v0 : Int) (v1 : Int) (v2 : Int) (v3 : Int) (M : AwM) : Option ((Int × AwM) ⊕ (AwM)) :=
  (if v3 < v2 then gd_ (kd_ sh v0 = (0, 9)) (pb (fX9_dayGoes sh M v0 1) <| u2 fun (x13 : Int) (M14 : AwM) => (some (.inl ((w32 (v3 + 1)), M14)))) else some (.inr M))
def p_X9_later_L26 (Γ : AwC) (sh : AwS) (v0 : Int) (v1 : Int) (v2 : Int) (Q : State → Prop) (s : Int × AwM) : Prop := AW Γ sh (s.2) 0 0 26 [some (.inr (.inr v0)), some (.inl v1), some (.inl v2), some (.inl (s.1))] [] Q
def x_X9_later_L26 (Γ : AwC) (sh : AwS) (v0 : Int) (v1 : Int) (v2 : Int) (Q : State → Prop) : (AwM) → Prop := (fun (t : AwM) => AW Γ sh (t) 0 0 43 [some (.inr (.inr v0)), some (.inl v1), none, none] [] Q)
def fX9_later (sh : AwS) (M : AwM) (v0 : Int) (v1 : Int) (v2 : Int) : Option (Int × AwM) :=
  gd_ (kd_ sh v0 = (0, 9)) (pb (fX9_isCoin sh M v0 v1) <| u1 fun (x3 : Int) => ((if x3 = 0 then some ((-1), M) else pb (fX9_isAhead sh M v0 v2) <| u1 fun (x6 : Int) => ((if x6 = 0 then some ((-1), M) else pb (fX9_copies sh M v0 1 0) <| u1 fun (M9 : AwM) => (pb (lp (u2 (fX9_later_L26 sh v0 v1 v2)) FU (0, M9)) (u1 (fun (tq15 : AwM) => gd_ ((kd_ sh (tq15 v0 50)).1 = 1 ∧ (0 : Int) ≤ (w32 (12 + v1)) ∧ (w32 (12 + v1)) < ((kd_ sh (tq15 v0 50)).2 : Int)) (some ((tq15 (tq15 v0 50) (w32 (12 + v1))), tq15))))))))))
set_option maxRecDepth 100000 in
set_option maxHeartbeats 4000000 in
theorem w_X9_later_L26 {Γ : AwC} (hC : AOK Γ RX9 cX9_later 4 3 0 0 "later" (some .int)) {sh : AwS} {v0 : Int} {v1 : Int} {v2 : Int} {Q : State → Prop} : ∀ s r, u2 (fX9_later_L26 sh v0 v1 v2) s = some r → (∀ s', r = .inl s' → p_X9_later_L26 Γ sh v0 v1 v2 Q s') → (∀ t, r = .inr t → x_X9_later_L26 Γ sh v0 v1 v2 Q t) → p_X9_later_L26 Γ sh v0 v1 v2 Q s := by
  intro s r h hL hX
  obtain ⟨v3, M⟩ := s
  replace h := u2_s h
  unfold fX9_later_L26 at h
  show AW Γ sh M 0 0 26 [some (.inr (.inr v0)), some (.inl v1), some (.inl v2), some (.inl v3)] [] Q
  refine aw_iload_n (pc' := 27) (i := 3) hC dX9_later_26 rfl rfl rfl ?_
  refine aw_iload_n (pc' := 28) (i := 2) hC dX9_later_27 rfl rfl rfl ?_
  refine aw_icmp_ge (tgt := 43) (pc' := 31) hC dX9_later_28 (by decide) rfl (fun c10 => ?_) (fun c10 => ?_)
  · replace h := it_n c10 h
    refine aw_sub hC [some (.inr (.inr v0)), some (.inl v1), none, none] ⟨rfl, ⟨rfl, trivial⟩⟩ (Nat.le_of_ble_eq_true rfl) ?_
    cases h
    exact hX _ rfl
  · replace h := it_p c10 h
    refine aw_aload_n (pc' := 32) (i := 0) hC dX9_later_31 rfl rfl rfl ?_
    refine aw_iconst (pc' := 33) hC dX9_later_32 rfl (by decide) ?_
    obtain ⟨g12, h⟩ := gd_s h
    obtain ⟨⟨x13, M14⟩, q11, h⟩ := pb_s h
    replace h := u2_s h
    refine aw_cV (pc' := 36) (k2 := 0) (n2 := 0) (st := []) (stN := [.inl x13]) hC [.inl 1] (mX9_dayGoes q11) lk_X9_517 g12 dX9_later_33 rfl rfl (Nat.le_of_ble_eq_true rfl) (Nat.le_of_ble_eq_true rfl) (Nat.le_of_ble_eq_true rfl) rfl (Nat.le_of_ble_eq_true rfl) rfl rfl rfl ?_
    refine aw_pop (pc' := 37) hC dX9_later_36 rfl rfl ?_
    refine aw_iinc (pc' := 40) (ls' := [some (.inr (.inr v0)), some (.inl v1), some (.inl v2), some (.inl (w32 (v3 + 1)))]) hC dX9_later_37 rfl rfl rfl rfl ?_
    refine aw_goto (tgt := 26) hC dX9_later_40 (by decide) ?_
    refine aw_sub hC [some (.inr (.inr v0)), some (.inl v1), some (.inl v2), some (.inl (w32 (v3 + 1)))] ⟨rfl, ⟨rfl, ⟨rfl, ⟨rfl, trivial⟩⟩⟩⟩ (Nat.le_of_ble_eq_true rfl) ?_
    cases h
    exact hL _ rfl
set_option maxRecDepth 100000 in
set_option maxHeartbeats 4000000 in
theorem mX9_later {sh : AwS} {M : AwM} {v0 : Int} {v1 : Int} {v2 : Int} {r : Int} {M' : AwM} (h : fX9_later sh M v0 v1 v2 = some (r, M')) : AMet yX9_later cX9_later 4 (some .int) 3 0 0 [.inr (.inr v0), .inl v1, .inl v2] sh M (some (.inl r)) sh M' := by
  refine amet_of (by decide +kernel) (Nat.le_of_ble_eq_true rfl) (fun Γ hC => ?_)
  replace hC : AOK Γ RX9 cX9_later 4 3 0 0 "later" (some .int) := hC
  unfold fX9_later at h
  refine aw_sub hC [some (.inr (.inr v0)), some (.inl v1), some (.inl v2), none] ⟨rfl, ⟨rfl, ⟨rfl, trivial⟩⟩⟩ (Nat.le_of_ble_eq_true rfl) ?_
  refine aw_aload_n (pc' := 1) (i := 0) hC dX9_later_0 rfl rfl rfl ?_
  refine aw_iload_n (pc' := 2) (i := 1) hC dX9_later_1 rfl rfl rfl ?_
  obtain ⟨g2, h⟩ := gd_s h
  obtain ⟨x3, q1, h⟩ := pb_s h
  replace h := u1_s h
  refine aw_cV (pc' := 5) (k2 := 0) (n2 := 0) (st := []) (stN := [.inl x3]) hC [.inl v1] (mX9_isCoin q1) lk_X9_477 g2 dX9_later_2 rfl rfl (Nat.le_of_ble_eq_true rfl) (Nat.le_of_ble_eq_true rfl) (Nat.le_of_ble_eq_true rfl) rfl (Nat.le_of_ble_eq_true rfl) rfl rfl rfl ?_
  refine aw_if_eq (tgt := 16) (pc' := 8) hC dX9_later_5 (by decide) rfl (fun c4 => ?_) (fun c4 => ?_)
  · replace h := it_p c4 h
    refine aw_iconst (pc' := 17) hC dX9_later_16 rfl (by decide) ?_
    cases h
    exact aw_iret hC dX9_later_17 (Nat.le_of_ble_eq_true rfl) (Nat.le_of_ble_eq_true rfl)
  · replace h := it_n c4 h
    refine aw_aload_n (pc' := 9) (i := 0) hC dX9_later_8 rfl rfl rfl ?_
    refine aw_iload_n (pc' := 10) (i := 2) hC dX9_later_9 rfl rfl rfl ?_
    obtain ⟨x6, q5, h⟩ := pb_s h
    replace h := u1_s h
    refine aw_cV (pc' := 13) (k2 := 0) (n2 := 0) (st := []) (stN := [.inl x6]) hC [.inl v2] (mX9_isAhead q5) lk_X9_541 g2 dX9_later_10 rfl rfl (Nat.le_of_ble_eq_true rfl) (Nat.le_of_ble_eq_true rfl) (Nat.le_of_ble_eq_true rfl) rfl (Nat.le_of_ble_eq_true rfl) rfl rfl rfl ?_
    refine aw_if_ne (tgt := 18) (pc' := 16) hC dX9_later_13 (by decide) rfl (fun c7 => ?_) (fun c7 => ?_)
    · replace h := it_n c7 h
      refine aw_aload_n (pc' := 19) (i := 0) hC dX9_later_18 rfl rfl rfl ?_
      refine aw_iconst (pc' := 20) hC dX9_later_19 rfl (by decide) ?_
      refine aw_iconst (pc' := 21) hC dX9_later_20 rfl (by decide) ?_
      obtain ⟨M9, q8, h⟩ := pb_s h
      replace h := u1_s h
      refine aw_cV (pc' := 24) (k2 := 0) (n2 := 0) (st := []) (stN := []) hC [.inl 1, .inl 0] (mX9_copies q8) lk_X9_416 g2 dX9_later_21 rfl rfl (Nat.le_of_ble_eq_true rfl) (Nat.le_of_ble_eq_true rfl) (Nat.le_of_ble_eq_true rfl) rfl (Nat.le_of_ble_eq_true rfl) rfl rfl rfl ?_
      refine aw_iconst (pc' := 25) hC dX9_later_24 rfl (by decide) ?_
      refine aw_istore_n (pc' := 26) (i := 3) (ls' := [some (.inr (.inr v0)), some (.inl v1), some (.inl v2), some (.inl 0)]) hC dX9_later_25 rfl rfl (Nat.le_of_ble_eq_true rfl) rfl rfl ?_
      obtain ⟨tq15, q15, h⟩ := pb_s h
      refine aw_sub hC [some (.inr (.inr v0)), some (.inl v1), some (.inl v2), some (.inl 0)] ⟨rfl, ⟨rfl, ⟨rfl, ⟨rfl, trivial⟩⟩⟩⟩ (Nat.le_of_ble_eq_true rfl) ?_
      refine (lp_aw (p_X9_later_L26 Γ sh v0 v1 v2 (fin_ Γ 0 0 (some (.inl r)) sh M')) (x_X9_later_L26 Γ sh v0 v1 v2 (fin_ Γ 0 0 (some (.inl r)) sh M')) (w_X9_later_L26 hC ) FU _ _ q15 ?_ : p_X9_later_L26 Γ sh v0 v1 v2 (fin_ Γ 0 0 (some (.inl r)) sh M') (0, M9))
      replace h := u1_s h
      show AW Γ sh tq15 0 0 43 [some (.inr (.inr v0)), some (.inl v1), none, none] [] _
      refine aw_aload_n (pc' := 44) (i := 0) hC dX9_later_43 rfl rfl rfl ?_
      refine aw_getfield (pc' := 47) (v := (.inr (.inr (tq15 v0 50)))) hC dX9_later_44 rfl fl_X9_165 g2 rfl ?_
      refine aw_bipush (pc' := 49) hC dX9_later_47 rfl (by decide) ?_
      refine aw_iload_n (pc' := 50) (i := 1) hC dX9_later_49 rfl rfl rfl ?_
      refine aw_iadd (pc' := 51) hC dX9_later_50 rfl  ?_
      obtain ⟨g16, h⟩ := gd_s h
      refine aw_iaload (pc' := 52) hC dX9_later_51 rfl g16 ?_
      cases h
      exact aw_iret hC dX9_later_52 (Nat.le_of_ble_eq_true rfl) (Nat.le_of_ble_eq_true rfl)
    · replace h := it_p c7 h
      refine aw_iconst (pc' := 17) hC dX9_later_16 rfl (by decide) ?_
      cases h
      exact aw_iret hC dX9_later_17 (Nat.le_of_ble_eq_true rfl) (Nat.le_of_ble_eq_true rfl)
-- CoinCircleModel.useless(I)I
def fX9_useless_L29 (sh : AwS) (M : AwM) (v0 : Int) (v1 : Int) (v2 : Int) (v3 : Int) : Option ((Int) ⊕ ((Unit) ⊕ (Int))) :=
  gd_ (kd_ sh v0 = (0, 9)) (gd_ ((kd_ sh (M v0 14)).1 = 1 ∧ (0 : Int) ≤ (M v0 13) ∧ (M v0 13) < ((kd_ sh (M v0 14)).2 : Int)) ((if v3 < (M (M v0 14) (M v0 13)) then pb (fX9_isUseless sh M v0 1 v3) <| u1 fun (x15 : Int) => ((if x15 = 0 then some (.inl (w32 (v3 + 1))) else some (.inr (.inr v3)))) else some (.inr (.inl ())))))
def p_X9_useless_L29 (Γ : AwC) (sh : AwS) (M : AwM) (v0 : Int) (v1 : Int) (v2 : Int) (Q : State → Prop) (s : Int) : Prop := AW Γ sh M 0 0 29 [some (.inr (.inr v0)), some (.inl v1), some (.inl v2), some (.inl (s))] [] Q
def x_X9_useless_L29 (Γ : AwC) (sh : AwS) (M : AwM) (v0 : Int) (v1 : Int) (v2 : Int) (Q : State → Prop) : ((Unit) ⊕ (Int)) → Prop := (Sum.elim (fun (t : Unit) => AW Γ sh M 0 0 72 [some (.inr (.inr v0)), some (.inl v1), some (.inl v2), none] [] Q) (fun (t : Int) => AW Γ sh M 0 0 51 [some (.inr (.inr v0)), some (.inl v1), none, some (.inl (t))] [] Q))
def fX9_useless_L19 (sh : AwS) (v0 : Int) (v1 : Int) (v2 : Int) (M : AwM) : Option ((Int × AwM) ⊕ ((AwM) ⊕ (Int × AwM))) :=
  gd_ (kd_ sh v0 = (0, 9)) (pb (fX9_isAhead sh M v0 v2) <| u1 fun (x9 : Int) => ((if x9 = 0 then some (.inr (.inl M)) else pb (lp (u1 (fX9_useless_L29 sh M v0 v1 v2)) FU 0) (Sum.elim (u0 (pb (fX9_dayGoes sh M v0 1) <| u2 fun (x19 : Int) (M20 : AwM) => (some (.inl ((w32 (v2 + 1)), M20))))) (u1 (fun (tq17 : Int) => some (.inr (.inr (tq17, M)))))))))
def p_X9_useless_L19 (Γ : AwC) (sh : AwS) (v0 : Int) (v1 : Int) (Q : State → Prop) (s : Int × AwM) : Prop := AW Γ sh (s.2) 0 0 19 [some (.inr (.inr v0)), some (.inl v1), some (.inl (s.1)), none] [] Q
def x_X9_useless_L19 (Γ : AwC) (sh : AwS) (v0 : Int) (v1 : Int) (Q : State → Prop) : ((AwM) ⊕ (Int × AwM)) → Prop := (Sum.elim (fun (t : AwM) => AW Γ sh (t) 0 0 84 [none, none, none, none] [] Q) (fun (t : Int × AwM) => AW Γ sh (t.2) 0 0 51 [some (.inr (.inr v0)), some (.inl v1), none, some (.inl (t.1))] [] Q))
def fX9_useless (sh : AwS) (M : AwM) (v0 : Int) (v1 : Int) : Option (Int × AwM) :=
  pb (fX9_is sh M v1 0 1) <| u1 fun (x2 : Int) => ((if x2 = 0 then some ((-1), M) else gd_ (kd_ sh v0 = (0, 9)) (pb (fX9_copies sh M v0 1 0) <| u1 fun (M6 : AwM) => (pb (lp (u2 (fX9_useless_L19 sh v0 v1)) FU (0, M6)) (Sum.elim (u1 (fun (tq21 : AwM) => some ((-1), tq21))) (u2 (fun (x22 : Int) (M23 : AwM) => (if v1 = 0 then gd_ ((kd_ sh (M23 v0 48)).1 = 1 ∧ (0 : Int) ≤ 1 ∧ 1 < ((kd_ sh (M23 v0 48)).2 : Int)) (some ((M23 (M23 v0 48) 1), M23)) else some (x22, M23)))))))))
set_option maxRecDepth 100000 in
set_option maxHeartbeats 4000000 in
theorem w_X9_useless_L29 {Γ : AwC} (hC : AOK Γ RX9 cX9_useless 4 3 0 0 "useless" (some .int)) {sh : AwS} {M : AwM} {v0 : Int} {v1 : Int} {v2 : Int} {Q : State → Prop} : ∀ s r, u1 (fX9_useless_L29 sh M v0 v1 v2) s = some r → (∀ s', r = .inl s' → p_X9_useless_L29 Γ sh M v0 v1 v2 Q s') → (∀ t, r = .inr t → x_X9_useless_L29 Γ sh M v0 v1 v2 Q t) → p_X9_useless_L29 Γ sh M v0 v1 v2 Q s := by
  intro v3 r h hL hX
  replace h := u1_s h
  unfold fX9_useless_L29 at h
  show AW Γ sh M 0 0 29 [some (.inr (.inr v0)), some (.inl v1), some (.inl v2), some (.inl v3)] [] Q
  refine aw_iload_n (pc' := 30) (i := 3) hC dX9_useless_29 rfl rfl rfl ?_
  refine aw_aload_n (pc' := 31) (i := 0) hC dX9_useless_30 rfl rfl rfl ?_
  obtain ⟨g11, h⟩ := gd_s h
  refine aw_getfield (pc' := 34) (v := (.inr (.inr (M v0 14)))) hC dX9_useless_31 rfl fl_X9_54 g11 rfl ?_
  refine aw_aload_n (pc' := 35) (i := 0) hC dX9_useless_34 rfl rfl rfl ?_
  refine aw_getfield (pc' := 38) (v := (.inl (M v0 13))) hC dX9_useless_35 rfl fl_X9_51 g11 rfl ?_
  obtain ⟨g12, h⟩ := gd_s h
  refine aw_iaload (pc' := 39) hC dX9_useless_38 rfl g12 ?_
  refine aw_icmp_ge (tgt := 72) (pc' := 42) hC dX9_useless_39 (by decide) rfl (fun c13 => ?_) (fun c13 => ?_)
  · replace h := it_n c13 h
    refine aw_sub hC [some (.inr (.inr v0)), some (.inl v1), some (.inl v2), none] ⟨rfl, ⟨rfl, ⟨rfl, trivial⟩⟩⟩ (Nat.le_of_ble_eq_true rfl) ?_
    cases h
    exact hX _ rfl
  · replace h := it_p c13 h
    refine aw_aload_n (pc' := 43) (i := 0) hC dX9_useless_42 rfl rfl rfl ?_
    refine aw_iconst (pc' := 44) hC dX9_useless_43 rfl (by decide) ?_
    refine aw_iload_n (pc' := 45) (i := 3) hC dX9_useless_44 rfl rfl rfl ?_
    obtain ⟨x15, q14, h⟩ := pb_s h
    replace h := u1_s h
    refine aw_cV (pc' := 48) (k2 := 0) (n2 := 0) (st := []) (stN := [.inl x15]) hC [.inl 1, .inl v3] (mX9_isUseless q14) lk_X9_466 g11 dX9_useless_45 rfl rfl (Nat.le_of_ble_eq_true rfl) (Nat.le_of_ble_eq_true rfl) (Nat.le_of_ble_eq_true rfl) rfl (Nat.le_of_ble_eq_true rfl) rfl rfl rfl ?_
    refine aw_if_eq (tgt := 66) (pc' := 51) hC dX9_useless_48 (by decide) rfl (fun c16 => ?_) (fun c16 => ?_)
    · replace h := it_p c16 h
      refine aw_iinc (pc' := 69) (ls' := [some (.inr (.inr v0)), some (.inl v1), some (.inl v2), some (.inl (w32 (v3 + 1)))]) hC dX9_useless_66 rfl rfl rfl rfl ?_
      refine aw_goto (tgt := 29) hC dX9_useless_69 (by decide) ?_
      refine aw_sub hC [some (.inr (.inr v0)), some (.inl v1), some (.inl v2), some (.inl (w32 (v3 + 1)))] ⟨rfl, ⟨rfl, ⟨rfl, ⟨rfl, trivial⟩⟩⟩⟩ (Nat.le_of_ble_eq_true rfl) ?_
      cases h
      exact hL _ rfl
    · replace h := it_n c16 h
      refine aw_sub hC [some (.inr (.inr v0)), some (.inl v1), none, some (.inl v3)] ⟨rfl, ⟨rfl, ⟨rfl, trivial⟩⟩⟩ (Nat.le_of_ble_eq_true rfl) ?_
      cases h
      exact hX _ rfl
set_option maxRecDepth 100000 in
set_option maxHeartbeats 4000000 in
theorem w_X9_useless_L19 {Γ : AwC} (hC : AOK Γ RX9 cX9_useless 4 3 0 0 "useless" (some .int)) {sh : AwS} {v0 : Int} {v1 : Int} {Q : State → Prop} : ∀ s r, u2 (fX9_useless_L19 sh v0 v1) s = some r → (∀ s', r = .inl s' → p_X9_useless_L19 Γ sh v0 v1 Q s') → (∀ t, r = .inr t → x_X9_useless_L19 Γ sh v0 v1 Q t) → p_X9_useless_L19 Γ sh v0 v1 Q s := by
  intro s r h hL hX
  obtain ⟨v2, M⟩ := s
  replace h := u2_s h
  unfold fX9_useless_L19 at h
  show AW Γ sh M 0 0 19 [some (.inr (.inr v0)), some (.inl v1), some (.inl v2), none] [] Q
  refine aw_aload_n (pc' := 20) (i := 0) hC dX9_useless_19 rfl rfl rfl ?_
  refine aw_iload_n (pc' := 21) (i := 2) hC dX9_useless_20 rfl rfl rfl ?_
  obtain ⟨g8, h⟩ := gd_s h
  obtain ⟨x9, q7, h⟩ := pb_s h
  replace h := u1_s h
  refine aw_cV (pc' := 24) (k2 := 0) (n2 := 0) (st := []) (stN := [.inl x9]) hC [.inl v2] (mX9_isAhead q7) lk_X9_541 g8 dX9_useless_21 rfl rfl (Nat.le_of_ble_eq_true rfl) (Nat.le_of_ble_eq_true rfl) (Nat.le_of_ble_eq_true rfl) rfl (Nat.le_of_ble_eq_true rfl) rfl rfl rfl ?_
  refine aw_if_eq (tgt := 84) (pc' := 27) hC dX9_useless_24 (by decide) rfl (fun c10 => ?_) (fun c10 => ?_)
  · replace h := it_p c10 h
    refine aw_sub hC [none, none, none, none] trivial (Nat.le_of_ble_eq_true rfl) ?_
    cases h
    exact hX _ rfl
  · replace h := it_n c10 h
    refine aw_iconst (pc' := 28) hC dX9_useless_27 rfl (by decide) ?_
    refine aw_istore_n (pc' := 29) (i := 3) (ls' := [some (.inr (.inr v0)), some (.inl v1), some (.inl v2), some (.inl 0)]) hC dX9_useless_28 rfl rfl (Nat.le_of_ble_eq_true rfl) rfl rfl ?_
    obtain ⟨tq17, q17, h⟩ := pb_s h
    refine aw_sub hC [some (.inr (.inr v0)), some (.inl v1), some (.inl v2), some (.inl 0)] ⟨rfl, ⟨rfl, ⟨rfl, ⟨rfl, trivial⟩⟩⟩⟩ (Nat.le_of_ble_eq_true rfl) ?_
    refine (lp_aw (p_X9_useless_L29 Γ sh M v0 v1 v2 Q) (x_X9_useless_L29 Γ sh M v0 v1 v2 Q) (w_X9_useless_L29 hC ) FU _ _ q17 ?_ : p_X9_useless_L29 Γ sh M v0 v1 v2 Q 0)
    rcases tq17 with tq17 | tq17
    · replace h := se_l h
      cases tq17
      replace h := u0_s h
      show AW Γ sh M 0 0 72 [some (.inr (.inr v0)), some (.inl v1), some (.inl v2), none] [] _
      refine aw_aload_n (pc' := 73) (i := 0) hC dX9_useless_72 rfl rfl rfl ?_
      refine aw_iconst (pc' := 74) hC dX9_useless_73 rfl (by decide) ?_
      obtain ⟨⟨x19, M20⟩, q18, h⟩ := pb_s h
      replace h := u2_s h
      refine aw_cV (pc' := 77) (k2 := 0) (n2 := 0) (st := []) (stN := [.inl x19]) hC [.inl 1] (mX9_dayGoes q18) lk_X9_517 g8 dX9_useless_74 rfl rfl (Nat.le_of_ble_eq_true rfl) (Nat.le_of_ble_eq_true rfl) (Nat.le_of_ble_eq_true rfl) rfl (Nat.le_of_ble_eq_true rfl) rfl rfl rfl ?_
      refine aw_pop (pc' := 78) hC dX9_useless_77 rfl rfl ?_
      refine aw_iinc (pc' := 81) (ls' := [some (.inr (.inr v0)), some (.inl v1), some (.inl (w32 (v2 + 1))), none]) hC dX9_useless_78 rfl rfl rfl rfl ?_
      refine aw_goto (tgt := 19) hC dX9_useless_81 (by decide) ?_
      refine aw_sub hC [some (.inr (.inr v0)), some (.inl v1), some (.inl (w32 (v2 + 1))), none] ⟨rfl, ⟨rfl, ⟨rfl, trivial⟩⟩⟩ (Nat.le_of_ble_eq_true rfl) ?_
      cases h
      exact hL _ rfl
    · replace h := se_r h
      replace h := u1_s h
      show AW Γ sh M 0 0 51 [some (.inr (.inr v0)), some (.inl v1), none, some (.inl tq17)] [] _
      refine aw_sub hC [some (.inr (.inr v0)), some (.inl v1), none, some (.inl tq17)] ⟨rfl, ⟨rfl, ⟨rfl, trivial⟩⟩⟩ (Nat.le_of_ble_eq_true rfl) ?_
      cases h
      exact hX _ rfl
set_option maxRecDepth 100000 in
set_option maxHeartbeats 4000000 in
theorem mX9_useless {sh : AwS} {M : AwM} {v0 : Int} {v1 : Int} {r : Int} {M' : AwM} (h : fX9_useless sh M v0 v1 = some (r, M')) : AMet yX9_useless cX9_useless 4 (some .int) 3 0 0 [.inr (.inr v0), .inl v1] sh M (some (.inl r)) sh M' := by
  refine amet_of (by decide +kernel) (Nat.le_of_ble_eq_true rfl) (fun Γ hC => ?_)
  replace hC : AOK Γ RX9 cX9_useless 4 3 0 0 "useless" (some .int) := hC
  unfold fX9_useless at h
  refine aw_sub hC [some (.inr (.inr v0)), some (.inl v1), none, none] ⟨rfl, ⟨rfl, trivial⟩⟩ (Nat.le_of_ble_eq_true rfl) ?_
  refine aw_iload_n (pc' := 1) (i := 1) hC dX9_useless_0 rfl rfl rfl ?_
  refine aw_iconst (pc' := 2) hC dX9_useless_1 rfl (by decide) ?_
  refine aw_iconst (pc' := 3) hC dX9_useless_2 rfl (by decide) ?_
  obtain ⟨x2, q1, h⟩ := pb_s h
  replace h := u1_s h
  refine aw_cS (pc' := 6) (k2 := 0) (n2 := 0) (st := []) (stN := [.inl x2]) hC [.inl v1, .inl 0, .inl 1] (mX9_is q1) lk_X9_314 dX9_useless_3 rfl rfl (Nat.le_of_ble_eq_true rfl) (Nat.le_of_ble_eq_true rfl) (Nat.le_of_ble_eq_true rfl) rfl (Nat.le_of_ble_eq_true rfl) rfl rfl rfl ?_
  refine aw_if_ne (tgt := 11) (pc' := 9) hC dX9_useless_6 (by decide) rfl (fun c3 => ?_) (fun c3 => ?_)
  · replace h := it_n c3 h
    refine aw_aload_n (pc' := 12) (i := 0) hC dX9_useless_11 rfl rfl rfl ?_
    refine aw_iconst (pc' := 13) hC dX9_useless_12 rfl (by decide) ?_
    refine aw_iconst (pc' := 14) hC dX9_useless_13 rfl (by decide) ?_
    obtain ⟨g5, h⟩ := gd_s h
    obtain ⟨M6, q4, h⟩ := pb_s h
    replace h := u1_s h
    refine aw_cV (pc' := 17) (k2 := 0) (n2 := 0) (st := []) (stN := []) hC [.inl 1, .inl 0] (mX9_copies q4) lk_X9_416 g5 dX9_useless_14 rfl rfl (Nat.le_of_ble_eq_true rfl) (Nat.le_of_ble_eq_true rfl) (Nat.le_of_ble_eq_true rfl) rfl (Nat.le_of_ble_eq_true rfl) rfl rfl rfl ?_
    refine aw_iconst (pc' := 18) hC dX9_useless_17 rfl (by decide) ?_
    refine aw_istore_n (pc' := 19) (i := 2) (ls' := [some (.inr (.inr v0)), some (.inl v1), some (.inl 0), none]) hC dX9_useless_18 rfl rfl (Nat.le_of_ble_eq_true rfl) rfl rfl ?_
    obtain ⟨tq21, q21, h⟩ := pb_s h
    refine aw_sub hC [some (.inr (.inr v0)), some (.inl v1), some (.inl 0), none] ⟨rfl, ⟨rfl, ⟨rfl, trivial⟩⟩⟩ (Nat.le_of_ble_eq_true rfl) ?_
    refine (lp_aw (p_X9_useless_L19 Γ sh v0 v1 (fin_ Γ 0 0 (some (.inl r)) sh M')) (x_X9_useless_L19 Γ sh v0 v1 (fin_ Γ 0 0 (some (.inl r)) sh M')) (w_X9_useless_L19 hC ) FU _ _ q21 ?_ : p_X9_useless_L19 Γ sh v0 v1 (fin_ Γ 0 0 (some (.inl r)) sh M') (0, M6))
    rcases tq21 with tq21 | tq21
    · replace h := se_l h
      replace h := u1_s h
      show AW Γ sh tq21 0 0 84 [none, none, none, none] [] _
      refine aw_iconst (pc' := 85) hC dX9_useless_84 rfl (by decide) ?_
      cases h
      exact aw_iret hC dX9_useless_85 (Nat.le_of_ble_eq_true rfl) (Nat.le_of_ble_eq_true rfl)
    · replace h := se_r h
      obtain ⟨x22, M23⟩ := tq21
      replace h := u2_s h
      show AW Γ sh M23 0 0 51 [some (.inr (.inr v0)), some (.inl v1), none, some (.inl x22)] [] _
      refine aw_iload_n (pc' := 52) (i := 1) hC dX9_useless_51 rfl rfl rfl ?_
      refine aw_if_ne (tgt := 64) (pc' := 55) hC dX9_useless_52 (by decide) rfl (fun c24 => ?_) (fun c24 => ?_)
      · replace h := it_n c24 h
        refine aw_iload_n (pc' := 65) (i := 3) hC dX9_useless_64 rfl rfl rfl ?_
        cases h
        exact aw_iret hC dX9_useless_65 (Nat.le_of_ble_eq_true rfl) (Nat.le_of_ble_eq_true rfl)
      · replace h := it_p c24 h
        refine aw_aload_n (pc' := 56) (i := 0) hC dX9_useless_55 rfl rfl rfl ?_
        refine aw_getfield (pc' := 59) (v := (.inr (.inr (M23 v0 48)))) hC dX9_useless_56 rfl fl_X9_159 g5 rfl ?_
        refine aw_iconst (pc' := 60) hC dX9_useless_59 rfl (by decide) ?_
        obtain ⟨g25, h⟩ := gd_s h
        refine aw_iaload (pc' := 61) hC dX9_useless_60 rfl g25 ?_
        refine aw_goto (tgt := 65) hC dX9_useless_61 (by decide) ?_
        cases h
        exact aw_iret hC dX9_useless_65 (Nat.le_of_ble_eq_true rfl) (Nat.le_of_ble_eq_true rfl)
  · replace h := it_p c3 h
    refine aw_iconst (pc' := 10) hC dX9_useless_9 rfl (by decide) ?_
    cases h
    exact aw_iret hC dX9_useless_10 (Nat.le_of_ble_eq_true rfl) (Nat.le_of_ble_eq_true rfl)
-- CoinCircleModel.writes(I)V
def fX9_writes (sh : AwS) (M : AwM) (v0 : Int) (v1 : Int) : Option (AwM) :=
  gd_ (kd_ sh v0 = (0, 9)) (gd_ ((kd_ sh (M v0 69)).1 = 1 ∧ (0 : Int) ≤ (M v0 70) ∧ (M v0 70) < ((kd_ sh (M v0 69)).2 : Int)) (bd_ (up_ M (M v0 69) (M v0 70) (an_ v1 255)) fun (M3 : AwM) => (bd_ (up_ M3 v0 70 (w32 ((M3 v0 70) + 1))) fun (M5 : AwM) => (some M5))))
set_option maxRecDepth 100000 in
set_option maxHeartbeats 4000000 in
theorem mX9_writes {sh : AwS} {M : AwM} {v0 : Int} {v1 : Int} {M' : AwM} (h : fX9_writes sh M v0 v1 = some M') : AMet yX9_writes cX9_writes 2 none 1 0 0 [.inr (.inr v0), .inl v1] sh M none sh M' := by
  refine amet_of (by decide +kernel) (Nat.le_of_ble_eq_true rfl) (fun Γ hC => ?_)
  replace hC : AOK Γ RX9 cX9_writes 2 1 0 0 "writes" none := hC
  unfold fX9_writes at h
  refine aw_sub hC [some (.inr (.inr v0)), some (.inl v1)] ⟨rfl, ⟨rfl, trivial⟩⟩ (Nat.le_of_ble_eq_true rfl) ?_
  refine aw_aload_n (pc' := 1) (i := 0) hC dX9_writes_0 rfl rfl rfl ?_
  obtain ⟨g1, h⟩ := gd_s h
  refine aw_getfield (pc' := 4) (v := (.inr (.inr (M v0 69)))) hC dX9_writes_1 rfl fl_X9_222 g1 rfl ?_
  refine aw_aload_n (pc' := 5) (i := 0) hC dX9_writes_4 rfl rfl rfl ?_
  refine aw_getfield (pc' := 8) (v := (.inl (M v0 70))) hC dX9_writes_5 rfl fl_X9_225 g1 rfl ?_
  refine aw_iload_n (pc' := 9) (i := 1) hC dX9_writes_8 rfl rfl rfl ?_
  refine aw_sipush (pc' := 12) hC dX9_writes_9 rfl (by decide) ?_
  refine aw_iand (pc' := 13) hC dX9_writes_12 rfl  ?_
  obtain ⟨g2, h⟩ := gd_s h
  obtain ⟨M3, e4, h⟩ := bd_s h
  refine aw_ias (pc' := 14) hC dX9_writes_13 rfl g2 e4 ?_
  refine aw_aload_n (pc' := 15) (i := 0) hC dX9_writes_14 rfl rfl rfl ?_
  refine aw_dup (pc' := 16) hC dX9_writes_15 rfl rfl ?_
  refine aw_getfield (pc' := 19) (v := (.inl (M3 v0 70))) hC dX9_writes_16 rfl fl_X9_225 g1 rfl ?_
  refine aw_iconst (pc' := 20) hC dX9_writes_19 rfl (by decide) ?_
  refine aw_iadd (pc' := 21) hC dX9_writes_20 rfl  ?_
  obtain ⟨M5, e6, h⟩ := bd_s h
  refine aw_pf (pc' := 24) hC dX9_writes_21 rfl fp_X9_225 g1 rfl trivial e6 ?_
  cases h
  exact aw_vret hC dX9_writes_24 (Nat.le_of_ble_eq_true rfl) (Nat.le_of_ble_eq_true rfl)
-- CoinCircleModel.toldOf(II)I
def fX9_toldOf (sh : AwS) (M : AwM) (v0 : Int) (v1 : Int) (v2 : Int) : Option Int :=
  gd_ (kd_ sh v0 = (0, 9)) (gd_ ((kd_ sh (M v0 51)).1 = 1 ∧ (0 : Int) ≤ v1 ∧ v1 < ((kd_ sh (M v0 51)).2 : Int)) (pb (fX9_has2 sh M (M (M v0 51) v1) v2) <| u1 fun (x4 : Int) => ((if x4 = 0 then gd_ ((kd_ sh (M v0 50)).1 = 1 ∧ (0 : Int) ≤ v1 ∧ v1 < ((kd_ sh (M v0 50)).2 : Int)) (pb (fX9_has2 sh M (M (M v0 50) v1) v2) <| u1 fun (x8 : Int) => ((if x8 = 0 then some 0 else gd_ ((kd_ sh (M v0 48)).1 = 1 ∧ (0 : Int) ≤ 0 ∧ 0 < ((kd_ sh (M v0 48)).2 : Int)) (gd_ ((kd_ sh (M v0 52)).1 = 1 ∧ (0 : Int) ≤ (w32 ((w32 (10 * v1)) + v2)) ∧ (w32 ((w32 (10 * v1)) + v2)) < ((kd_ sh (M v0 52)).2 : Int)) (bd_ ((w32 ((M (M v0 48) 0) - (M (M v0 52) (w32 ((w32 (10 * v1)) + v2)))))) fun (x12 : Int) => ((if 200 < x12 then some (w32 (2 + 200)) else some (w32 (2 + x12))))))))) else some 1))))
set_option maxRecDepth 100000 in
set_option maxHeartbeats 4000000 in
theorem mX9_toldOf {sh : AwS} {M : AwM} {v0 : Int} {v1 : Int} {v2 : Int} {r : Int} (h : fX9_toldOf sh M v0 v1 v2 = some r) : AMet yX9_toldOf cX9_toldOf 4 (some .int) 2 0 0 [.inr (.inr v0), .inl v1, .inl v2] sh M (some (.inl r)) sh M := by
  refine amet_of (by decide +kernel) (Nat.le_of_ble_eq_true rfl) (fun Γ hC => ?_)
  replace hC : AOK Γ RX9 cX9_toldOf 4 2 0 0 "toldOf" (some .int) := hC
  unfold fX9_toldOf at h
  refine aw_sub hC [some (.inr (.inr v0)), some (.inl v1), some (.inl v2), none] ⟨rfl, ⟨rfl, ⟨rfl, trivial⟩⟩⟩ (Nat.le_of_ble_eq_true rfl) ?_
  refine aw_aload_n (pc' := 1) (i := 0) hC dX9_toldOf_0 rfl rfl rfl ?_
  obtain ⟨g1, h⟩ := gd_s h
  refine aw_getfield (pc' := 4) (v := (.inr (.inr (M v0 51)))) hC dX9_toldOf_1 rfl fl_X9_168 g1 rfl ?_
  refine aw_iload_n (pc' := 5) (i := 1) hC dX9_toldOf_4 rfl rfl rfl ?_
  obtain ⟨g2, h⟩ := gd_s h
  refine aw_iaload (pc' := 6) hC dX9_toldOf_5 rfl g2 ?_
  refine aw_iload_n (pc' := 7) (i := 2) hC dX9_toldOf_6 rfl rfl rfl ?_
  obtain ⟨x4, q3, h⟩ := pb_s h
  replace h := u1_s h
  refine aw_cS (pc' := 10) (k2 := 0) (n2 := 0) (st := []) (stN := [.inl x4]) hC [.inl (M (M v0 51) v1), .inl v2] (mX9_has2 q3) lk_X9_373 dX9_toldOf_7 rfl rfl (Nat.le_of_ble_eq_true rfl) (Nat.le_of_ble_eq_true rfl) (Nat.le_of_ble_eq_true rfl) rfl (Nat.le_of_ble_eq_true rfl) rfl rfl rfl ?_
  refine aw_if_eq (tgt := 15) (pc' := 13) hC dX9_toldOf_10 (by decide) rfl (fun c5 => ?_) (fun c5 => ?_)
  · replace h := it_p c5 h
    refine aw_aload_n (pc' := 16) (i := 0) hC dX9_toldOf_15 rfl rfl rfl ?_
    refine aw_getfield (pc' := 19) (v := (.inr (.inr (M v0 50)))) hC dX9_toldOf_16 rfl fl_X9_165 g1 rfl ?_
    refine aw_iload_n (pc' := 20) (i := 1) hC dX9_toldOf_19 rfl rfl rfl ?_
    obtain ⟨g6, h⟩ := gd_s h
    refine aw_iaload (pc' := 21) hC dX9_toldOf_20 rfl g6 ?_
    refine aw_iload_n (pc' := 22) (i := 2) hC dX9_toldOf_21 rfl rfl rfl ?_
    obtain ⟨x8, q7, h⟩ := pb_s h
    replace h := u1_s h
    refine aw_cS (pc' := 25) (k2 := 0) (n2 := 0) (st := []) (stN := [.inl x8]) hC [.inl (M (M v0 50) v1), .inl v2] (mX9_has2 q7) lk_X9_373 dX9_toldOf_22 rfl rfl (Nat.le_of_ble_eq_true rfl) (Nat.le_of_ble_eq_true rfl) (Nat.le_of_ble_eq_true rfl) rfl (Nat.le_of_ble_eq_true rfl) rfl rfl rfl ?_
    refine aw_if_ne (tgt := 30) (pc' := 28) hC dX9_toldOf_25 (by decide) rfl (fun c9 => ?_) (fun c9 => ?_)
    · replace h := it_n c9 h
      refine aw_aload_n (pc' := 31) (i := 0) hC dX9_toldOf_30 rfl rfl rfl ?_
      refine aw_getfield (pc' := 34) (v := (.inr (.inr (M v0 48)))) hC dX9_toldOf_31 rfl fl_X9_159 g1 rfl ?_
      refine aw_iconst (pc' := 35) hC dX9_toldOf_34 rfl (by decide) ?_
      obtain ⟨g10, h⟩ := gd_s h
      refine aw_iaload (pc' := 36) hC dX9_toldOf_35 rfl g10 ?_
      refine aw_aload_n (pc' := 37) (i := 0) hC dX9_toldOf_36 rfl rfl rfl ?_
      refine aw_getfield (pc' := 40) (v := (.inr (.inr (M v0 52)))) hC dX9_toldOf_37 rfl fl_X9_171 g1 rfl ?_
      refine aw_bipush (pc' := 42) hC dX9_toldOf_40 rfl (by decide) ?_
      refine aw_iload_n (pc' := 43) (i := 1) hC dX9_toldOf_42 rfl rfl rfl ?_
      refine aw_imul (pc' := 44) hC dX9_toldOf_43 rfl  ?_
      refine aw_iload_n (pc' := 45) (i := 2) hC dX9_toldOf_44 rfl rfl rfl ?_
      refine aw_iadd (pc' := 46) hC dX9_toldOf_45 rfl  ?_
      obtain ⟨g11, h⟩ := gd_s h
      refine aw_iaload (pc' := 47) hC dX9_toldOf_46 rfl g11 ?_
      refine aw_isub (pc' := 48) hC dX9_toldOf_47 rfl  ?_
      obtain ⟨x12, e13, h⟩ := bd_s h
      refine aw_reni e13 ?_
      refine aw_istore_n (pc' := 49) (i := 3) (ls' := [some (.inr (.inr v0)), some (.inl v1), some (.inl v2), some (.inl x12)]) hC dX9_toldOf_48 rfl rfl (Nat.le_of_ble_eq_true rfl) rfl rfl ?_
      refine aw_iconst (pc' := 50) hC dX9_toldOf_49 rfl (by decide) ?_
      refine aw_iload_n (pc' := 51) (i := 3) hC dX9_toldOf_50 rfl rfl rfl ?_
      refine aw_sipush (pc' := 54) hC dX9_toldOf_51 rfl (by decide) ?_
      refine aw_icmp_le (tgt := 63) (pc' := 57) hC dX9_toldOf_54 (by decide) rfl (fun c14 => ?_) (fun c14 => ?_)
      · replace h := it_n c14 h
        refine aw_iload_n (pc' := 64) (i := 3) hC dX9_toldOf_63 rfl rfl rfl ?_
        refine aw_iadd (pc' := 65) hC dX9_toldOf_64 rfl  ?_
        cases h
        exact aw_iret hC dX9_toldOf_65 (Nat.le_of_ble_eq_true rfl) (Nat.le_of_ble_eq_true rfl)
      · replace h := it_p c14 h
        refine aw_sipush (pc' := 60) hC dX9_toldOf_57 rfl (by decide) ?_
        refine aw_goto (tgt := 64) hC dX9_toldOf_60 (by decide) ?_
        refine aw_iadd (pc' := 65) hC dX9_toldOf_64 rfl  ?_
        cases h
        exact aw_iret hC dX9_toldOf_65 (Nat.le_of_ble_eq_true rfl) (Nat.le_of_ble_eq_true rfl)
    · replace h := it_p c9 h
      refine aw_iconst (pc' := 29) hC dX9_toldOf_28 rfl (by decide) ?_
      cases h
      exact aw_iret hC dX9_toldOf_29 (Nat.le_of_ble_eq_true rfl) (Nat.le_of_ble_eq_true rfl)
  · replace h := it_n c5 h
    refine aw_iconst (pc' := 14) hC dX9_toldOf_13 rfl (by decide) ?_
    cases h
    exact aw_iret hC dX9_toldOf_14 (Nat.le_of_ble_eq_true rfl) (Nat.le_of_ble_eq_true rfl)
