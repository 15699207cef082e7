-- CoinCircleModel.seed(I)Z
def fX9_seed (sh : AwS) (M : AwM) (v0 : Int) (v1 : Int) : Option (Int × AwM) :=
  (if v1 < 0 then gd_ (kd_ sh v0 = (0, 9)) (pb (fX9_refuses sh M v0 5) <| u2 fun (x7 : Int) (M8 : AwM) => ((if x7 < 0 then some (0, M8) else some (1, M8)))) else gd_ (kd_ sh v0 = (0, 9)) (bd_ (up_ M v0 55 v1) fun (M3 : AwM) => (some (1, M3))))
set_option maxRecDepth 100000 in
set_option maxHeartbeats 4000000 in
theorem mX9_seed {sh : AwS} {M : AwM} {v0 : Int} {v1 : Int} {r : Int} {M' : AwM} (h : fX9_seed sh M v0 v1 = some (r, M')) : AMet yX9_seed cX9_seed 2 (some .boolean) 2 0 0 [.inr (.inr v0), .inl v1] sh M (some (.inl r)) sh M' := by
  refine amet_of (by decide +kernel) (Nat.le_of_ble_eq_true rfl) (fun Γ hC => ?_)
  replace hC : AOK Γ RX9 cX9_seed 2 2 0 0 "seed" (some .boolean) := hC
  unfold fX9_seed at h
  refine aw_sub hC [some (.inr (.inr v0)), some (.inl v1)] ⟨rfl, ⟨rfl, trivial⟩⟩ (Nat.le_of_ble_eq_true rfl) ?_
  refine aw_iload_n (pc' := 1) (i := 1) hC dX9_seed_0 rfl rfl rfl ?_
  refine aw_if_ge (tgt := 18) (pc' := 4) hC dX9_seed_1 (by decide) rfl (fun c1 => ?_) (fun c1 => ?_)
  · replace h := it_n c1 h
    refine aw_aload_n (pc' := 19) (i := 0) hC dX9_seed_18 rfl rfl rfl ?_
    refine aw_iload_n (pc' := 20) (i := 1) hC dX9_seed_19 rfl rfl rfl ?_
    refine aw_i2l (pc' := 21) hC dX9_seed_20 rfl  ?_
    obtain ⟨g2, h⟩ := gd_s h
    obtain ⟨M3, e4, h⟩ := bd_s h
    refine aw_pf (pc' := 24) hC dX9_seed_21 rfl fp_X9_180 g2 rfl trivial e4 ?_
    refine aw_iconst (pc' := 25) hC dX9_seed_24 rfl (by decide) ?_
    cases h
    exact aw_zret hC (Or.inr rfl) dX9_seed_25 (Nat.le_of_ble_eq_true rfl) (Nat.le_of_ble_eq_true rfl)
  · replace h := it_p c1 h
    refine aw_aload_n (pc' := 5) (i := 0) hC dX9_seed_4 rfl rfl rfl ?_
    refine aw_iconst (pc' := 6) hC dX9_seed_5 rfl (by decide) ?_
    obtain ⟨g6, h⟩ := gd_s h
    obtain ⟨⟨x7, M8⟩, q5, h⟩ := pb_s h
    replace h := u2_s h
    refine aw_cV (pc' := 9) (k2 := 0) (n2 := 0) (st := []) (stN := [.inl x7]) hC [.inl 5] (mX9_refuses q5) lk_X9_228 g6 dX9_seed_6 rfl rfl (Nat.le_of_ble_eq_true rfl) (Nat.le_of_ble_eq_true rfl) (Nat.le_of_ble_eq_true rfl) rfl (Nat.le_of_ble_eq_true rfl) rfl rfl rfl ?_
    refine aw_if_lt (tgt := 16) (pc' := 12) hC dX9_seed_9 (by decide) rfl (fun c9 => ?_) (fun c9 => ?_)
    · replace h := it_p c9 h
      refine aw_iconst (pc' := 17) hC dX9_seed_16 rfl (by decide) ?_
      cases h
      exact aw_zret hC (Or.inl rfl) dX9_seed_17 (Nat.le_of_ble_eq_true rfl) (Nat.le_of_ble_eq_true rfl)
    · replace h := it_n c9 h
      refine aw_iconst (pc' := 13) hC dX9_seed_12 rfl (by decide) ?_
      refine aw_goto (tgt := 17) hC dX9_seed_13 (by decide) ?_
      cases h
      exact aw_zret hC (Or.inr rfl) dX9_seed_17 (Nat.le_of_ble_eq_true rfl) (Nat.le_of_ble_eq_true rfl)
-- CoinCircleModel.introduce(IIII)I
def fX9_introduce_J106_51 (sh : AwS) (M : AwM) (v0 : Int) (v1 : Int) (v2 : Int) (v3 : Int) (v4 : Int) (v5 : Int) (v7 : Int) (s0 : Int) : Option ((Int × Int × AwM) ⊕ (Int × AwM)) :=
  some (.inl ((or_ s0 0), (w32 (v7 + 1)), M))
def fX9_introduce_L51 (sh : AwS) (v0 : Int) (v1 : Int) (v2 : Int) (v3 : Int) (v4 : Int) (v5 : Int) (v6 : Int) (v7 : Int) (M : AwM) : Option ((Int × Int × AwM) ⊕ (Int × AwM)) :=
  gd_ (kd_ sh v0 = (0, 9)) (gd_ ((kd_ sh (M v0 16)).1 = 1 ∧ (0 : Int) ≤ (M v0 13) ∧ (M v0 13) < ((kd_ sh (M v0 16)).2 : Int)) ((if v7 < (M (M v0 16) (M v0 13)) then pb (fX9_has2 sh M v5 v7) <| u1 fun (x19 : Int) => ((if x19 = 0 then fX9_introduce_J106_51 sh M v0 v1 v2 v3 v4 v5 v7 v6 else pb (fX9_canPresent sh M v0 0 v7 v2) <| u1 fun (x22 : Int) => ((if x22 = 0 then fX9_introduce_J106_51 sh M v0 v1 v2 v3 v4 v5 v7 v6 else pb (fX9_wouldKnow sh M v0 0 v7 v2) <| u2 fun (x25 : Int) (M26 : AwM) => ((if x25 = 0 then fX9_introduce_J106_51 sh M26 v0 v1 v2 v3 v4 v5 v7 v6 else some (.inl ((or_ v6 (sl_ 1 v7)), (w32 (v7 + 1)), M26)))))))) else some (.inr (v6, M)))))
def p_X9_introduce_L51 (Γ : AwC) (sh : AwS) (v0 : Int) (v1 : Int) (v2 : Int) (v3 : Int) (v4 : Int) (v5 : Int) (Q : State → Prop) (s : Int × Int × AwM) : Prop := AW Γ sh (s.2.2) 0 0 51 [some (.inr (.inr v0)), some (.inl v1), some (.inl v2), some (.inl v3), some (.inl v4), some (.inl v5), some (.inl (s.1)), some (.inl (s.2.1)), none, none, none] [] Q
def x_X9_introduce_L51 (Γ : AwC) (sh : AwS) (v0 : Int) (v1 : Int) (v2 : Int) (v3 : Int) (v4 : Int) (v5 : Int) (Q : State → Prop) : (Int × AwM) → Prop := (fun (t : Int × AwM) => AW Γ sh (t.2) 0 0 116 [some (.inr (.inr v0)), some (.inl v1), some (.inl v2), some (.inl v3), some (.inl v4), none, some (.inl (t.1)), none, none, none, none] [] Q)
def fX9_introduce_J224_130 (sh : AwS) (M : AwM) (v0 : Int) (v3 : Int) (v4 : Int) (v6 : Int) (v7 : Int) (v8 : Int) (v9 : Int) (s0 : Int) : Option ((Int × Int) ⊕ (Int)) :=
  (if s0 = 0 then some (.inl (v8, (w32 (v9 + 1)))) else some (.inl (v9, (w32 (v9 + 1)))))
def fX9_introduce_J219_130 (sh : AwS) (M : AwM) (v0 : Int) (v3 : Int) (v4 : Int) (v6 : Int) (v7 : Int) (v8 : Int) (v9 : Int) : Option ((Int × Int) ⊕ (Int)) :=
  fX9_introduce_J224_130 sh M v0 v3 v4 v6 v7 v8 v9 1
def fX9_introduce_J223_130 (sh : AwS) (M : AwM) (v0 : Int) (v3 : Int) (v4 : Int) (v6 : Int) (v7 : Int) (v8 : Int) (v9 : Int) : Option ((Int × Int) ⊕ (Int)) :=
  fX9_introduce_J224_130 sh M v0 v3 v4 v6 v7 v8 v9 0
def fX9_introduce_L130 (sh : AwS) (M : AwM) (v0 : Int) (v3 : Int) (v4 : Int) (v6 : Int) (v7 : Int) (v8 : Int) (v9 : Int) : Option ((Int × Int) ⊕ (Int)) :=
  gd_ (kd_ sh v0 = (0, 9)) (gd_ ((kd_ sh (M v0 16)).1 = 1 ∧ (0 : Int) ≤ (M v0 13) ∧ (M v0 13) < ((kd_ sh (M v0 16)).2 : Int)) ((if v9 < (sl_ 1 (M (M v0 16) (M v0 13))) then (if (an_ v9 (xo_ v6 (-1))) = 0 then pb (fX9_worthAll sh M v0 v9) <| u1 fun (x38 : Int) => ((if (w32 (v7 + x38)) < v3 then some (.inl (v8, (w32 (v9 + 1)))) else (if v8 = (-1) then fX9_introduce_J219_130 sh M v0 v3 v4 v6 v7 v8 v9 else pb (fX9_bits sh M v9) <| u1 fun (x43 : Int) => (pb (fX9_bits sh M v8) <| u1 fun (x45 : Int) => ((if x43 < x45 then fX9_introduce_J219_130 sh M v0 v3 v4 v6 v7 v8 v9 else pb (fX9_bits sh M v9) <| u1 fun (x48 : Int) => (pb (fX9_bits sh M v8) <| u1 fun (x50 : Int) => ((if x48 = x50 then pb (fX9_worthAll sh M v0 v9) <| u1 fun (x53 : Int) => (pb (fX9_worthAll sh M v0 v8) <| u1 fun (x55 : Int) => ((if x55 < x53 then fX9_introduce_J219_130 sh M v0 v3 v4 v6 v7 v8 v9 else fX9_introduce_J223_130 sh M v0 v3 v4 v6 v7 v8 v9))) else fX9_introduce_J223_130 sh M v0 v3 v4 v6 v7 v8 v9))))))))) else some (.inl (v8, (w32 (v9 + 1))))) else some (.inr v8))))
def p_X9_introduce_L130 (Γ : AwC) (sh : AwS) (M : AwM) (v0 : Int) (v3 : Int) (v4 : Int) (v6 : Int) (v7 : Int) (Q : State → Prop) (s : Int × Int) : Prop := AW Γ sh M 0 0 130 [some (.inr (.inr v0)), none, none, some (.inl v3), some (.inl v4), none, some (.inl v6), some (.inl v7), some (.inl (s.1)), some (.inl (s.2)), none] [] Q
def x_X9_introduce_L130 (Γ : AwC) (sh : AwS) (M : AwM) (v0 : Int) (v3 : Int) (v4 : Int) (v6 : Int) (v7 : Int) (Q : State → Prop) : (Int) → Prop := (fun (t : Int) => AW Γ sh M 0 0 246 [some (.inr (.inr v0)), none, none, none, some (.inl v4), none, none, some (.inl v7), some (.inl (t)), none, none] [] Q)
def fX9_introduce (sh : AwS) (M : AwM) (v0 : Int) (v1 : Int) (v2 : Int) (v3 : Int) (v4 : Int) : Option (Int × AwM) :=
  gd_ (kd_ sh v0 = (0, 9)) (pb (fX9_isPerson sh M v0 v1) <| u1 fun (x3 : Int) => ((if x3 = 0 then some ((-1), M) else pb (fX9_isPerson sh M v0 v2) <| u1 fun (x6 : Int) => ((if x6 = 0 then some ((-1), M) else (if v1 = v2 then some ((-1), M) else (if v3 < 0 then some ((-1), M) else pb (fX9_is sh M v4 0 2) <| u1 fun (x11 : Int) => ((if x11 = 0 then some ((-1), M) else pb (fX9_heldBy sh M v0 0 v1) <| u1 fun (x14 : Int) => (pb (lp (u3 (fX9_introduce_L51 sh v0 v1 v2 v3 v4 x14)) FU (0, 0, M)) (u2 (fun (x29 : Int) (M30 : AwM) => pb (fX9_spends sh M30 v0 v1 v2) <| u1 fun (x32 : Int) => (pb (lp (u2 (fX9_introduce_L130 sh M30 v0 v3 v4 x29 x32)) FU ((-1), 0)) (u1 (fun (tq57 : Int) => (if tq57 = (-1) then some ((-1), M30) else (if v4 = 0 then pb (fX9_bits sh M30 tq57) <| u1 fun (x64 : Int) => (some (x64, M30)) else (if v4 = 1 then some (tq57, M30) else pb (fX9_worthAll sh M30 v0 tq57) <| u1 fun (x62 : Int) => (some ((w32 (x32 + x62)), M30))))))))))))))))))))
set_option maxRecDepth 100000 in
set_option maxHeartbeats 4000000 in
theorem w_X9_introduce_J106_51 {Γ : AwC} (hC : AOK Γ RX9 cX9_introduce 11 6 0 0 "introduce" (some .int)) {sh : AwS} {M : AwM} {v0 : Int} {v1 : Int} {v2 : Int} {v3 : Int} {v4 : Int} {v5 : Int} {v7 : Int} {s0 : Int} {Q : State → Prop} {r : (Int × Int × AwM) ⊕ (Int × AwM)} (h : fX9_introduce_J106_51 sh M v0 v1 v2 v3 v4 v5 v7 s0 = some r) (hL : ∀ s', r = .inl s' → p_X9_introduce_L51 Γ sh v0 v1 v2 v3 v4 v5 Q s') (hX : ∀ t, r = .inr t → x_X9_introduce_L51 Γ sh v0 v1 v2 v3 v4 v5 Q t) : AW Γ sh M 0 0 106 [some (.inr (.inr v0)), some (.inl v1), some (.inl v2), some (.inl v3), some (.inl v4), some (.inl v5), none, some (.inl v7), none, none, none] [.inl s0] Q := by
  unfold fX9_introduce_J106_51 at h
  refine aw_iconst (pc' := 107) hC dX9_introduce_106 rfl (by decide) ?_
  refine aw_ior (pc' := 108) hC dX9_introduce_107 rfl  ?_
  refine aw_istore (pc' := 110) (ls' := [some (.inr (.inr v0)), some (.inl v1), some (.inl v2), some (.inl v3), some (.inl v4), some (.inl v5), some (.inl (or_ s0 0)), some (.inl v7), none, none, none]) hC dX9_introduce_108 rfl (Nat.le_of_ble_eq_true rfl) rfl rfl ?_
  refine aw_iinc (pc' := 113) (ls' := [some (.inr (.inr v0)), some (.inl v1), some (.inl v2), some (.inl v3), some (.inl v4), some (.inl v5), some (.inl (or_ s0 0)), some (.inl (w32 (v7 + 1))), none, none, none]) hC dX9_introduce_110 rfl rfl rfl rfl ?_
  refine aw_goto (tgt := 51) hC dX9_introduce_113 (by decide) ?_
  refine aw_sub hC [some (.inr (.inr v0)), some (.inl v1), some (.inl v2), some (.inl v3), some (.inl v4), some (.inl v5), some (.inl (or_ s0 0)), some (.inl (w32 (v7 + 1))), none, none, none] ⟨rfl, ⟨rfl, ⟨rfl, ⟨rfl, ⟨rfl, ⟨rfl, ⟨rfl, ⟨rfl, trivial⟩⟩⟩⟩⟩⟩⟩⟩ (Nat.le_of_ble_eq_true rfl) ?_
  cases h
  exact hL _ rfl
set_option maxRecDepth 100000 in
set_option maxHeartbeats 4000000 in
theorem w_X9_introduce_L51 {Γ : AwC} (hC : AOK Γ RX9 cX9_introduce 11 6 0 0 "introduce" (some .int)) {sh : AwS} {v0 : Int} {v1 : Int} {v2 : Int} {v3 : Int} {v4 : Int} {v5 : Int} {Q : State → Prop} : ∀ s r, u3 (fX9_introduce_L51 sh v0 v1 v2 v3 v4 v5) s = some r → (∀ s', r = .inl s' → p_X9_introduce_L51 Γ sh v0 v1 v2 v3 v4 v5 Q s') → (∀ t, r = .inr t → x_X9_introduce_L51 Γ sh v0 v1 v2 v3 v4 v5 Q t) → p_X9_introduce_L51 Γ sh v0 v1 v2 v3 v4 v5 Q s := by
  intro s r h hL hX
  obtain ⟨v6, v7, M⟩ := s
  replace h := u3_s h
  unfold fX9_introduce_L51 at h
  show AW Γ sh M 0 0 51 [some (.inr (.inr v0)), some (.inl v1), some (.inl v2), some (.inl v3), some (.inl v4), some (.inl v5), some (.inl v6), some (.inl v7), none, none, none] [] Q
  refine aw_iload (pc' := 53) hC dX9_introduce_51 rfl rfl ?_
  refine aw_aload_n (pc' := 54) (i := 0) hC dX9_introduce_53 rfl rfl rfl ?_
  obtain ⟨g15, h⟩ := gd_s h
  refine aw_getfield (pc' := 57) (v := (.inr (.inr (M v0 16)))) hC dX9_introduce_54 rfl fl_X9_60 g15 rfl ?_
  refine aw_aload_n (pc' := 58) (i := 0) hC dX9_introduce_57 rfl rfl rfl ?_
  refine aw_getfield (pc' := 61) (v := (.inl (M v0 13))) hC dX9_introduce_58 rfl fl_X9_51 g15 rfl ?_
  obtain ⟨g16, h⟩ := gd_s h
  refine aw_iaload (pc' := 62) hC dX9_introduce_61 rfl g16 ?_
  refine aw_icmp_ge (tgt := 116) (pc' := 65) hC dX9_introduce_62 (by decide) rfl (fun c17 => ?_) (fun c17 => ?_)
  · replace h := it_n c17 h
    refine aw_sub hC [some (.inr (.inr v0)), some (.inl v1), some (.inl v2), some (.inl v3), some (.inl v4), none, some (.inl v6), none, none, none, none] ⟨rfl, ⟨rfl, ⟨rfl, ⟨rfl, ⟨rfl, ⟨rfl, trivial⟩⟩⟩⟩⟩⟩ (Nat.le_of_ble_eq_true rfl) ?_
    cases h
    exact hX _ rfl
  · replace h := it_p c17 h
    refine aw_iload (pc' := 67) hC dX9_introduce_65 rfl rfl ?_
    refine aw_iload (pc' := 69) hC dX9_introduce_67 rfl rfl ?_
    refine aw_iload (pc' := 71) hC dX9_introduce_69 rfl rfl ?_
    obtain ⟨x19, q18, h⟩ := pb_s h
    replace h := u1_s h
    refine aw_cS (pc' := 74) (k2 := 0) (n2 := 0) (st := [.inl v6]) (stN := [.inl x19, .inl v6]) hC [.inl v5, .inl v7] (mX9_has2 q18) lk_X9_373 dX9_introduce_71 rfl rfl (Nat.le_of_ble_eq_true rfl) (Nat.le_of_ble_eq_true rfl) (Nat.le_of_ble_eq_true rfl) rfl (Nat.le_of_ble_eq_true rfl) rfl rfl rfl ?_
    refine aw_if_eq (tgt := 106) (pc' := 77) hC dX9_introduce_74 (by decide) rfl (fun c20 => ?_) (fun c20 => ?_)
    · replace h := it_p c20 h
      refine aw_sub hC [some (.inr (.inr v0)), some (.inl v1), some (.inl v2), some (.inl v3), some (.inl v4), some (.inl v5), none, some (.inl v7), none, none, none] ⟨rfl, ⟨rfl, ⟨rfl, ⟨rfl, ⟨rfl, ⟨rfl, ⟨rfl, trivial⟩⟩⟩⟩⟩⟩⟩ (Nat.le_of_ble_eq_true rfl) ?_
      exact w_X9_introduce_J106_51 hC h hL hX
    · replace h := it_n c20 h
      refine aw_aload_n (pc' := 78) (i := 0) hC dX9_introduce_77 rfl rfl rfl ?_
      refine aw_iconst (pc' := 79) hC dX9_introduce_78 rfl (by decide) ?_
      refine aw_iload (pc' := 81) hC dX9_introduce_79 rfl rfl ?_
      refine aw_iload_n (pc' := 82) (i := 2) hC dX9_introduce_81 rfl rfl rfl ?_
      obtain ⟨x22, q21, h⟩ := pb_s h
      replace h := u1_s h
      refine aw_cV (pc' := 85) (k2 := 0) (n2 := 0) (st := [.inl v6]) (stN := [.inl x22, .inl v6]) hC [.inl 0, .inl v7, .inl v2] (mX9_canPresent q21) lk_X9_480 g15 dX9_introduce_82 rfl rfl (Nat.le_of_ble_eq_true rfl) (Nat.le_of_ble_eq_true rfl) (Nat.le_of_ble_eq_true rfl) rfl (Nat.le_of_ble_eq_true rfl) rfl rfl rfl ?_
      refine aw_if_eq (tgt := 106) (pc' := 88) hC dX9_introduce_85 (by decide) rfl (fun c23 => ?_) (fun c23 => ?_)
      · replace h := it_p c23 h
        refine aw_sub hC [some (.inr (.inr v0)), some (.inl v1), some (.inl v2), some (.inl v3), some (.inl v4), some (.inl v5), none, some (.inl v7), none, none, none] ⟨rfl, ⟨rfl, ⟨rfl, ⟨rfl, ⟨rfl, ⟨rfl, ⟨rfl, trivial⟩⟩⟩⟩⟩⟩⟩ (Nat.le_of_ble_eq_true rfl) ?_
        exact w_X9_introduce_J106_51 hC h hL hX
      · replace h := it_n c23 h
        refine aw_aload_n (pc' := 89) (i := 0) hC dX9_introduce_88 rfl rfl rfl ?_
        refine aw_iconst (pc' := 90) hC dX9_introduce_89 rfl (by decide) ?_
        refine aw_iload (pc' := 92) hC dX9_introduce_90 rfl rfl ?_
        refine aw_iload_n (pc' := 93) (i := 2) hC dX9_introduce_92 rfl rfl rfl ?_
        obtain ⟨⟨x25, M26⟩, q24, h⟩ := pb_s h
        replace h := u2_s h
        refine aw_cV (pc' := 96) (k2 := 0) (n2 := 0) (st := [.inl v6]) (stN := [.inl x25, .inl v6]) hC [.inl 0, .inl v7, .inl v2] (mX9_wouldKnow q24) lk_X9_483 g15 dX9_introduce_93 rfl rfl (Nat.le_of_ble_eq_true rfl) (Nat.le_of_ble_eq_true rfl) (Nat.le_of_ble_eq_true rfl) rfl (Nat.le_of_ble_eq_true rfl) rfl rfl rfl ?_
        refine aw_if_eq (tgt := 106) (pc' := 99) hC dX9_introduce_96 (by decide) rfl (fun c27 => ?_) (fun c27 => ?_)
        · replace h := it_p c27 h
          refine aw_sub hC [some (.inr (.inr v0)), some (.inl v1), some (.inl v2), some (.inl v3), some (.inl v4), some (.inl v5), none, some (.inl v7), none, none, none] ⟨rfl, ⟨rfl, ⟨rfl, ⟨rfl, ⟨rfl, ⟨rfl, ⟨rfl, trivial⟩⟩⟩⟩⟩⟩⟩ (Nat.le_of_ble_eq_true rfl) ?_
          exact w_X9_introduce_J106_51 hC h hL hX
        · replace h := it_n c27 h
          refine aw_iconst (pc' := 100) hC dX9_introduce_99 rfl (by decide) ?_
          refine aw_iload (pc' := 102) hC dX9_introduce_100 rfl rfl ?_
          refine aw_ishl (pc' := 103) hC dX9_introduce_102 rfl  ?_
          refine aw_goto (tgt := 107) hC dX9_introduce_103 (by decide) ?_
          refine aw_ior (pc' := 108) hC dX9_introduce_107 rfl  ?_
          refine aw_istore (pc' := 110) (ls' := [some (.inr (.inr v0)), some (.inl v1), some (.inl v2), some (.inl v3), some (.inl v4), some (.inl v5), some (.inl (or_ v6 (sl_ 1 v7))), some (.inl v7), none, none, none]) hC dX9_introduce_108 rfl (Nat.le_of_ble_eq_true rfl) rfl rfl ?_
          refine aw_iinc (pc' := 113) (ls' := [some (.inr (.inr v0)), some (.inl v1), some (.inl v2), some (.inl v3), some (.inl v4), some (.inl v5), some (.inl (or_ v6 (sl_ 1 v7))), some (.inl (w32 (v7 + 1))), none, none, none]) hC dX9_introduce_110 rfl rfl rfl rfl ?_
          refine aw_goto (tgt := 51) hC dX9_introduce_113 (by decide) ?_
          refine aw_sub hC [some (.inr (.inr v0)), some (.inl v1), some (.inl v2), some (.inl v3), some (.inl v4), some (.inl v5), some (.inl (or_ v6 (sl_ 1 v7))), some (.inl (w32 (v7 + 1))), none, none, none] ⟨rfl, ⟨rfl, ⟨rfl, ⟨rfl, ⟨rfl, ⟨rfl, ⟨rfl, ⟨rfl, trivial⟩⟩⟩⟩⟩⟩⟩⟩ (Nat.le_of_ble_eq_true rfl) ?_
          cases h
          exact hL _ rfl
set_option maxRecDepth 100000 in
set_option maxHeartbeats 4000000 in
theorem w_X9_introduce_J224_130 {Γ : AwC} (hC : AOK Γ RX9 cX9_introduce 11 6 0 0 "introduce" (some .int)) {sh : AwS} {M : AwM} {v0 : Int} {v3 : Int} {v4 : Int} {v6 : Int} {v7 : Int} {v8 : Int} {v9 : Int} {s0 : Int} {Q : State → Prop} {r : (Int × Int) ⊕ (Int)} (h : fX9_introduce_J224_130 sh M v0 v3 v4 v6 v7 v8 v9 s0 = some r) (hL : ∀ s', r = .inl s' → p_X9_introduce_L130 Γ sh M v0 v3 v4 v6 v7 Q s') (hX : ∀ t, r = .inr t → x_X9_introduce_L130 Γ sh M v0 v3 v4 v6 v7 Q t) : AW Γ sh M 0 0 224 [some (.inr (.inr v0)), none, none, some (.inl v3), some (.inl v4), none, some (.inl v6), some (.inl v7), some (.inl v8), some (.inl v9), none] [.inl s0] Q := by
  unfold fX9_introduce_J224_130 at h
  refine aw_istore (pc' := 226) (ls' := [some (.inr (.inr v0)), none, none, some (.inl v3), some (.inl v4), none, some (.inl v6), some (.inl v7), some (.inl v8), some (.inl v9), some (.inl s0)]) hC dX9_introduce_224 rfl (Nat.le_of_ble_eq_true rfl) rfl rfl ?_
  refine aw_iload (pc' := 228) hC dX9_introduce_226 rfl rfl ?_
  refine aw_if_eq (tgt := 236) (pc' := 231) hC dX9_introduce_228 (by decide) rfl (fun c41 => ?_) (fun c41 => ?_)
  · replace h := it_p c41 h
    refine aw_iload (pc' := 238) hC dX9_introduce_236 rfl rfl ?_
    refine aw_istore (pc' := 240) (ls' := [some (.inr (.inr v0)), none, none, some (.inl v3), some (.inl v4), none, some (.inl v6), some (.inl v7), some (.inl v8), some (.inl v9), some (.inl s0)]) hC dX9_introduce_238 rfl (Nat.le_of_ble_eq_true rfl) rfl rfl ?_
    refine aw_iinc (pc' := 243) (ls' := [some (.inr (.inr v0)), none, none, some (.inl v3), some (.inl v4), none, some (.inl v6), some (.inl v7), some (.inl v8), some (.inl (w32 (v9 + 1))), some (.inl s0)]) hC dX9_introduce_240 rfl rfl rfl rfl ?_
    refine aw_goto (tgt := 130) hC dX9_introduce_243 (by decide) ?_
    refine aw_sub hC [some (.inr (.inr v0)), none, none, some (.inl v3), some (.inl v4), none, some (.inl v6), some (.inl v7), some (.inl v8), some (.inl (w32 (v9 + 1))), none] ⟨rfl, ⟨rfl, ⟨rfl, ⟨rfl, ⟨rfl, ⟨rfl, ⟨rfl, trivial⟩⟩⟩⟩⟩⟩⟩ (Nat.le_of_ble_eq_true rfl) ?_
    cases h
    exact hL _ rfl
  · replace h := it_n c41 h
    refine aw_iload (pc' := 233) hC dX9_introduce_231 rfl rfl ?_
    refine aw_goto (tgt := 238) hC dX9_introduce_233 (by decide) ?_
    refine aw_istore (pc' := 240) (ls' := [some (.inr (.inr v0)), none, none, some (.inl v3), some (.inl v4), none, some (.inl v6), some (.inl v7), some (.inl v9), some (.inl v9), some (.inl s0)]) hC dX9_introduce_238 rfl (Nat.le_of_ble_eq_true rfl) rfl rfl ?_
    refine aw_iinc (pc' := 243) (ls' := [some (.inr (.inr v0)), none, none, some (.inl v3), some (.inl v4), none, some (.inl v6), some (.inl v7), some (.inl v9), some (.inl (w32 (v9 + 1))), some (.inl s0)]) hC dX9_introduce_240 rfl rfl rfl rfl ?_
    refine aw_goto (tgt := 130) hC dX9_introduce_243 (by decide) ?_
    refine aw_sub hC [some (.inr (.inr v0)), none, none, some (.inl v3), some (.inl v4), none, some (.inl v6), some (.inl v7), some (.inl v9), some (.inl (w32 (v9 + 1))), none] ⟨rfl, ⟨rfl, ⟨rfl, ⟨rfl, ⟨rfl, ⟨rfl, ⟨rfl, trivial⟩⟩⟩⟩⟩⟩⟩ (Nat.le_of_ble_eq_true rfl) ?_
    cases h
    exact hL _ rfl
set_option maxRecDepth 100000 in
set_option maxHeartbeats 4000000 in
theorem w_X9_introduce_J219_130 {Γ : AwC} (hC : AOK Γ RX9 cX9_introduce 11 6 0 0 "introduce" (some .int)) {sh : AwS} {M : AwM} {v0 : Int} {v3 : Int} {v4 : Int} {v6 : Int} {v7 : Int} {v8 : Int} {v9 : Int} {Q : State → Prop} {r : (Int × Int) ⊕ (Int)} (h : fX9_introduce_J219_130 sh M v0 v3 v4 v6 v7 v8 v9 = some r) (hL : ∀ s', r = .inl s' → p_X9_introduce_L130 Γ sh M v0 v3 v4 v6 v7 Q s') (hX : ∀ t, r = .inr t → x_X9_introduce_L130 Γ sh M v0 v3 v4 v6 v7 Q t) : AW Γ sh M 0 0 219 [some (.inr (.inr v0)), none, none, some (.inl v3), some (.inl v4), none, some (.inl v6), some (.inl v7), some (.inl v8), some (.inl v9), none] [] Q := by
  unfold fX9_introduce_J219_130 at h
  refine aw_iconst (pc' := 220) hC dX9_introduce_219 rfl (by decide) ?_
  refine aw_goto (tgt := 224) hC dX9_introduce_220 (by decide) ?_
  refine aw_sub hC [some (.inr (.inr v0)), none, none, some (.inl v3), some (.inl v4), none, some (.inl v6), some (.inl v7), some (.inl v8), some (.inl v9), none] ⟨rfl, ⟨rfl, ⟨rfl, ⟨rfl, ⟨rfl, ⟨rfl, ⟨rfl, trivial⟩⟩⟩⟩⟩⟩⟩ (Nat.le_of_ble_eq_true rfl) ?_
  exact w_X9_introduce_J224_130 hC h hL hX
set_option maxRecDepth 100000 in
set_option maxHeartbeats 4000000 in
theorem w_X9_introduce_J223_130 {Γ : AwC} (hC : AOK Γ RX9 cX9_introduce 11 6 0 0 "introduce" (some .int)) {sh : AwS} {M : AwM} {v0 : Int} {v3 : Int} {v4 : Int} {v6 : Int} {v7 : Int} {v8 : Int} {v9 : Int} {Q : State → Prop} {r : (Int × Int) ⊕ (Int)} (h : fX9_introduce_J223_130 sh M v0 v3 v4 v6 v7 v8 v9 = some r) (hL : ∀ s', r = .inl s' → p_X9_introduce_L130 Γ sh M v0 v3 v4 v6 v7 Q s') (hX : ∀ t, r = .inr t → x_X9_introduce_L130 Γ sh M v0 v3 v4 v6 v7 Q t) : AW Γ sh M 0 0 223 [some (.inr (.inr v0)), none, none, some (.inl v3), some (.inl v4), none, some (.inl v6), some (.inl v7), some (.inl v8), some (.inl v9), none] [] Q := by
  unfold fX9_introduce_J223_130 at h
  refine aw_iconst (pc' := 224) hC dX9_introduce_223 rfl (by decide) ?_
  refine aw_sub hC [some (.inr (.inr v0)), none, none, some (.inl v3), some (.inl v4), none, some (.inl v6), some (.inl v7), some (.inl v8), some (.inl v9), none] ⟨rfl, ⟨rfl, ⟨rfl, ⟨rfl, ⟨rfl, ⟨rfl, ⟨rfl, trivial⟩⟩⟩⟩⟩⟩⟩ (Nat.le_of_ble_eq_true rfl) ?_
  exact w_X9_introduce_J224_130 hC h hL hX
set_option maxRecDepth 100000 in
set_option maxHeartbeats 4000000 in
theorem w_X9_introduce_L130 {Γ : AwC} (hC : AOK Γ RX9 cX9_introduce 11 6 0 0 "introduce" (some .int)) {sh : AwS} {M : AwM} {v0 : Int} {v3 : Int} {v4 : Int} {v6 : Int} {v7 : Int} {Q : State → Prop} : ∀ s r, u2 (fX9_introduce_L130 sh M v0 v3 v4 v6 v7) s = some r → (∀ s', r = .inl s' → p_X9_introduce_L130 Γ sh M v0 v3 v4 v6 v7 Q s') → (∀ t, r = .inr t → x_X9_introduce_L130 Γ sh M v0 v3 v4 v6 v7 Q t) → p_X9_introduce_L130 Γ sh M v0 v3 v4 v6 v7 Q s := by
  intro s r h hL hX
  obtain ⟨v8, v9⟩ := s
  replace h := u2_s h
  unfold fX9_introduce_L130 at h
  show AW Γ sh M 0 0 130 [some (.inr (.inr v0)), none, none, some (.inl v3), some (.inl v4), none, some (.inl v6), some (.inl v7), some (.inl v8), some (.inl v9), none] [] Q
  refine aw_iload (pc' := 132) hC dX9_introduce_130 rfl rfl ?_
  refine aw_iconst (pc' := 133) hC dX9_introduce_132 rfl (by decide) ?_
  refine aw_aload_n (pc' := 134) (i := 0) hC dX9_introduce_133 rfl rfl rfl ?_
  obtain ⟨g33, h⟩ := gd_s h
  refine aw_getfield (pc' := 137) (v := (.inr (.inr (M v0 16)))) hC dX9_introduce_134 rfl fl_X9_60 g33 rfl ?_
  refine aw_aload_n (pc' := 138) (i := 0) hC dX9_introduce_137 rfl rfl rfl ?_
  refine aw_getfield (pc' := 141) (v := (.inl (M v0 13))) hC dX9_introduce_138 rfl fl_X9_51 g33 rfl ?_
  obtain ⟨g34, h⟩ := gd_s h
  refine aw_iaload (pc' := 142) hC dX9_introduce_141 rfl g34 ?_
  refine aw_ishl (pc' := 143) hC dX9_introduce_142 rfl  ?_
  refine aw_icmp_ge (tgt := 246) (pc' := 146) hC dX9_introduce_143 (by decide) rfl (fun c35 => ?_) (fun c35 => ?_)
  · replace h := it_n c35 h
    refine aw_sub hC [some (.inr (.inr v0)), none, none, none, some (.inl v4), none, none, some (.inl v7), some (.inl v8), none, none] ⟨rfl, ⟨rfl, ⟨rfl, ⟨rfl, trivial⟩⟩⟩⟩ (Nat.le_of_ble_eq_true rfl) ?_
    cases h
    exact hX _ rfl
  · replace h := it_p c35 h
    refine aw_iload (pc' := 148) hC dX9_introduce_146 rfl rfl ?_
    refine aw_iload (pc' := 150) hC dX9_introduce_148 rfl rfl ?_
    refine aw_iconst (pc' := 151) hC dX9_introduce_150 rfl (by decide) ?_
    refine aw_ixor (pc' := 152) hC dX9_introduce_151 rfl  ?_
    refine aw_iand (pc' := 153) hC dX9_introduce_152 rfl  ?_
    refine aw_if_ne (tgt := 240) (pc' := 156) hC dX9_introduce_153 (by decide) rfl (fun c36 => ?_) (fun c36 => ?_)
    · replace h := it_n c36 h
      refine aw_iinc (pc' := 243) (ls' := [some (.inr (.inr v0)), none, none, some (.inl v3), some (.inl v4), none, some (.inl v6), some (.inl v7), some (.inl v8), some (.inl (w32 (v9 + 1))), none]) hC dX9_introduce_240 rfl rfl rfl rfl ?_
      refine aw_goto (tgt := 130) hC dX9_introduce_243 (by decide) ?_
      refine aw_sub hC [some (.inr (.inr v0)), none, none, some (.inl v3), some (.inl v4), none, some (.inl v6), some (.inl v7), some (.inl v8), some (.inl (w32 (v9 + 1))), none] ⟨rfl, ⟨rfl, ⟨rfl, ⟨rfl, ⟨rfl, ⟨rfl, ⟨rfl, trivial⟩⟩⟩⟩⟩⟩⟩ (Nat.le_of_ble_eq_true rfl) ?_
      cases h
      exact hL _ rfl
    · replace h := it_p c36 h
      refine aw_iload (pc' := 158) hC dX9_introduce_156 rfl rfl ?_
      refine aw_aload_n (pc' := 159) (i := 0) hC dX9_introduce_158 rfl rfl rfl ?_
      refine aw_iload (pc' := 161) hC dX9_introduce_159 rfl rfl ?_
      obtain ⟨x38, q37, h⟩ := pb_s h
      replace h := u1_s h
      refine aw_cV (pc' := 164) (k2 := 0) (n2 := 0) (st := [.inl v7]) (stN := [.inl x38, .inl v7]) hC [.inl v9] (mX9_worthAll q37) lk_X9_474 g33 dX9_introduce_161 rfl rfl (Nat.le_of_ble_eq_true rfl) (Nat.le_of_ble_eq_true rfl) (Nat.le_of_ble_eq_true rfl) rfl (Nat.le_of_ble_eq_true rfl) rfl rfl rfl ?_
      refine aw_iadd (pc' := 165) hC dX9_introduce_164 rfl  ?_
      refine aw_iload_n (pc' := 166) (i := 3) hC dX9_introduce_165 rfl rfl rfl ?_
      refine aw_icmp_ge (tgt := 172) (pc' := 169) hC dX9_introduce_166 (by decide) rfl (fun c39 => ?_) (fun c39 => ?_)
      · replace h := it_n c39 h
        refine aw_iload (pc' := 174) hC dX9_introduce_172 rfl rfl ?_
        refine aw_iconst (pc' := 175) hC dX9_introduce_174 rfl (by decide) ?_
        refine aw_icmp_eq (tgt := 219) (pc' := 178) hC dX9_introduce_175 (by decide) rfl (fun c40 => ?_) (fun c40 => ?_)
        · replace h := it_p c40 h
          refine aw_sub hC [some (.inr (.inr v0)), none, none, some (.inl v3), some (.inl v4), none, some (.inl v6), some (.inl v7), some (.inl v8), some (.inl v9), none] ⟨rfl, ⟨rfl, ⟨rfl, ⟨rfl, ⟨rfl, ⟨rfl, ⟨rfl, trivial⟩⟩⟩⟩⟩⟩⟩ (Nat.le_of_ble_eq_true rfl) ?_
          exact w_X9_introduce_J219_130 hC h hL hX
        · replace h := it_n c40 h
          refine aw_iload (pc' := 180) hC dX9_introduce_178 rfl rfl ?_
          obtain ⟨x43, q42, h⟩ := pb_s h
          replace h := u1_s h
          refine aw_cS (pc' := 183) (k2 := 0) (n2 := 0) (st := []) (stN := [.inl x43]) hC [.inl v9] (mX9_bits q42) lk_X9_448 dX9_introduce_180 rfl rfl (Nat.le_of_ble_eq_true rfl) (Nat.le_of_ble_eq_true rfl) (Nat.le_of_ble_eq_true rfl) rfl (Nat.le_of_ble_eq_true rfl) rfl rfl rfl ?_
          refine aw_iload (pc' := 185) hC dX9_introduce_183 rfl rfl ?_
          obtain ⟨x45, q44, h⟩ := pb_s h
          replace h := u1_s h
          refine aw_cS (pc' := 188) (k2 := 0) (n2 := 0) (st := [.inl x43]) (stN := [.inl x45, .inl x43]) hC [.inl v8] (mX9_bits q44) lk_X9_448 dX9_introduce_185 rfl rfl (Nat.le_of_ble_eq_true rfl) (Nat.le_of_ble_eq_true rfl) (Nat.le_of_ble_eq_true rfl) rfl (Nat.le_of_ble_eq_true rfl) rfl rfl rfl ?_
          refine aw_icmp_lt (tgt := 219) (pc' := 191) hC dX9_introduce_188 (by decide) rfl (fun c46 => ?_) (fun c46 => ?_)
          · replace h := it_p c46 h
            refine aw_sub hC [some (.inr (.inr v0)), none, none, some (.inl v3), some (.inl v4), none, some (.inl v6), some (.inl v7), some (.inl v8), some (.inl v9), none] ⟨rfl, ⟨rfl, ⟨rfl, ⟨rfl, ⟨rfl, ⟨rfl, ⟨rfl, trivial⟩⟩⟩⟩⟩⟩⟩ (Nat.le_of_ble_eq_true rfl) ?_
            exact w_X9_introduce_J219_130 hC h hL hX
          · replace h := it_n c46 h
            refine aw_iload (pc' := 193) hC dX9_introduce_191 rfl rfl ?_
            obtain ⟨x48, q47, h⟩ := pb_s h
            replace h := u1_s h
            refine aw_cS (pc' := 196) (k2 := 0) (n2 := 0) (st := []) (stN := [.inl x48]) hC [.inl v9] (mX9_bits q47) lk_X9_448 dX9_introduce_193 rfl rfl (Nat.le_of_ble_eq_true rfl) (Nat.le_of_ble_eq_true rfl) (Nat.le_of_ble_eq_true rfl) rfl (Nat.le_of_ble_eq_true rfl) rfl rfl rfl ?_
            refine aw_iload (pc' := 198) hC dX9_introduce_196 rfl rfl ?_
            obtain ⟨x50, q49, h⟩ := pb_s h
            replace h := u1_s h
            refine aw_cS (pc' := 201) (k2 := 0) (n2 := 0) (st := [.inl x48]) (stN := [.inl x50, .inl x48]) hC [.inl v8] (mX9_bits q49) lk_X9_448 dX9_introduce_198 rfl rfl (Nat.le_of_ble_eq_true rfl) (Nat.le_of_ble_eq_true rfl) (Nat.le_of_ble_eq_true rfl) rfl (Nat.le_of_ble_eq_true rfl) rfl rfl rfl ?_
            refine aw_icmp_ne (tgt := 223) (pc' := 204) hC dX9_introduce_201 (by decide) rfl (fun c51 => ?_) (fun c51 => ?_)
            · replace h := it_n c51 h
              refine aw_sub hC [some (.inr (.inr v0)), none, none, some (.inl v3), some (.inl v4), none, some (.inl v6), some (.inl v7), some (.inl v8), some (.inl v9), none] ⟨rfl, ⟨rfl, ⟨rfl, ⟨rfl, ⟨rfl, ⟨rfl, ⟨rfl, trivial⟩⟩⟩⟩⟩⟩⟩ (Nat.le_of_ble_eq_true rfl) ?_
              exact w_X9_introduce_J223_130 hC h hL hX
            · replace h := it_p c51 h
              refine aw_aload_n (pc' := 205) (i := 0) hC dX9_introduce_204 rfl rfl rfl ?_
              refine aw_iload (pc' := 207) hC dX9_introduce_205 rfl rfl ?_
              obtain ⟨x53, q52, h⟩ := pb_s h
              replace h := u1_s h
              refine aw_cV (pc' := 210) (k2 := 0) (n2 := 0) (st := []) (stN := [.inl x53]) hC [.inl v9] (mX9_worthAll q52) lk_X9_474 g33 dX9_introduce_207 rfl rfl (Nat.le_of_ble_eq_true rfl) (Nat.le_of_ble_eq_true rfl) (Nat.le_of_ble_eq_true rfl) rfl (Nat.le_of_ble_eq_true rfl) rfl rfl rfl ?_
              refine aw_aload_n (pc' := 211) (i := 0) hC dX9_introduce_210 rfl rfl rfl ?_
              refine aw_iload (pc' := 213) hC dX9_introduce_211 rfl rfl ?_
              obtain ⟨x55, q54, h⟩ := pb_s h
              replace h := u1_s h
              refine aw_cV (pc' := 216) (k2 := 0) (n2 := 0) (st := [.inl x53]) (stN := [.inl x55, .inl x53]) hC [.inl v8] (mX9_worthAll q54) lk_X9_474 g33 dX9_introduce_213 rfl rfl (Nat.le_of_ble_eq_true rfl) (Nat.le_of_ble_eq_true rfl) (Nat.le_of_ble_eq_true rfl) rfl (Nat.le_of_ble_eq_true rfl) rfl rfl rfl ?_
              refine aw_icmp_le (tgt := 223) (pc' := 219) hC dX9_introduce_216 (by decide) rfl (fun c56 => ?_) (fun c56 => ?_)
              · replace h := it_n c56 h
                refine aw_sub hC [some (.inr (.inr v0)), none, none, some (.inl v3), some (.inl v4), none, some (.inl v6), some (.inl v7), some (.inl v8), some (.inl v9), none] ⟨rfl, ⟨rfl, ⟨rfl, ⟨rfl, ⟨rfl, ⟨rfl, ⟨rfl, trivial⟩⟩⟩⟩⟩⟩⟩ (Nat.le_of_ble_eq_true rfl) ?_
                exact w_X9_introduce_J223_130 hC h hL hX
              · replace h := it_p c56 h
                refine aw_sub hC [some (.inr (.inr v0)), none, none, some (.inl v3), some (.inl v4), none, some (.inl v6), some (.inl v7), some (.inl v8), some (.inl v9), none] ⟨rfl, ⟨rfl, ⟨rfl, ⟨rfl, ⟨rfl, ⟨rfl, ⟨rfl, trivial⟩⟩⟩⟩⟩⟩⟩ (Nat.le_of_ble_eq_true rfl) ?_
                exact w_X9_introduce_J219_130 hC h hL hX
      · replace h := it_p c39 h
        refine aw_goto (tgt := 240) hC dX9_introduce_169 (by decide) ?_
        refine aw_iinc (pc' := 243) (ls' := [some (.inr (.inr v0)), none, none, some (.inl v3), some (.inl v4), none, some (.inl v6), some (.inl v7), some (.inl v8), some (.inl (w32 (v9 + 1))), none]) hC dX9_introduce_240 rfl rfl rfl rfl ?_
        refine aw_goto (tgt := 130) hC dX9_introduce_243 (by decide) ?_
        refine aw_sub hC [some (.inr (.inr v0)), none, none, some (.inl v3), some (.inl v4), none, some (.inl v6), some (.inl v7), some (.inl v8), some (.inl (w32 (v9 + 1))), none] ⟨rfl, ⟨rfl, ⟨rfl, ⟨rfl, ⟨rfl, ⟨rfl, ⟨rfl, trivial⟩⟩⟩⟩⟩⟩⟩ (Nat.le_of_ble_eq_true rfl) ?_
        cases h
        exact hL _ rfl
set_option maxRecDepth 100000 in
set_option maxHeartbeats 4000000 in
theorem mX9_introduce {sh : AwS} {M : AwM} {v0 : Int} {v1 : Int} {v2 : Int} {v3 : Int} {v4 : Int} {r : Int} {M' : AwM} (h : fX9_introduce sh M v0 v1 v2 v3 v4 = some (r, M')) : AMet yX9_introduce cX9_introduce 11 (some .int) 6 0 0 [.inr (.inr v0), .inl v1, .inl v2, .inl v3, .inl v4] sh M (some (.inl r)) sh M' := by
  refine amet_of (by decide +kernel) (Nat.le_of_ble_eq_true rfl) (fun Γ hC => ?_)
  replace hC : AOK Γ RX9 cX9_introduce 11 6 0 0 "introduce" (some .int) := hC
  unfold fX9_introduce at h
  refine aw_sub hC [some (.inr (.inr v0)), some (.inl v1), some (.inl v2), some (.inl v3), some (.inl v4), none, none, none, none, none, none] ⟨rfl, ⟨rfl, ⟨rfl, ⟨rfl, ⟨rfl, trivial⟩⟩⟩⟩⟩ (Nat.le_of_ble_eq_true rfl) ?_
  refine aw_aload_n (pc' := 1) (i := 0) hC dX9_introduce_0 rfl rfl rfl ?_
  refine aw_iload_n (pc' := 2) (i := 1) hC dX9_introduce_1 rfl rfl rfl ?_
  obtain ⟨g2, h⟩ := gd_s h
  obtain ⟨x3, q1, h⟩ := pb_s h
  replace h := u1_s h
  refine aw_cV (pc' := 5) (k2 := 0) (n2 := 0) (st := []) (stN := [.inl x3]) hC [.inl v1] (mX9_isPerson q1) lk_X9_471 g2 dX9_introduce_2 rfl rfl (Nat.le_of_ble_eq_true rfl) (Nat.le_of_ble_eq_true rfl) (Nat.le_of_ble_eq_true rfl) rfl (Nat.le_of_ble_eq_true rfl) rfl rfl rfl ?_
  refine aw_if_eq (tgt := 35) (pc' := 8) hC dX9_introduce_5 (by decide) rfl (fun c4 => ?_) (fun c4 => ?_)
  · replace h := it_p c4 h
    refine aw_iconst (pc' := 36) hC dX9_introduce_35 rfl (by decide) ?_
    cases h
    exact aw_iret hC dX9_introduce_36 (Nat.le_of_ble_eq_true rfl) (Nat.le_of_ble_eq_true rfl)
  · replace h := it_n c4 h
    refine aw_aload_n (pc' := 9) (i := 0) hC dX9_introduce_8 rfl rfl rfl ?_
    refine aw_iload_n (pc' := 10) (i := 2) hC dX9_introduce_9 rfl rfl rfl ?_
    obtain ⟨x6, q5, h⟩ := pb_s h
    replace h := u1_s h
    refine aw_cV (pc' := 13) (k2 := 0) (n2 := 0) (st := []) (stN := [.inl x6]) hC [.inl v2] (mX9_isPerson q5) lk_X9_471 g2 dX9_introduce_10 rfl rfl (Nat.le_of_ble_eq_true rfl) (Nat.le_of_ble_eq_true rfl) (Nat.le_of_ble_eq_true rfl) rfl (Nat.le_of_ble_eq_true rfl) rfl rfl rfl ?_
    refine aw_if_eq (tgt := 35) (pc' := 16) hC dX9_introduce_13 (by decide) rfl (fun c7 => ?_) (fun c7 => ?_)
    · replace h := it_p c7 h
      refine aw_iconst (pc' := 36) hC dX9_introduce_35 rfl (by decide) ?_
      cases h
      exact aw_iret hC dX9_introduce_36 (Nat.le_of_ble_eq_true rfl) (Nat.le_of_ble_eq_true rfl)
    · replace h := it_n c7 h
      refine aw_iload_n (pc' := 17) (i := 1) hC dX9_introduce_16 rfl rfl rfl ?_
      refine aw_iload_n (pc' := 18) (i := 2) hC dX9_introduce_17 rfl rfl rfl ?_
      refine aw_icmp_eq (tgt := 35) (pc' := 21) hC dX9_introduce_18 (by decide) rfl (fun c8 => ?_) (fun c8 => ?_)
      · replace h := it_p c8 h
        refine aw_iconst (pc' := 36) hC dX9_introduce_35 rfl (by decide) ?_
        cases h
        exact aw_iret hC dX9_introduce_36 (Nat.le_of_ble_eq_true rfl) (Nat.le_of_ble_eq_true rfl)
      · replace h := it_n c8 h
        refine aw_iload_n (pc' := 22) (i := 3) hC dX9_introduce_21 rfl rfl rfl ?_
        refine aw_if_lt (tgt := 35) (pc' := 25) hC dX9_introduce_22 (by decide) rfl (fun c9 => ?_) (fun c9 => ?_)
        · replace h := it_p c9 h
          refine aw_iconst (pc' := 36) hC dX9_introduce_35 rfl (by decide) ?_
          cases h
          exact aw_iret hC dX9_introduce_36 (Nat.le_of_ble_eq_true rfl) (Nat.le_of_ble_eq_true rfl)
        · replace h := it_n c9 h
          refine aw_iload (pc' := 27) hC dX9_introduce_25 rfl rfl ?_
          refine aw_iconst (pc' := 28) hC dX9_introduce_27 rfl (by decide) ?_
          refine aw_iconst (pc' := 29) hC dX9_introduce_28 rfl (by decide) ?_
          obtain ⟨x11, q10, h⟩ := pb_s h
          replace h := u1_s h
          refine aw_cS (pc' := 32) (k2 := 0) (n2 := 0) (st := []) (stN := [.inl x11]) hC [.inl v4, .inl 0, .inl 2] (mX9_is q10) lk_X9_314 dX9_introduce_29 rfl rfl (Nat.le_of_ble_eq_true rfl) (Nat.le_of_ble_eq_true rfl) (Nat.le_of_ble_eq_true rfl) rfl (Nat.le_of_ble_eq_true rfl) rfl rfl rfl ?_
          refine aw_if_ne (tgt := 37) (pc' := 35) hC dX9_introduce_32 (by decide) rfl (fun c12 => ?_) (fun c12 => ?_)
          · replace h := it_n c12 h
            refine aw_aload_n (pc' := 38) (i := 0) hC dX9_introduce_37 rfl rfl rfl ?_
            refine aw_iconst (pc' := 39) hC dX9_introduce_38 rfl (by decide) ?_
            refine aw_iload_n (pc' := 40) (i := 1) hC dX9_introduce_39 rfl rfl rfl ?_
            obtain ⟨x14, q13, h⟩ := pb_s h
            replace h := u1_s h
            refine aw_cV (pc' := 43) (k2 := 0) (n2 := 0) (st := []) (stN := [.inl x14]) hC [.inl 0, .inl v1] (mX9_heldBy q13) lk_X9_451 g2 dX9_introduce_40 rfl rfl (Nat.le_of_ble_eq_true rfl) (Nat.le_of_ble_eq_true rfl) (Nat.le_of_ble_eq_true rfl) rfl (Nat.le_of_ble_eq_true rfl) rfl rfl rfl ?_
            refine aw_istore (pc' := 45) (ls' := [some (.inr (.inr v0)), some (.inl v1), some (.inl v2), some (.inl v3), some (.inl v4), some (.inl x14), none, none, none, none, none]) hC dX9_introduce_43 rfl (Nat.le_of_ble_eq_true rfl) rfl rfl ?_
            refine aw_iconst (pc' := 46) hC dX9_introduce_45 rfl (by decide) ?_
            refine aw_istore (pc' := 48) (ls' := [some (.inr (.inr v0)), some (.inl v1), some (.inl v2), some (.inl v3), some (.inl v4), some (.inl x14), some (.inl 0), none, none, none, none]) hC dX9_introduce_46 rfl (Nat.le_of_ble_eq_true rfl) rfl rfl ?_
            refine aw_iconst (pc' := 49) hC dX9_introduce_48 rfl (by decide) ?_
            refine aw_istore (pc' := 51) (ls' := [some (.inr (.inr v0)), some (.inl v1), some (.inl v2), some (.inl v3), some (.inl v4), some (.inl x14), some (.inl 0), some (.inl 0), none, none, none]) hC dX9_introduce_49 rfl (Nat.le_of_ble_eq_true rfl) rfl rfl ?_
            obtain ⟨tq28, q28, h⟩ := pb_s h
            refine aw_sub hC [some (.inr (.inr v0)), some (.inl v1), some (.inl v2), some (.inl v3), some (.inl v4), some (.inl x14), some (.inl 0), some (.inl 0), none, none, none] ⟨rfl, ⟨rfl, ⟨rfl, ⟨rfl, ⟨rfl, ⟨rfl, ⟨rfl, ⟨rfl, trivial⟩⟩⟩⟩⟩⟩⟩⟩ (Nat.le_of_ble_eq_true rfl) ?_
            refine (lp_aw (p_X9_introduce_L51 Γ sh v0 v1 v2 v3 v4 x14 (fin_ Γ 0 0 (some (.inl r)) sh M')) (x_X9_introduce_L51 Γ sh v0 v1 v2 v3 v4 x14 (fin_ Γ 0 0 (some (.inl r)) sh M')) (w_X9_introduce_L51 hC ) FU _ _ q28 ?_ : p_X9_introduce_L51 Γ sh v0 v1 v2 v3 v4 x14 (fin_ Γ 0 0 (some (.inl r)) sh M') (0, 0, M))
            obtain ⟨x29, M30⟩ := tq28
            replace h := u2_s h
            show AW Γ sh M30 0 0 116 [some (.inr (.inr v0)), some (.inl v1), some (.inl v2), some (.inl v3), some (.inl v4), none, some (.inl x29), none, none, none, none] [] _
            refine aw_aload_n (pc' := 117) (i := 0) hC dX9_introduce_116 rfl rfl rfl ?_
            refine aw_iload_n (pc' := 118) (i := 1) hC dX9_introduce_117 rfl rfl rfl ?_
            refine aw_iload_n (pc' := 119) (i := 2) hC dX9_introduce_118 rfl rfl rfl ?_
            obtain ⟨x32, q31, h⟩ := pb_s h
            replace h := u1_s h
            refine aw_cV (pc' := 122) (k2 := 0) (n2 := 0) (st := []) (stN := [.inl x32]) hC [.inl v1, .inl v2] (mX9_spends q31) lk_X9_492 g2 dX9_introduce_119 rfl rfl (Nat.le_of_ble_eq_true rfl) (Nat.le_of_ble_eq_true rfl) (Nat.le_of_ble_eq_true rfl) rfl (Nat.le_of_ble_eq_true rfl) rfl rfl rfl ?_
            refine aw_istore (pc' := 124) (ls' := [some (.inr (.inr v0)), some (.inl v1), some (.inl v2), some (.inl v3), some (.inl v4), none, some (.inl x29), some (.inl x32), none, none, none]) hC dX9_introduce_122 rfl (Nat.le_of_ble_eq_true rfl) rfl rfl ?_
            refine aw_iconst (pc' := 125) hC dX9_introduce_124 rfl (by decide) ?_
            refine aw_istore (pc' := 127) (ls' := [some (.inr (.inr v0)), some (.inl v1), some (.inl v2), some (.inl v3), some (.inl v4), none, some (.inl x29), some (.inl x32), some (.inl (-1)), none, none]) hC dX9_introduce_125 rfl (Nat.le_of_ble_eq_true rfl) rfl rfl ?_
            refine aw_iconst (pc' := 128) hC dX9_introduce_127 rfl (by decide) ?_
            refine aw_istore (pc' := 130) (ls' := [some (.inr (.inr v0)), some (.inl v1), some (.inl v2), some (.inl v3), some (.inl v4), none, some (.inl x29), some (.inl x32), some (.inl (-1)), some (.inl 0), none]) hC dX9_introduce_128 rfl (Nat.le_of_ble_eq_true rfl) rfl rfl ?_
            obtain ⟨tq57, q57, h⟩ := pb_s h
            refine aw_sub hC [some (.inr (.inr v0)), none, none, some (.inl v3), some (.inl v4), none, some (.inl x29), some (.inl x32), some (.inl (-1)), some (.inl 0), none] ⟨rfl, ⟨rfl, ⟨rfl, ⟨rfl, ⟨rfl, ⟨rfl, ⟨rfl, trivial⟩⟩⟩⟩⟩⟩⟩ (Nat.le_of_ble_eq_true rfl) ?_
            refine (lp_aw (p_X9_introduce_L130 Γ sh M30 v0 v3 v4 x29 x32 (fin_ Γ 0 0 (some (.inl r)) sh M')) (x_X9_introduce_L130 Γ sh M30 v0 v3 v4 x29 x32 (fin_ Γ 0 0 (some (.inl r)) sh M')) (w_X9_introduce_L130 hC ) FU _ _ q57 ?_ : p_X9_introduce_L130 Γ sh M30 v0 v3 v4 x29 x32 (fin_ Γ 0 0 (some (.inl r)) sh M') ((-1), 0))
            replace h := u1_s h
            show AW Γ sh M30 0 0 246 [some (.inr (.inr v0)), none, none, none, some (.inl v4), none, none, some (.inl x32), some (.inl tq57), none, none] [] _
            refine aw_iload (pc' := 248) hC dX9_introduce_246 rfl rfl ?_
            refine aw_iconst (pc' := 249) hC dX9_introduce_248 rfl (by decide) ?_
            refine aw_icmp_ne (tgt := 256) (pc' := 252) hC dX9_introduce_249 (by decide) rfl (fun c58 => ?_) (fun c58 => ?_)
            · replace h := it_n c58 h
              refine aw_iload (pc' := 258) hC dX9_introduce_256 rfl rfl ?_
              refine aw_if_ne (tgt := 269) (pc' := 261) hC dX9_introduce_258 (by decide) rfl (fun c59 => ?_) (fun c59 => ?_)
              · replace h := it_n c59 h
                refine aw_iload (pc' := 271) hC dX9_introduce_269 rfl rfl ?_
                refine aw_iconst (pc' := 272) hC dX9_introduce_271 rfl (by decide) ?_
                refine aw_icmp_ne (tgt := 280) (pc' := 275) hC dX9_introduce_272 (by decide) rfl (fun c60 => ?_) (fun c60 => ?_)
                · replace h := it_n c60 h
                  refine aw_iload (pc' := 282) hC dX9_introduce_280 rfl rfl ?_
                  refine aw_aload_n (pc' := 283) (i := 0) hC dX9_introduce_282 rfl rfl rfl ?_
                  refine aw_iload (pc' := 285) hC dX9_introduce_283 rfl rfl ?_
                  obtain ⟨x62, q61, h⟩ := pb_s h
                  replace h := u1_s h
                  refine aw_cV (pc' := 288) (k2 := 0) (n2 := 0) (st := [.inl x32]) (stN := [.inl x62, .inl x32]) hC [.inl tq57] (mX9_worthAll q61) lk_X9_474 g2 dX9_introduce_285 rfl rfl (Nat.le_of_ble_eq_true rfl) (Nat.le_of_ble_eq_true rfl) (Nat.le_of_ble_eq_true rfl) rfl (Nat.le_of_ble_eq_true rfl) rfl rfl rfl ?_
                  refine aw_iadd (pc' := 289) hC dX9_introduce_288 rfl  ?_
                  cases h
                  exact aw_iret hC dX9_introduce_289 (Nat.le_of_ble_eq_true rfl) (Nat.le_of_ble_eq_true rfl)
                · replace h := it_p c60 h
                  refine aw_iload (pc' := 277) hC dX9_introduce_275 rfl rfl ?_
                  refine aw_goto (tgt := 289) hC dX9_introduce_277 (by decide) ?_
                  cases h
                  exact aw_iret hC dX9_introduce_289 (Nat.le_of_ble_eq_true rfl) (Nat.le_of_ble_eq_true rfl)
              · replace h := it_p c59 h
                refine aw_iload (pc' := 263) hC dX9_introduce_261 rfl rfl ?_
                obtain ⟨x64, q63, h⟩ := pb_s h
                replace h := u1_s h
                refine aw_cS (pc' := 266) (k2 := 0) (n2 := 0) (st := []) (stN := [.inl x64]) hC [.inl tq57] (mX9_bits q63) lk_X9_448 dX9_introduce_263 rfl rfl (Nat.le_of_ble_eq_true rfl) (Nat.le_of_ble_eq_true rfl) (Nat.le_of_ble_eq_true rfl) rfl (Nat.le_of_ble_eq_true rfl) rfl rfl rfl ?_
                refine aw_goto (tgt := 289) hC dX9_introduce_266 (by decide) ?_
                cases h
                exact aw_iret hC dX9_introduce_289 (Nat.le_of_ble_eq_true rfl) (Nat.le_of_ble_eq_true rfl)
            · replace h := it_p c58 h
              refine aw_iconst (pc' := 253) hC dX9_introduce_252 rfl (by decide) ?_
              refine aw_goto (tgt := 289) hC dX9_introduce_253 (by decide) ?_
              cases h
              exact aw_iret hC dX9_introduce_289 (Nat.le_of_ble_eq_true rfl) (Nat.le_of_ble_eq_true rfl)
          · replace h := it_p c12 h
            refine aw_iconst (pc' := 36) hC dX9_introduce_35 rfl (by decide) ?_
            cases h
            exact aw_iret hC dX9_introduce_36 (Nat.le_of_ble_eq_true rfl) (Nat.le_of_ble_eq_true rfl)
-- CoinCircleModel.reaches(IIII)V
def fX9_reaches (sh : AwS) (M : AwM) (v0 : Int) (v1 : Int) (v2 : Int) (v3 : Int) (v4 : Int) : Option (AwM) :=
  gd_ (kd_ sh v0 = (0, 9)) (gd_ ((kd_ sh (M v0 64)).1 = 1 ∧ (0 : Int) ≤ (w32 ((w32 (1024 * v1)) + v2)) ∧ (w32 ((w32 (1024 * v1)) + v2)) < ((kd_ sh (M v0 64)).2 : Int)) ((if (M (M v0 64) (w32 ((w32 (1024 * v1)) + v2))) = (-1) then bd_ (up_ M (M v0 64) (w32 ((w32 (1024 * v1)) + v2)) v4) fun (M4 : AwM) => (gd_ ((kd_ sh (M4 v0 63)).1 = 1 ∧ (0 : Int) ≤ (w32 ((w32 (1024 * v1)) + v2)) ∧ (w32 ((w32 (1024 * v1)) + v2)) < ((kd_ sh (M4 v0 63)).2 : Int)) (bd_ (up_ M4 (M4 v0 63) (w32 ((w32 (1024 * v1)) + v2)) v3) fun (M7 : AwM) => (gd_ ((kd_ sh (M7 v0 65)).1 = 1 ∧ (0 : Int) ≤ (M7 v0 66) ∧ (M7 v0 66) < ((kd_ sh (M7 v0 65)).2 : Int)) (bd_ (up_ M7 (M7 v0 65) (M7 v0 66) (w32 ((w32 (1024 * v1)) + v2))) fun (M10 : AwM) => (bd_ (up_ M10 v0 66 (w32 ((M10 v0 66) + 1))) fun (M12 : AwM) => (some M12)))))) else some M)))
set_option maxRecDepth 100000 in
set_option maxHeartbeats 4000000 in
theorem mX9_reaches {sh : AwS} {M : AwM} {v0 : Int} {v1 : Int} {v2 : Int} {v3 : Int} {v4 : Int} {M' : AwM} (h : fX9_reaches sh M v0 v1 v2 v3 v4 = some M') : AMet yX9_reaches cX9_reaches 6 none 1 0 0 [.inr (.inr v0), .inl v1, .inl v2, .inl v3, .inl v4] sh M none sh M' := by
  refine amet_of (by decide +kernel) (Nat.le_of_ble_eq_true rfl) (fun Γ hC => ?_)
  replace hC : AOK Γ RX9 cX9_reaches 6 1 0 0 "reaches" none := hC
  unfold fX9_reaches at h
  refine aw_sub hC [some (.inr (.inr v0)), some (.inl v1), some (.inl v2), some (.inl v3), some (.inl v4), none] ⟨rfl, ⟨rfl, ⟨rfl, ⟨rfl, ⟨rfl, trivial⟩⟩⟩⟩⟩ (Nat.le_of_ble_eq_true rfl) ?_
  refine aw_sipush (pc' := 3) hC dX9_reaches_0 rfl (by decide) ?_
  refine aw_iload_n (pc' := 4) (i := 1) hC dX9_reaches_3 rfl rfl rfl ?_
  refine aw_imul (pc' := 5) hC dX9_reaches_4 rfl  ?_
  refine aw_iload_n (pc' := 6) (i := 2) hC dX9_reaches_5 rfl rfl rfl ?_
  refine aw_iadd (pc' := 7) hC dX9_reaches_6 rfl  ?_
  refine aw_istore (pc' := 9) (ls' := [some (.inr (.inr v0)), some (.inl v1), some (.inl v2), some (.inl v3), some (.inl v4), some (.inl (w32 ((w32 (1024 * v1)) + v2)))]) hC dX9_reaches_7 rfl (Nat.le_of_ble_eq_true rfl) rfl rfl ?_
  refine aw_aload_n (pc' := 10) (i := 0) hC dX9_reaches_9 rfl rfl rfl ?_
  obtain ⟨g1, h⟩ := gd_s h
  refine aw_getfield (pc' := 13) (v := (.inr (.inr (M v0 64)))) hC dX9_reaches_10 rfl fl_X9_207 g1 rfl ?_
  refine aw_iload (pc' := 15) hC dX9_reaches_13 rfl rfl ?_
  obtain ⟨g2, h⟩ := gd_s h
  refine aw_iaload (pc' := 16) hC dX9_reaches_15 rfl g2 ?_
  refine aw_iconst (pc' := 17) hC dX9_reaches_16 rfl (by decide) ?_
  refine aw_icmp_eq (tgt := 21) (pc' := 20) hC dX9_reaches_17 (by decide) rfl (fun c3 => ?_) (fun c3 => ?_)
  · replace h := it_p c3 h
    refine aw_aload_n (pc' := 22) (i := 0) hC dX9_reaches_21 rfl rfl rfl ?_
    refine aw_getfield (pc' := 25) (v := (.inr (.inr (M v0 64)))) hC dX9_reaches_22 rfl fl_X9_207 g1 rfl ?_
    refine aw_iload (pc' := 27) hC dX9_reaches_25 rfl rfl ?_
    refine aw_iload (pc' := 29) hC dX9_reaches_27 rfl rfl ?_
    obtain ⟨M4, e5, h⟩ := bd_s h
    refine aw_ias (pc' := 30) hC dX9_reaches_29 rfl g2 e5 ?_
    refine aw_aload_n (pc' := 31) (i := 0) hC dX9_reaches_30 rfl rfl rfl ?_
    refine aw_getfield (pc' := 34) (v := (.inr (.inr (M4 v0 63)))) hC dX9_reaches_31 rfl fl_X9_204 g1 rfl ?_
    refine aw_iload (pc' := 36) hC dX9_reaches_34 rfl rfl ?_
    refine aw_iload_n (pc' := 37) (i := 3) hC dX9_reaches_36 rfl rfl rfl ?_
    obtain ⟨g6, h⟩ := gd_s h
    obtain ⟨M7, e8, h⟩ := bd_s h
    refine aw_ias (pc' := 38) hC dX9_reaches_37 rfl g6 e8 ?_
    refine aw_aload_n (pc' := 39) (i := 0) hC dX9_reaches_38 rfl rfl rfl ?_
    refine aw_getfield (pc' := 42) (v := (.inr (.inr (M7 v0 65)))) hC dX9_reaches_39 rfl fl_X9_210 g1 rfl ?_
    refine aw_aload_n (pc' := 43) (i := 0) hC dX9_reaches_42 rfl rfl rfl ?_
    refine aw_getfield (pc' := 46) (v := (.inl (M7 v0 66))) hC dX9_reaches_43 rfl fl_X9_213 g1 rfl ?_
    refine aw_iload (pc' := 48) hC dX9_reaches_46 rfl rfl ?_
    obtain ⟨g9, h⟩ := gd_s h
    obtain ⟨M10, e11, h⟩ := bd_s h
    refine aw_ias (pc' := 49) hC dX9_reaches_48 rfl g9 e11 ?_
    refine aw_aload_n (pc' := 50) (i := 0) hC dX9_reaches_49 rfl rfl rfl ?_
    refine aw_dup (pc' := 51) hC dX9_reaches_50 rfl rfl ?_
    refine aw_getfield (pc' := 54) (v := (.inl (M10 v0 66))) hC dX9_reaches_51 rfl fl_X9_213 g1 rfl ?_
    refine aw_iconst (pc' := 55) hC dX9_reaches_54 rfl (by decide) ?_
    refine aw_iadd (pc' := 56) hC dX9_reaches_55 rfl  ?_
    obtain ⟨M12, e13, h⟩ := bd_s h
    refine aw_pf (pc' := 59) hC dX9_reaches_56 rfl fp_X9_213 g1 rfl trivial e13 ?_
    cases h
    exact aw_vret hC dX9_reaches_59 (Nat.le_of_ble_eq_true rfl) (Nat.le_of_ble_eq_true rfl)
  · replace h := it_n c3 h
    cases h
    exact aw_vret hC dX9_reaches_20 (Nat.le_of_ble_eq_true rfl) (Nat.le_of_ble_eq_true rfl)
-- CoinCircleModel.goesOn(II)V
def fX9_goesOn__L35 (sh : AwS) (v0 : Int) (v1 : Int) (v2 : Int) (v3 : Int) (v4 : Int) (v5 : Int) (v6 : Int) (M : AwM) : Option ((Int × AwM) ⊕ (AwM)) :=
  gd_ (kd_ sh v0 = (0, 9)) (gd_ ((kd_ sh (M v0 14)).1 = 1 ∧ (0 : Int) ≤ (M v0 13) ∧ (M v0 13) < ((kd_ sh (M v0 14)).2 : Int)) ((if v6 < (M (M v0 14) (M v0 13)) then (if v6 = v3 then some (.inl ((w32 (v6 + 1)), M)) else pb (fX9_has2 sh M v4 v6) <| u1 fun (x11 : Int) => ((if x11 = 0 then some (.inl ((w32 (v6 + 1)), M)) else pb (fX9_reaches sh M v0 v6 v4 v2 v6) <| u1 fun (M14 : AwM) => (some (.inl ((w32 (v6 + 1)), M14)))))) else some (.inr M))))
def p_X9_goesOn__L35 (Γ : AwC) (sh : AwS) (v0 : Int) (v1 : Int) (v2 : Int) (v3 : Int) (v4 : Int) (v5 : Int) (Q : State → Prop) (s : Int × AwM) : Prop := AW Γ sh (s.2) 0 0 35 [some (.inr (.inr v0)), some (.inl v1), some (.inl v2), some (.inl v3), some (.inl v4), some (.inl v5), some (.inl (s.1))] [] Q
def x_X9_goesOn__L35 (Γ : AwC) (sh : AwS) (v0 : Int) (v1 : Int) (v2 : Int) (v3 : Int) (v4 : Int) (v5 : Int) (Q : State → Prop) : (AwM) → Prop := (fun (t : AwM) => AW Γ sh (t) 0 0 82 [some (.inr (.inr v0)), some (.inl v1), some (.inl v2), some (.inl v3), some (.inl v4), some (.inl v5), none] [] Q)
def fX9_goesOn__L85 (sh : AwS) (v0 : Int) (v1 : Int) (v2 : Int) (v3 : Int) (v4 : Int) (v5 : Int) (v6 : Int) (M : AwM) : Option ((Int × AwM) ⊕ (AwM)) :=
  gd_ (kd_ sh v0 = (0, 9)) (gd_ ((kd_ sh (M v0 14)).1 = 1 ∧ (0 : Int) ≤ (M v0 13) ∧ (M v0 13) < ((kd_ sh (M v0 14)).2 : Int)) ((if v6 < (M (M v0 14) (M v0 13)) then gd_ ((kd_ sh (M v0 51)).1 = 1 ∧ (0 : Int) ≤ v1 ∧ v1 < ((kd_ sh (M v0 51)).2 : Int)) (pb (fX9_has2 sh M (or_ v4 (M (M v0 51) v1)) v6) <| u1 fun (x21 : Int) => ((if x21 = 0 then pb (fX9_bits sh M v4) <| u1 fun (x24 : Int) => (gd_ ((kd_ sh (M v0 48)).1 = 1 ∧ (0 : Int) ≤ 0 ∧ 0 < ((kd_ sh (M v0 48)).2 : Int)) (pb (fX9_holdsTest sh M v0 v1 v3 v6 x24 v5 (M (M v0 48) 0)) <| u2 fun (x27 : Int) (M28 : AwM) => ((if x27 = 0 then some (.inl ((w32 (v6 + 1)), M28)) else pb (fX9_reaches sh M28 v0 v3 (or_ v4 (sl_ 1 v6)) v2 (w32 (10 + v6))) <| u1 fun (M31 : AwM) => (some (.inl ((w32 (v6 + 1)), M31))))))) else some (.inl ((w32 (v6 + 1)), M))))) else some (.inr M))))
def p_X9_goesOn__L85 (Γ : AwC) (sh : AwS) (v0 : Int) (v1 : Int) (v2 : Int) (v3 : Int) (v4 : Int) (v5 : Int) (Q : State → Prop) (s : Int × AwM) : Prop := AW Γ sh (s.2) 0 0 85 [some (.inr (.inr v0)), some (.inl v1), some (.inl v2), some (.inl v3), some (.inl v4), some (.inl v5), some (.inl (s.1))] [] Q
def x_X9_goesOn__L85 (Γ : AwC) (sh : AwS) (v0 : Int) (v1 : Int) (v2 : Int) (v3 : Int) (v4 : Int) (v5 : Int) (Q : State → Prop) : (AwM) → Prop := (fun (t : AwM) => AW Γ sh (t) 0 0 164 [none, none, none, none, none, none, none] [] Q)
def fX9_goesOn_ (sh : AwS) (M : AwM) (v0 : Int) (v1 : Int) (v2 : Int) : Option (AwM) :=
  gd_ (kd_ sh v0 = (0, 9)) (pb (fX9_heldBy sh M v0 0 (w32 (v2.tdiv 1024))) <| u1 fun (x3 : Int) => (pb (fX9_bits sh M (an_ x3 (xo_ (sl_ 1 v1) (-1)))) <| u1 fun (x5 : Int) => (pb (lp (u2 (fX9_goesOn__L35 sh v0 v1 v2 (w32 (v2.tdiv 1024)) (v2.tmod 1024) (w32 (x5 + 1)))) FU (0, M)) (u1 (fun (tq15 : AwM) => pb (lp (u2 (fX9_goesOn__L85 sh v0 v1 v2 (w32 (v2.tdiv 1024)) (v2.tmod 1024) (w32 (x5 + 1)))) FU (0, tq15)) (u1 (fun (tq32 : AwM) => some tq32)))))))
set_option maxRecDepth 100000 in
set_option maxHeartbeats 4000000 in
theorem w_X9_goesOn__L35 {Γ : AwC} (hC : AOK Γ RX9 cX9_goesOn_ 7 5 0 0 "goesOn" none) {sh : AwS} {v0 : Int} {v1 : Int} {v2 : Int} {v3 : Int} {v4 : Int} {v5 : Int} {Q : State → Prop} : ∀ s r, u2 (fX9_goesOn__L35 sh v0 v1 v2 v3 v4 v5) s = some r → (∀ s', r = .inl s' → p_X9_goesOn__L35 Γ sh v0 v1 v2 v3 v4 v5 Q s') → (∀ t, r = .inr t → x_X9_goesOn__L35 Γ sh v0 v1 v2 v3 v4 v5 Q t) → p_X9_goesOn__L35 Γ sh v0 v1 v2 v3 v4 v5 Q s := by
  intro s r h hL hX
  obtain ⟨v6, M⟩ := s
  replace h := u2_s h
  unfold fX9_goesOn__L35 at h
  show AW Γ sh M 0 0 35 [some (.inr (.inr v0)), some (.inl v1), some (.inl v2), some (.inl v3), some (.inl v4), some (.inl v5), some (.inl v6)] [] Q
  refine aw_iload (pc' := 37) hC dX9_goesOn__35 rfl rfl ?_
  refine aw_aload_n (pc' := 38) (i := 0) hC dX9_goesOn__37 rfl rfl rfl ?_
  obtain ⟨g6, h⟩ := gd_s h
  refine aw_getfield (pc' := 41) (v := (.inr (.inr (M v0 14)))) hC dX9_goesOn__38 rfl fl_X9_54 g6 rfl ?_
  refine aw_aload_n (pc' := 42) (i := 0) hC dX9_goesOn__41 rfl rfl rfl ?_
  refine aw_getfield (pc' := 45) (v := (.inl (M v0 13))) hC dX9_goesOn__42 rfl fl_X9_51 g6 rfl ?_
  obtain ⟨g7, h⟩ := gd_s h
  refine aw_iaload (pc' := 46) hC dX9_goesOn__45 rfl g7 ?_
  refine aw_icmp_ge (tgt := 82) (pc' := 49) hC dX9_goesOn__46 (by decide) rfl (fun c8 => ?_) (fun c8 => ?_)
  · replace h := it_n c8 h
    refine aw_sub hC [some (.inr (.inr v0)), some (.inl v1), some (.inl v2), some (.inl v3), some (.inl v4), some (.inl v5), none] ⟨rfl, ⟨rfl, ⟨rfl, ⟨rfl, ⟨rfl, ⟨rfl, trivial⟩⟩⟩⟩⟩⟩ (Nat.le_of_ble_eq_true rfl) ?_
    cases h
    exact hX _ rfl
  · replace h := it_p c8 h
    refine aw_iload (pc' := 51) hC dX9_goesOn__49 rfl rfl ?_
    refine aw_iload_n (pc' := 52) (i := 3) hC dX9_goesOn__51 rfl rfl rfl ?_
    refine aw_icmp_eq (tgt := 76) (pc' := 55) hC dX9_goesOn__52 (by decide) rfl (fun c9 => ?_) (fun c9 => ?_)
    · replace h := it_p c9 h
      refine aw_iinc (pc' := 79) (ls' := [some (.inr (.inr v0)), some (.inl v1), some (.inl v2), some (.inl v3), some (.inl v4), some (.inl v5), some (.inl (w32 (v6 + 1)))]) hC dX9_goesOn__76 rfl rfl rfl rfl ?_
      refine aw_goto (tgt := 35) hC dX9_goesOn__79 (by decide) ?_
      refine aw_sub hC [some (.inr (.inr v0)), some (.inl v1), some (.inl v2), some (.inl v3), some (.inl v4), some (.inl v5), some (.inl (w32 (v6 + 1)))] ⟨rfl, ⟨rfl, ⟨rfl, ⟨rfl, ⟨rfl, ⟨rfl, ⟨rfl, trivial⟩⟩⟩⟩⟩⟩⟩ (Nat.le_of_ble_eq_true rfl) ?_
      cases h
      exact hL _ rfl
    · replace h := it_n c9 h
      refine aw_iload (pc' := 57) hC dX9_goesOn__55 rfl rfl ?_
      refine aw_iload (pc' := 59) hC dX9_goesOn__57 rfl rfl ?_
      obtain ⟨x11, q10, h⟩ := pb_s h
      replace h := u1_s h
      refine aw_cS (pc' := 62) (k2 := 0) (n2 := 0) (st := []) (stN := [.inl x11]) hC [.inl v4, .inl v6] (mX9_has2 q10) lk_X9_373 dX9_goesOn__59 rfl rfl (Nat.le_of_ble_eq_true rfl) (Nat.le_of_ble_eq_true rfl) (Nat.le_of_ble_eq_true rfl) rfl (Nat.le_of_ble_eq_true rfl) rfl rfl rfl ?_
      refine aw_if_eq (tgt := 76) (pc' := 65) hC dX9_goesOn__62 (by decide) rfl (fun c12 => ?_) (fun c12 => ?_)
      · replace h := it_p c12 h
        refine aw_iinc (pc' := 79) (ls' := [some (.inr (.inr v0)), some (.inl v1), some (.inl v2), some (.inl v3), some (.inl v4), some (.inl v5), some (.inl (w32 (v6 + 1)))]) hC dX9_goesOn__76 rfl rfl rfl rfl ?_
        refine aw_goto (tgt := 35) hC dX9_goesOn__79 (by decide) ?_
        refine aw_sub hC [some (.inr (.inr v0)), some (.inl v1), some (.inl v2), some (.inl v3), some (.inl v4), some (.inl v5), some (.inl (w32 (v6 + 1)))] ⟨rfl, ⟨rfl, ⟨rfl, ⟨rfl, ⟨rfl, ⟨rfl, ⟨rfl, trivial⟩⟩⟩⟩⟩⟩⟩ (Nat.le_of_ble_eq_true rfl) ?_
        cases h
        exact hL _ rfl
      · replace h := it_n c12 h
        refine aw_aload_n (pc' := 66) (i := 0) hC dX9_goesOn__65 rfl rfl rfl ?_
        refine aw_iload (pc' := 68) hC dX9_goesOn__66 rfl rfl ?_
        refine aw_iload (pc' := 70) hC dX9_goesOn__68 rfl rfl ?_
        refine aw_iload_n (pc' := 71) (i := 2) hC dX9_goesOn__70 rfl rfl rfl ?_
        refine aw_iload (pc' := 73) hC dX9_goesOn__71 rfl rfl ?_
        obtain ⟨M14, q13, h⟩ := pb_s h
        replace h := u1_s h
        refine aw_cV (pc' := 76) (k2 := 0) (n2 := 0) (st := []) (stN := []) hC [.inl v6, .inl v4, .inl v2, .inl v6] (mX9_reaches q13) lk_X9_531 g6 dX9_goesOn__73 rfl rfl (Nat.le_of_ble_eq_true rfl) (Nat.le_of_ble_eq_true rfl) (Nat.le_of_ble_eq_true rfl) rfl (Nat.le_of_ble_eq_true rfl) rfl rfl rfl ?_
        refine aw_iinc (pc' := 79) (ls' := [some (.inr (.inr v0)), some (.inl v1), some (.inl v2), some (.inl v3), some (.inl v4), some (.inl v5), some (.inl (w32 (v6 + 1)))]) hC dX9_goesOn__76 rfl rfl rfl rfl ?_
        refine aw_goto (tgt := 35) hC dX9_goesOn__79 (by decide) ?_
        refine aw_sub hC [some (.inr (.inr v0)), some (.inl v1), some (.inl v2), some (.inl v3), some (.inl v4), some (.inl v5), some (.inl (w32 (v6 + 1)))] ⟨rfl, ⟨rfl, ⟨rfl, ⟨rfl, ⟨rfl, ⟨rfl, ⟨rfl, trivial⟩⟩⟩⟩⟩⟩⟩ (Nat.le_of_ble_eq_true rfl) ?_
        cases h
        exact hL _ rfl
set_option maxRecDepth 100000 in
set_option maxHeartbeats 4000000 in
theorem w_X9_goesOn__L85 {Γ : AwC} (hC : AOK Γ RX9 cX9_goesOn_ 7 5 0 0 "goesOn" none) {sh : AwS} {v0 : Int} {v1 : Int} {v2 : Int} {v3 : Int} {v4 : Int} {v5 : Int} {Q : State → Prop} : ∀ s r, u2 (fX9_goesOn__L85 sh v0 v1 v2 v3 v4 v5) s = some r → (∀ s', r = .inl s' → p_X9_goesOn__L85 Γ sh v0 v1 v2 v3 v4 v5 Q s') → (∀ t, r = .inr t → x_X9_goesOn__L85 Γ sh v0 v1 v2 v3 v4 v5 Q t) → p_X9_goesOn__L85 Γ sh v0 v1 v2 v3 v4 v5 Q s := by
  intro s r h hL hX
  obtain ⟨v6, M⟩ := s
  replace h := u2_s h
  unfold fX9_goesOn__L85 at h
  show AW Γ sh M 0 0 85 [some (.inr (.inr v0)), some (.inl v1), some (.inl v2), some (.inl v3), some (.inl v4), some (.inl v5), some (.inl v6)] [] Q
  refine aw_iload (pc' := 87) hC dX9_goesOn__85 rfl rfl ?_
  refine aw_aload_n (pc' := 88) (i := 0) hC dX9_goesOn__87 rfl rfl rfl ?_
  obtain ⟨g16, h⟩ := gd_s h
  refine aw_getfield (pc' := 91) (v := (.inr (.inr (M v0 14)))) hC dX9_goesOn__88 rfl fl_X9_54 g16 rfl ?_
  refine aw_aload_n (pc' := 92) (i := 0) hC dX9_goesOn__91 rfl rfl rfl ?_
  refine aw_getfield (pc' := 95) (v := (.inl (M v0 13))) hC dX9_goesOn__92 rfl fl_X9_51 g16 rfl ?_
  obtain ⟨g17, h⟩ := gd_s h
  refine aw_iaload (pc' := 96) hC dX9_goesOn__95 rfl g17 ?_
  refine aw_icmp_ge (tgt := 164) (pc' := 99) hC dX9_goesOn__96 (by decide) rfl (fun c18 => ?_) (fun c18 => ?_)
  · replace h := it_n c18 h
    refine aw_sub hC [none, none, none, none, none, none, none] trivial (Nat.le_of_ble_eq_true rfl) ?_
    cases h
    exact hX _ rfl
  · replace h := it_p c18 h
    refine aw_iload (pc' := 101) hC dX9_goesOn__99 rfl rfl ?_
    refine aw_aload_n (pc' := 102) (i := 0) hC dX9_goesOn__101 rfl rfl rfl ?_
    refine aw_getfield (pc' := 105) (v := (.inr (.inr (M v0 51)))) hC dX9_goesOn__102 rfl fl_X9_168 g16 rfl ?_
    refine aw_iload_n (pc' := 106) (i := 1) hC dX9_goesOn__105 rfl rfl rfl ?_
    obtain ⟨g19, h⟩ := gd_s h
    refine aw_iaload (pc' := 107) hC dX9_goesOn__106 rfl g19 ?_
    refine aw_ior (pc' := 108) hC dX9_goesOn__107 rfl  ?_
    refine aw_iload (pc' := 110) hC dX9_goesOn__108 rfl rfl ?_
    obtain ⟨x21, q20, h⟩ := pb_s h
    replace h := u1_s h
    refine aw_cS (pc' := 113) (k2 := 0) (n2 := 0) (st := []) (stN := [.inl x21]) hC [.inl (or_ v4 (M (M v0 51) v1)), .inl v6] (mX9_has2 q20) lk_X9_373 dX9_goesOn__110 rfl rfl (Nat.le_of_ble_eq_true rfl) (Nat.le_of_ble_eq_true rfl) (Nat.le_of_ble_eq_true rfl) rfl (Nat.le_of_ble_eq_true rfl) rfl rfl rfl ?_
    refine aw_if_ne (tgt := 158) (pc' := 116) hC dX9_goesOn__113 (by decide) rfl (fun c22 => ?_) (fun c22 => ?_)
    · replace h := it_n c22 h
      refine aw_iinc (pc' := 161) (ls' := [some (.inr (.inr v0)), some (.inl v1), some (.inl v2), some (.inl v3), some (.inl v4), some (.inl v5), some (.inl (w32 (v6 + 1)))]) hC dX9_goesOn__158 rfl rfl rfl rfl ?_
      refine aw_goto (tgt := 85) hC dX9_goesOn__161 (by decide) ?_
      refine aw_sub hC [some (.inr (.inr v0)), some (.inl v1), some (.inl v2), some (.inl v3), some (.inl v4), some (.inl v5), some (.inl (w32 (v6 + 1)))] ⟨rfl, ⟨rfl, ⟨rfl, ⟨rfl, ⟨rfl, ⟨rfl, ⟨rfl, trivial⟩⟩⟩⟩⟩⟩⟩ (Nat.le_of_ble_eq_true rfl) ?_
      cases h
      exact hL _ rfl
    · replace h := it_p c22 h
      refine aw_aload_n (pc' := 117) (i := 0) hC dX9_goesOn__116 rfl rfl rfl ?_
      refine aw_iload_n (pc' := 118) (i := 1) hC dX9_goesOn__117 rfl rfl rfl ?_
      refine aw_iload_n (pc' := 119) (i := 3) hC dX9_goesOn__118 rfl rfl rfl ?_
      refine aw_iload (pc' := 121) hC dX9_goesOn__119 rfl rfl ?_
      refine aw_iload (pc' := 123) hC dX9_goesOn__121 rfl rfl ?_
      obtain ⟨x24, q23, h⟩ := pb_s h
      replace h := u1_s h
      refine aw_cS (pc' := 126) (k2 := 0) (n2 := 0) (st := [.inl v6, .inl v3, .inl v1, .inr (.inr v0)]) (stN := [.inl x24, .inl v6, .inl v3, .inl v1, .inr (.inr v0)]) hC [.inl v4] (mX9_bits q23) lk_X9_448 dX9_goesOn__123 rfl rfl (Nat.le_of_ble_eq_true rfl) (Nat.le_of_ble_eq_true rfl) (Nat.le_of_ble_eq_true rfl) rfl (Nat.le_of_ble_eq_true rfl) rfl rfl rfl ?_
      refine aw_iload (pc' := 128) hC dX9_goesOn__126 rfl rfl ?_
      refine aw_aload_n (pc' := 129) (i := 0) hC dX9_goesOn__128 rfl rfl rfl ?_
      refine aw_getfield (pc' := 132) (v := (.inr (.inr (M v0 48)))) hC dX9_goesOn__129 rfl fl_X9_159 g16 rfl ?_
      refine aw_iconst (pc' := 133) hC dX9_goesOn__132 rfl (by decide) ?_
      obtain ⟨g25, h⟩ := gd_s h
      refine aw_iaload (pc' := 134) hC dX9_goesOn__133 rfl g25 ?_
      obtain ⟨⟨x27, M28⟩, q26, h⟩ := pb_s h
      replace h := u2_s h
      refine aw_cV (pc' := 137) (k2 := 0) (n2 := 0) (st := []) (stN := [.inl x27]) hC [.inl v1, .inl v3, .inl v6, .inl x24, .inl v5, .inl (M (M v0 48) 0)] (mX9_holdsTest q26) lk_X9_454 g16 dX9_goesOn__134 rfl rfl (Nat.le_of_ble_eq_true rfl) (Nat.le_of_ble_eq_true rfl) (Nat.le_of_ble_eq_true rfl) rfl (Nat.le_of_ble_eq_true rfl) rfl rfl rfl ?_
      refine aw_if_eq (tgt := 158) (pc' := 140) hC dX9_goesOn__137 (by decide) rfl (fun c29 => ?_) (fun c29 => ?_)
      · replace h := it_p c29 h
        refine aw_iinc (pc' := 161) (ls' := [some (.inr (.inr v0)), some (.inl v1), some (.inl v2), some (.inl v3), some (.inl v4), some (.inl v5), some (.inl (w32 (v6 + 1)))]) hC dX9_goesOn__158 rfl rfl rfl rfl ?_
        refine aw_goto (tgt := 85) hC dX9_goesOn__161 (by decide) ?_
        refine aw_sub hC [some (.inr (.inr v0)), some (.inl v1), some (.inl v2), some (.inl v3), some (.inl v4), some (.inl v5), some (.inl (w32 (v6 + 1)))] ⟨rfl, ⟨rfl, ⟨rfl, ⟨rfl, ⟨rfl, ⟨rfl, ⟨rfl, trivial⟩⟩⟩⟩⟩⟩⟩ (Nat.le_of_ble_eq_true rfl) ?_
        cases h
        exact hL _ rfl
      · replace h := it_n c29 h
        refine aw_aload_n (pc' := 141) (i := 0) hC dX9_goesOn__140 rfl rfl rfl ?_
        refine aw_iload_n (pc' := 142) (i := 3) hC dX9_goesOn__141 rfl rfl rfl ?_
        refine aw_iload (pc' := 144) hC dX9_goesOn__142 rfl rfl ?_
        refine aw_iconst (pc' := 145) hC dX9_goesOn__144 rfl (by decide) ?_
        refine aw_iload (pc' := 147) hC dX9_goesOn__145 rfl rfl ?_
        refine aw_ishl (pc' := 148) hC dX9_goesOn__147 rfl  ?_
        refine aw_ior (pc' := 149) hC dX9_goesOn__148 rfl  ?_
        refine aw_iload_n (pc' := 150) (i := 2) hC dX9_goesOn__149 rfl rfl rfl ?_
        refine aw_bipush (pc' := 152) hC dX9_goesOn__150 rfl (by decide) ?_
        refine aw_iload (pc' := 154) hC dX9_goesOn__152 rfl rfl ?_
        refine aw_iadd (pc' := 155) hC dX9_goesOn__154 rfl  ?_
        obtain ⟨M31, q30, h⟩ := pb_s h
        replace h := u1_s h
        refine aw_cV (pc' := 158) (k2 := 0) (n2 := 0) (st := []) (stN := []) hC [.inl v3, .inl (or_ v4 (sl_ 1 v6)), .inl v2, .inl (w32 (10 + v6))] (mX9_reaches q30) lk_X9_531 g16 dX9_goesOn__155 rfl rfl (Nat.le_of_ble_eq_true rfl) (Nat.le_of_ble_eq_true rfl) (Nat.le_of_ble_eq_true rfl) rfl (Nat.le_of_ble_eq_true rfl) rfl rfl rfl ?_
        refine aw_iinc (pc' := 161) (ls' := [some (.inr (.inr v0)), some (.inl v1), some (.inl v2), some (.inl v3), some (.inl v4), some (.inl v5), some (.inl (w32 (v6 + 1)))]) hC dX9_goesOn__158 rfl rfl rfl rfl ?_
        refine aw_goto (tgt := 85) hC dX9_goesOn__161 (by decide) ?_
        refine aw_sub hC [some (.inr (.inr v0)), some (.inl v1), some (.inl v2), some (.inl v3), some (.inl v4), some (.inl v5), some (.inl (w32 (v6 + 1)))] ⟨rfl, ⟨rfl, ⟨rfl, ⟨rfl, ⟨rfl, ⟨rfl, ⟨rfl, trivial⟩⟩⟩⟩⟩⟩⟩ (Nat.le_of_ble_eq_true rfl) ?_
        cases h
        exact hL _ rfl
set_option maxRecDepth 100000 in
set_option maxHeartbeats 4000000 in
theorem mX9_goesOn_ {sh : AwS} {M : AwM} {v0 : Int} {v1 : Int} {v2 : Int} {M' : AwM} (h : fX9_goesOn_ sh M v0 v1 v2 = some M') : AMet yX9_goesOn_ cX9_goesOn_ 7 none 5 0 0 [.inr (.inr v0), .inl v1, .inl v2] sh M none sh M' := by
  refine amet_of (by decide +kernel) (Nat.le_of_ble_eq_true rfl) (fun Γ hC => ?_)
  replace hC : AOK Γ RX9 cX9_goesOn_ 7 5 0 0 "goesOn" none := hC
  unfold fX9_goesOn_ at h
  refine aw_sub hC [some (.inr (.inr v0)), some (.inl v1), some (.inl v2), none, none, none, none] ⟨rfl, ⟨rfl, ⟨rfl, trivial⟩⟩⟩ (Nat.le_of_ble_eq_true rfl) ?_
  refine aw_iload_n (pc' := 1) (i := 2) hC dX9_goesOn__0 rfl rfl rfl ?_
  refine aw_sipush (pc' := 4) hC dX9_goesOn__1 rfl (by decide) ?_
  refine aw_idiv (pc' := 5) hC dX9_goesOn__4 rfl (by decide) ?_
  refine aw_istore_n (pc' := 6) (i := 3) (ls' := [some (.inr (.inr v0)), some (.inl v1), some (.inl v2), some (.inl (w32 (v2.tdiv 1024))), none, none, none]) hC dX9_goesOn__5 rfl rfl (Nat.le_of_ble_eq_true rfl) rfl rfl ?_
  refine aw_iload_n (pc' := 7) (i := 2) hC dX9_goesOn__6 rfl rfl rfl ?_
  refine aw_sipush (pc' := 10) hC dX9_goesOn__7 rfl (by decide) ?_
  refine aw_irem (pc' := 11) hC dX9_goesOn__10 rfl (by decide) ?_
  refine aw_istore (pc' := 13) (ls' := [some (.inr (.inr v0)), some (.inl v1), some (.inl v2), some (.inl (w32 (v2.tdiv 1024))), some (.inl (v2.tmod 1024)), none, none]) hC dX9_goesOn__11 rfl (Nat.le_of_ble_eq_true rfl) rfl rfl ?_
  refine aw_aload_n (pc' := 14) (i := 0) hC dX9_goesOn__13 rfl rfl rfl ?_
  refine aw_iconst (pc' := 15) hC dX9_goesOn__14 rfl (by decide) ?_
  refine aw_iload_n (pc' := 16) (i := 3) hC dX9_goesOn__15 rfl rfl rfl ?_
  obtain ⟨g2, h⟩ := gd_s h
  obtain ⟨x3, q1, h⟩ := pb_s h
  replace h := u1_s h
  refine aw_cV (pc' := 19) (k2 := 0) (n2 := 0) (st := []) (stN := [.inl x3]) hC [.inl 0, .inl (w32 (v2.tdiv 1024))] (mX9_heldBy q1) lk_X9_451 g2 dX9_goesOn__16 rfl rfl (Nat.le_of_ble_eq_true rfl) (Nat.le_of_ble_eq_true rfl) (Nat.le_of_ble_eq_true rfl) rfl (Nat.le_of_ble_eq_true rfl) rfl rfl rfl ?_
  refine aw_iconst (pc' := 20) hC dX9_goesOn__19 rfl (by decide) ?_
  refine aw_iload_n (pc' := 21) (i := 1) hC dX9_goesOn__20 rfl rfl rfl ?_
  refine aw_ishl (pc' := 22) hC dX9_goesOn__21 rfl  ?_
  refine aw_iconst (pc' := 23) hC dX9_goesOn__22 rfl (by decide) ?_
  refine aw_ixor (pc' := 24) hC dX9_goesOn__23 rfl  ?_
  refine aw_iand (pc' := 25) hC dX9_goesOn__24 rfl  ?_
  obtain ⟨x5, q4, h⟩ := pb_s h
  replace h := u1_s h
  refine aw_cS (pc' := 28) (k2 := 0) (n2 := 0) (st := []) (stN := [.inl x5]) hC [.inl (an_ x3 (xo_ (sl_ 1 v1) (-1)))] (mX9_bits q4) lk_X9_448 dX9_goesOn__25 rfl rfl (Nat.le_of_ble_eq_true rfl) (Nat.le_of_ble_eq_true rfl) (Nat.le_of_ble_eq_true rfl) rfl (Nat.le_of_ble_eq_true rfl) rfl rfl rfl ?_
  refine aw_iconst (pc' := 29) hC dX9_goesOn__28 rfl (by decide) ?_
  refine aw_iadd (pc' := 30) hC dX9_goesOn__29 rfl  ?_
  refine aw_istore (pc' := 32) (ls' := [some (.inr (.inr v0)), some (.inl v1), some (.inl v2), some (.inl (w32 (v2.tdiv 1024))), some (.inl (v2.tmod 1024)), some (.inl (w32 (x5 + 1))), none]) hC dX9_goesOn__30 rfl (Nat.le_of_ble_eq_true rfl) rfl rfl ?_
  refine aw_iconst (pc' := 33) hC dX9_goesOn__32 rfl (by decide) ?_
  refine aw_istore (pc' := 35) (ls' := [some (.inr (.inr v0)), some (.inl v1), some (.inl v2), some (.inl (w32 (v2.tdiv 1024))), some (.inl (v2.tmod 1024)), some (.inl (w32 (x5 + 1))), some (.inl 0)]) hC dX9_goesOn__33 rfl (Nat.le_of_ble_eq_true rfl) rfl rfl ?_
  obtain ⟨tq15, q15, h⟩ := pb_s h
  refine aw_sub hC [some (.inr (.inr v0)), some (.inl v1), some (.inl v2), some (.inl (w32 (v2.tdiv 1024))), some (.inl (v2.tmod 1024)), some (.inl (w32 (x5 + 1))), some (.inl 0)] ⟨rfl, ⟨rfl, ⟨rfl, ⟨rfl, ⟨rfl, ⟨rfl, ⟨rfl, trivial⟩⟩⟩⟩⟩⟩⟩ (Nat.le_of_ble_eq_true rfl) ?_
  refine (lp_aw (p_X9_goesOn__L35 Γ sh v0 v1 v2 (w32 (v2.tdiv 1024)) (v2.tmod 1024) (w32 (x5 + 1)) (fin_ Γ 0 0 none sh M')) (x_X9_goesOn__L35 Γ sh v0 v1 v2 (w32 (v2.tdiv 1024)) (v2.tmod 1024) (w32 (x5 + 1)) (fin_ Γ 0 0 none sh M')) (w_X9_goesOn__L35 hC ) FU _ _ q15 ?_ : p_X9_goesOn__L35 Γ sh v0 v1 v2 (w32 (v2.tdiv 1024)) (v2.tmod 1024) (w32 (x5 + 1)) (fin_ Γ 0 0 none sh M') (0, M))
  replace h := u1_s h
  show AW Γ sh tq15 0 0 82 [some (.inr (.inr v0)), some (.inl v1), some (.inl v2), some (.inl (w32 (v2.tdiv 1024))), some (.inl (v2.tmod 1024)), some (.inl (w32 (x5 + 1))), none] [] _
  refine aw_iconst (pc' := 83) hC dX9_goesOn__82 rfl (by decide) ?_
  refine aw_istore (pc' := 85) (ls' := [some (.inr (.inr v0)), some (.inl v1), some (.inl v2), some (.inl (w32 (v2.tdiv 1024))), some (.inl (v2.tmod 1024)), some (.inl (w32 (x5 + 1))), some (.inl 0)]) hC dX9_goesOn__83 rfl (Nat.le_of_ble_eq_true rfl) rfl rfl ?_
  obtain ⟨tq32, q32, h⟩ := pb_s h
  refine aw_sub hC [some (.inr (.inr v0)), some (.inl v1), some (.inl v2), some (.inl (w32 (v2.tdiv 1024))), some (.inl (v2.tmod 1024)), some (.inl (w32 (x5 + 1))), some (.inl 0)] ⟨rfl, ⟨rfl, ⟨rfl, ⟨rfl, ⟨rfl, ⟨rfl, ⟨rfl, trivial⟩⟩⟩⟩⟩⟩⟩ (Nat.le_of_ble_eq_true rfl) ?_
  refine (lp_aw (p_X9_goesOn__L85 Γ sh v0 v1 v2 (w32 (v2.tdiv 1024)) (v2.tmod 1024) (w32 (x5 + 1)) (fin_ Γ 0 0 none sh M')) (x_X9_goesOn__L85 Γ sh v0 v1 v2 (w32 (v2.tdiv 1024)) (v2.tmod 1024) (w32 (x5 + 1)) (fin_ Γ 0 0 none sh M')) (w_X9_goesOn__L85 hC ) FU _ _ q32 ?_ : p_X9_goesOn__L85 Γ sh v0 v1 v2 (w32 (v2.tdiv 1024)) (v2.tmod 1024) (w32 (x5 + 1)) (fin_ Γ 0 0 none sh M') (0, tq15))
  replace h := u1_s h
  show AW Γ sh tq32 0 0 164 [none, none, none, none, none, none, none] [] _
  cases h
  exact aw_vret hC dX9_goesOn__164 (Nat.le_of_ble_eq_true rfl) (Nat.le_of_ble_eq_true rfl)
-- CoinCircleModel.findsState(II)I
def fX9_findsState_L2 (sh : AwS) (v0 : Int) (v1 : Int) (v2 : Int) (v3 : Int) (M : AwM) : Option ((Int × AwM) ⊕ (AwM)) :=
  (if v3 < 10240 then gd_ (kd_ sh v0 = (0, 9)) (gd_ ((kd_ sh (M v0 64)).1 = 1 ∧ (0 : Int) ≤ v3 ∧ v3 < ((kd_ sh (M v0 64)).2 : Int)) (bd_ (up_ M (M v0 64) v3 (-1)) fun (M4 : AwM) => (some (.inl ((w32 (v3 + 1)), M4))))) else some (.inr M))
def p_X9_findsState_L2 (Γ : AwC) (sh : AwS) (v0 : Int) (v1 : Int) (v2 : Int) (Q : State → Prop) (s : Int × AwM) : Prop := AW Γ sh (s.2) 0 0 2 [some (.inr (.inr v0)), some (.inl v1), some (.inl v2), some (.inl (s.1))] [] Q
def x_X9_findsState_L2 (Γ : AwC) (sh : AwS) (v0 : Int) (v1 : Int) (v2 : Int) (Q : State → Prop) : (AwM) → Prop := (fun (t : AwM) => AW Γ sh (t) 0 0 22 [some (.inr (.inr v0)), some (.inl v1), some (.inl v2), none] [] Q)
def fX9_findsState_L49 (sh : AwS) (v0 : Int) (v1 : Int) (v2 : Int) (v3 : Int) (M : AwM) : Option ((Int × AwM) ⊕ ((AwM) ⊕ (Int × AwM))) :=
  gd_ (kd_ sh v0 = (0, 9)) ((if v3 < (M v0 66) then gd_ ((kd_ sh (M v0 65)).1 = 1 ∧ (0 : Int) ≤ v3 ∧ v3 < ((kd_ sh (M v0 65)).2 : Int)) ((if (w32 (((M (M v0 65) v3) : Int).tdiv 1024)) = v2 then some (.inr (.inr (v3, M))) else pb (fX9_goesOn_ sh M v0 v1 (M (M v0 65) v3)) <| u1 fun (M19 : AwM) => (some (.inl ((w32 (v3 + 1)), M19))))) else some (.inr (.inl M))))
def p_X9_findsState_L49 (Γ : AwC) (sh : AwS) (v0 : Int) (v1 : Int) (v2 : Int) (Q : State → Prop) (s : Int × AwM) : Prop := AW Γ sh (s.2) 0 0 49 [some (.inr (.inr v0)), some (.inl v1), some (.inl v2), some (.inl (s.1))] [] Q
def x_X9_findsState_L49 (Γ : AwC) (sh : AwS) (v0 : Int) (v1 : Int) (v2 : Int) (Q : State → Prop) : ((AwM) ⊕ (Int × AwM)) → Prop := (Sum.elim (fun (t : AwM) => AW Γ sh (t) 0 0 95 [none, none, none, none] [] Q) (fun (t : Int × AwM) => AW Γ sh (t.2) 0 0 71 [some (.inr (.inr v0)), none, none, some (.inl (t.1))] [] Q))
def fX9_findsState (sh : AwS) (M : AwM) (v0 : Int) (v1 : Int) (v2 : Int) : Option (Int × AwM) :=
  pb (lp (u2 (fX9_findsState_L2 sh v0 v1 v2)) FU (0, M)) (u1 (fun (tq6 : AwM) => gd_ (kd_ sh v0 = (0, 9)) (bd_ (up_ tq6 v0 66 0) fun (M8 : AwM) => (gd_ ((kd_ sh (M8 v0 49)).1 = 1 ∧ (0 : Int) ≤ v1 ∧ v1 < ((kd_ sh (M8 v0 49)).2 : Int)) (gd_ ((kd_ sh (M8 v0 50)).1 = 1 ∧ (0 : Int) ≤ v1 ∧ v1 < ((kd_ sh (M8 v0 50)).2 : Int)) (pb (fX9_reaches sh M8 v0 (M8 (M8 v0 49) v1) (M8 (M8 v0 50) v1) (-1) 100000000) <| u1 fun (M13 : AwM) => (pb (lp (u2 (fX9_findsState_L49 sh v0 v1 v2)) FU (0, M13)) (Sum.elim (u1 (fun (tq20 : AwM) => some ((-1), tq20))) (u2 (fun (x21 : Int) (M22 : AwM) => gd_ ((kd_ sh (M22 v0 65)).1 = 1 ∧ (0 : Int) ≤ x21 ∧ x21 < ((kd_ sh (M22 v0 65)).2 : Int)) (some ((M22 (M22 v0 65) x21), M22))))))))))))
set_option maxRecDepth 100000 in
set_option maxHeartbeats 4000000 in
theorem w_X9_findsState_L2 {Γ : AwC} (hC : AOK Γ RX9 cX9_findsState 4 6 0 0 "findsState" (some .int)) {sh : AwS} {v0 : Int} {v1 : Int} {v2 : Int} {Q : State → Prop} : ∀ s r, u2 (fX9_findsState_L2 sh v0 v1 v2) s = some r → (∀ s', r = .inl s' → p_X9_findsState_L2 Γ sh v0 v1 v2 Q s') → (∀ t, r = .inr t → x_X9_findsState_L2 Γ sh v0 v1 v2 Q t) → p_X9_findsState_L2 Γ sh v0 v1 v2 Q s := by
  intro s r h hL hX
  obtain ⟨v3, M⟩ := s
  replace h := u2_s h
  unfold fX9_findsState_L2 at h
  show AW Γ sh M 0 0 2 [some (.inr (.inr v0)), some (.inl v1), some (.inl v2), some (.inl v3)] [] Q
  refine aw_iload_n (pc' := 3) (i := 3) hC dX9_findsState_2 rfl rfl rfl ?_
  refine aw_sipush (pc' := 6) hC dX9_findsState_3 rfl (by decide) ?_
  refine aw_icmp_ge (tgt := 22) (pc' := 9) hC dX9_findsState_6 (by decide) rfl (fun c1 => ?_) (fun c1 => ?_)
  · replace h := it_n c1 h
    refine aw_sub hC [some (.inr (.inr v0)), some (.inl v1), some (.inl v2), none] ⟨rfl, ⟨rfl, ⟨rfl, trivial⟩⟩⟩ (Nat.le_of_ble_eq_true rfl) ?_
    cases h
    exact hX _ rfl
  · replace h := it_p c1 h
    refine aw_aload_n (pc' := 10) (i := 0) hC dX9_findsState_9 rfl rfl rfl ?_
    obtain ⟨g2, h⟩ := gd_s h
    refine aw_getfield (pc' := 13) (v := (.inr (.inr (M v0 64)))) hC dX9_findsState_10 rfl fl_X9_207 g2 rfl ?_
    refine aw_iload_n (pc' := 14) (i := 3) hC dX9_findsState_13 rfl rfl rfl ?_
    refine aw_iconst (pc' := 15) hC dX9_findsState_14 rfl (by decide) ?_
    obtain ⟨g3, h⟩ := gd_s h
    obtain ⟨M4, e5, h⟩ := bd_s h
    refine aw_ias (pc' := 16) hC dX9_findsState_15 rfl g3 e5 ?_
    refine aw_iinc (pc' := 19) (ls' := [some (.inr (.inr v0)), some (.inl v1), some (.inl v2), some (.inl (w32 (v3 + 1)))]) hC dX9_findsState_16 rfl rfl rfl rfl ?_
    refine aw_goto (tgt := 2) hC dX9_findsState_19 (by decide) ?_
    refine aw_sub hC [some (.inr (.inr v0)), some (.inl v1), some (.inl v2), some (.inl (w32 (v3 + 1)))] ⟨rfl, ⟨rfl, ⟨rfl, ⟨rfl, trivial⟩⟩⟩⟩ (Nat.le_of_ble_eq_true rfl) ?_
    cases h
    exact hL _ rfl
set_option maxRecDepth 100000 in
set_option maxHeartbeats 4000000 in
theorem w_X9_findsState_L49 {Γ : AwC} (hC : AOK Γ RX9 cX9_findsState 4 6 0 0 "findsState" (some .int)) {sh : AwS} {v0 : Int} {v1 : Int} {v2 : Int} {Q : State → Prop} : ∀ s r, u2 (fX9_findsState_L49 sh v0 v1 v2) s = some r → (∀ s', r = .inl s' → p_X9_findsState_L49 Γ sh v0 v1 v2 Q s') → (∀ t, r = .inr t → x_X9_findsState_L49 Γ sh v0 v1 v2 Q t) → p_X9_findsState_L49 Γ sh v0 v1 v2 Q s := by
  intro s r h hL hX
  obtain ⟨v3, M⟩ := s
  replace h := u2_s h
  unfold fX9_findsState_L49 at h
  show AW Γ sh M 0 0 49 [some (.inr (.inr v0)), some (.inl v1), some (.inl v2), some (.inl v3)] [] Q
  refine aw_iload_n (pc' := 50) (i := 3) hC dX9_findsState_49 rfl rfl rfl ?_
  refine aw_aload_n (pc' := 51) (i := 0) hC dX9_findsState_50 rfl rfl rfl ?_
  obtain ⟨g14, h⟩ := gd_s h
  refine aw_getfield (pc' := 54) (v := (.inl (M v0 66))) hC dX9_findsState_51 rfl fl_X9_213 g14 rfl ?_
  refine aw_icmp_ge (tgt := 95) (pc' := 57) hC dX9_findsState_54 (by decide) rfl (fun c15 => ?_) (fun c15 => ?_)
  · replace h := it_n c15 h
    refine aw_sub hC [none, none, none, none] trivial (Nat.le_of_ble_eq_true rfl) ?_
    cases h
    exact hX _ rfl
  · replace h := it_p c15 h
    refine aw_aload_n (pc' := 58) (i := 0) hC dX9_findsState_57 rfl rfl rfl ?_
    refine aw_getfield (pc' := 61) (v := (.inr (.inr (M v0 65)))) hC dX9_findsState_58 rfl fl_X9_210 g14 rfl ?_
    refine aw_iload_n (pc' := 62) (i := 3) hC dX9_findsState_61 rfl rfl rfl ?_
    obtain ⟨g16, h⟩ := gd_s h
    refine aw_iaload (pc' := 63) hC dX9_findsState_62 rfl g16 ?_
    refine aw_sipush (pc' := 66) hC dX9_findsState_63 rfl (by decide) ?_
    refine aw_idiv (pc' := 67) hC dX9_findsState_66 rfl (by decide) ?_
    refine aw_iload_n (pc' := 68) (i := 2) hC dX9_findsState_67 rfl rfl rfl ?_
    refine aw_icmp_ne (tgt := 78) (pc' := 71) hC dX9_findsState_68 (by decide) rfl (fun c17 => ?_) (fun c17 => ?_)
    · replace h := it_n c17 h
      refine aw_aload_n (pc' := 79) (i := 0) hC dX9_findsState_78 rfl rfl rfl ?_
      refine aw_iload_n (pc' := 80) (i := 1) hC dX9_findsState_79 rfl rfl rfl ?_
      refine aw_aload_n (pc' := 81) (i := 0) hC dX9_findsState_80 rfl rfl rfl ?_
      refine aw_getfield (pc' := 84) (v := (.inr (.inr (M v0 65)))) hC dX9_findsState_81 rfl fl_X9_210 g14 rfl ?_
      refine aw_iload_n (pc' := 85) (i := 3) hC dX9_findsState_84 rfl rfl rfl ?_
      refine aw_iaload (pc' := 86) hC dX9_findsState_85 rfl g16 ?_
      obtain ⟨M19, q18, h⟩ := pb_s h
      replace h := u1_s h
      refine aw_cV (pc' := 89) (k2 := 0) (n2 := 0) (st := []) (stN := []) hC [.inl v1, .inl (M (M v0 65) v3)] (mX9_goesOn_ q18) lk_X9_536 g14 dX9_findsState_86 rfl rfl (Nat.le_of_ble_eq_true rfl) (Nat.le_of_ble_eq_true rfl) (Nat.le_of_ble_eq_true rfl) rfl (Nat.le_of_ble_eq_true rfl) rfl rfl rfl ?_
      refine aw_iinc (pc' := 92) (ls' := [some (.inr (.inr v0)), some (.inl v1), some (.inl v2), some (.inl (w32 (v3 + 1)))]) hC dX9_findsState_89 rfl rfl rfl rfl ?_
      refine aw_goto (tgt := 49) hC dX9_findsState_92 (by decide) ?_
      refine aw_sub hC [some (.inr (.inr v0)), some (.inl v1), some (.inl v2), some (.inl (w32 (v3 + 1)))] ⟨rfl, ⟨rfl, ⟨rfl, ⟨rfl, trivial⟩⟩⟩⟩ (Nat.le_of_ble_eq_true rfl) ?_
      cases h
      exact hL _ rfl
    · replace h := it_p c17 h
      refine aw_sub hC [some (.inr (.inr v0)), none, none, some (.inl v3)] ⟨rfl, ⟨rfl, trivial⟩⟩ (Nat.le_of_ble_eq_true rfl) ?_
      cases h
      exact hX _ rfl
set_option maxRecDepth 100000 in
set_option maxHeartbeats 4000000 in
theorem mX9_findsState {sh : AwS} {M : AwM} {v0 : Int} {v1 : Int} {v2 : Int} {r : Int} {M' : AwM} (h : fX9_findsState sh M v0 v1 v2 = some (r, M')) : AMet yX9_findsState cX9_findsState 4 (some .int) 6 0 0 [.inr (.inr v0), .inl v1, .inl v2] sh M (some (.inl r)) sh M' := by
  refine amet_of (by decide +kernel) (Nat.le_of_ble_eq_true rfl) (fun Γ hC => ?_)
  replace hC : AOK Γ RX9 cX9_findsState 4 6 0 0 "findsState" (some .int) := hC
  unfold fX9_findsState at h
  refine aw_sub hC [some (.inr (.inr v0)), some (.inl v1), some (.inl v2), none] ⟨rfl, ⟨rfl, ⟨rfl, trivial⟩⟩⟩ (Nat.le_of_ble_eq_true rfl) ?_
  refine aw_iconst (pc' := 1) hC dX9_findsState_0 rfl (by decide) ?_
  refine aw_istore_n (pc' := 2) (i := 3) (ls' := [some (.inr (.inr v0)), some (.inl v1), some (.inl v2), some (.inl 0)]) hC dX9_findsState_1 rfl rfl (Nat.le_of_ble_eq_true rfl) rfl rfl ?_
  obtain ⟨tq6, q6, h⟩ := pb_s h
  refine aw_sub hC [some (.inr (.inr v0)), some (.inl v1), some (.inl v2), some (.inl 0)] ⟨rfl, ⟨rfl, ⟨rfl, ⟨rfl, trivial⟩⟩⟩⟩ (Nat.le_of_ble_eq_true rfl) ?_
  refine (lp_aw (p_X9_findsState_L2 Γ sh v0 v1 v2 (fin_ Γ 0 0 (some (.inl r)) sh M')) (x_X9_findsState_L2 Γ sh v0 v1 v2 (fin_ Γ 0 0 (some (.inl r)) sh M')) (w_X9_findsState_L2 hC ) FU _ _ q6 ?_ : p_X9_findsState_L2 Γ sh v0 v1 v2 (fin_ Γ 0 0 (some (.inl r)) sh M') (0, M))
  replace h := u1_s h
  show AW Γ sh tq6 0 0 22 [some (.inr (.inr v0)), some (.inl v1), some (.inl v2), none] [] _
  refine aw_aload_n (pc' := 23) (i := 0) hC dX9_findsState_22 rfl rfl rfl ?_
  refine aw_iconst (pc' := 24) hC dX9_findsState_23 rfl (by decide) ?_
  obtain ⟨g7, h⟩ := gd_s h
  obtain ⟨M8, e9, h⟩ := bd_s h
  refine aw_pf (pc' := 27) hC dX9_findsState_24 rfl fp_X9_213 g7 rfl trivial e9 ?_
  refine aw_aload_n (pc' := 28) (i := 0) hC dX9_findsState_27 rfl rfl rfl ?_
  refine aw_aload_n (pc' := 29) (i := 0) hC dX9_findsState_28 rfl rfl rfl ?_
  refine aw_getfield (pc' := 32) (v := (.inr (.inr (M8 v0 49)))) hC dX9_findsState_29 rfl fl_X9_162 g7 rfl ?_
  refine aw_iload_n (pc' := 33) (i := 1) hC dX9_findsState_32 rfl rfl rfl ?_
  obtain ⟨g10, h⟩ := gd_s h
  refine aw_iaload (pc' := 34) hC dX9_findsState_33 rfl g10 ?_
  refine aw_aload_n (pc' := 35) (i := 0) hC dX9_findsState_34 rfl rfl rfl ?_
  refine aw_getfield (pc' := 38) (v := (.inr (.inr (M8 v0 50)))) hC dX9_findsState_35 rfl fl_X9_165 g7 rfl ?_
  refine aw_iload_n (pc' := 39) (i := 1) hC dX9_findsState_38 rfl rfl rfl ?_
  obtain ⟨g11, h⟩ := gd_s h
  refine aw_iaload (pc' := 40) hC dX9_findsState_39 rfl g11 ?_
  refine aw_iconst (pc' := 41) hC dX9_findsState_40 rfl (by decide) ?_
  refine aw_ldcw (pc' := 44) (v := 100000000) hC dX9_findsState_41 rfl ck_X9_535 (by unfold I32; omega) ?_
  obtain ⟨M13, q12, h⟩ := pb_s h
  replace h := u1_s h
  refine aw_cV (pc' := 47) (k2 := 0) (n2 := 0) (st := []) (stN := []) hC [.inl (M8 (M8 v0 49) v1), .inl (M8 (M8 v0 50) v1), .inl (-1), .inl 100000000] (mX9_reaches q12) lk_X9_531 g7 dX9_findsState_44 rfl rfl (Nat.le_of_ble_eq_true rfl) (Nat.le_of_ble_eq_true rfl) (Nat.le_of_ble_eq_true rfl) rfl (Nat.le_of_ble_eq_true rfl) rfl rfl rfl ?_
  refine aw_iconst (pc' := 48) hC dX9_findsState_47 rfl (by decide) ?_
  refine aw_istore_n (pc' := 49) (i := 3) (ls' := [some (.inr (.inr v0)), some (.inl v1), some (.inl v2), some (.inl 0)]) hC dX9_findsState_48 rfl rfl (Nat.le_of_ble_eq_true rfl) rfl rfl ?_
  obtain ⟨tq20, q20, h⟩ := pb_s h
  refine aw_sub hC [some (.inr (.inr v0)), some (.inl v1), some (.inl v2), some (.inl 0)] ⟨rfl, ⟨rfl, ⟨rfl, ⟨rfl, trivial⟩⟩⟩⟩ (Nat.le_of_ble_eq_true rfl) ?_
  refine (lp_aw (p_X9_findsState_L49 Γ sh v0 v1 v2 (fin_ Γ 0 0 (some (.inl r)) sh M')) (x_X9_findsState_L49 Γ sh v0 v1 v2 (fin_ Γ 0 0 (some (.inl r)) sh M')) (w_X9_findsState_L49 hC ) FU _ _ q20 ?_ : p_X9_findsState_L49 Γ sh v0 v1 v2 (fin_ Γ 0 0 (some (.inl r)) sh M') (0, M13))
  rcases tq20 with tq20 | tq20
  · replace h := se_l h
    replace h := u1_s h
    show AW Γ sh tq20 0 0 95 [none, none, none, none] [] _
    refine aw_iconst (pc' := 96) hC dX9_findsState_95 rfl (by decide) ?_
    cases h
    exact aw_iret hC dX9_findsState_96 (Nat.le_of_ble_eq_true rfl) (Nat.le_of_ble_eq_true rfl)
  · replace h := se_r h
    obtain ⟨x21, M22⟩ := tq20
    replace h := u2_s h
    show AW Γ sh M22 0 0 71 [some (.inr (.inr v0)), none, none, some (.inl x21)] [] _
    refine aw_aload_n (pc' := 72) (i := 0) hC dX9_findsState_71 rfl rfl rfl ?_
    refine aw_getfield (pc' := 75) (v := (.inr (.inr (M22 v0 65)))) hC dX9_findsState_72 rfl fl_X9_210 g7 rfl ?_
    refine aw_iload_n (pc' := 76) (i := 3) hC dX9_findsState_75 rfl rfl rfl ?_
    obtain ⟨g23, h⟩ := gd_s h
    refine aw_iaload (pc' := 77) hC dX9_findsState_76 rfl g23 ?_
    cases h
    exact aw_iret hC dX9_findsState_77 (Nat.le_of_ble_eq_true rfl) (Nat.le_of_ble_eq_true rfl)
-- CoinCircleModel.comes(III)I
def fX9_comes_L41 (sh : AwS) (M : AwM) (v0 : Int) (v3 : Int) (v4 : Int) (v5 : Int) (v6 : Int) : Option ((Int × Int) ⊕ (Int)) :=
  gd_ (kd_ sh v0 = (0, 9)) (gd_ ((kd_ sh (M v0 63)).1 = 1 ∧ (0 : Int) ≤ v6 ∧ v6 < ((kd_ sh (M v0 63)).2 : Int)) ((if (M (M v0 63) v6) = (-1) then some (.inr v5) else some (.inl ((w32 (v5 + 1)), (M (M v0 63) v6))))))
def p_X9_comes_L41 (Γ : AwC) (sh : AwS) (M : AwM) (v0 : Int) (v3 : Int) (v4 : Int) (Q : State → Prop) (s : Int × Int) : Prop := AW Γ sh M 0 0 41 [some (.inr (.inr v0)), none, none, some (.inl v3), some (.inl v4), some (.inl (s.1)), some (.inl (s.2)), none] [] Q
def x_X9_comes_L41 (Γ : AwC) (sh : AwS) (M : AwM) (v0 : Int) (v3 : Int) (v4 : Int) (Q : State → Prop) : (Int) → Prop := (fun (t : Int) => AW Γ sh M 0 0 67 [some (.inr (.inr v0)), none, none, some (.inl v3), some (.inl v4), some (.inl (t)), none, none] [] Q)
def fX9_comes_L99 (sh : AwS) (M : AwM) (v0 : Int) (v3 : Int) (v6 : Int) (v7 : Int) : Option ((Int × Int) ⊕ (Int)) :=
  (if v3 < v7 then gd_ (kd_ sh v0 = (0, 9)) (gd_ ((kd_ sh (M v0 63)).1 = 1 ∧ (0 : Int) ≤ v6 ∧ v6 < ((kd_ sh (M v0 63)).2 : Int)) (some (.inl ((M (M v0 63) v6), (w32 (v7 + (-1))))))) else some (.inr v6))
def p_X9_comes_L99 (Γ : AwC) (sh : AwS) (M : AwM) (v0 : Int) (v3 : Int) (Q : State → Prop) (s : Int × Int) : Prop := AW Γ sh M 0 0 99 [some (.inr (.inr v0)), none, none, some (.inl v3), none, none, some (.inl (s.1)), some (.inl (s.2))] [] Q
def x_X9_comes_L99 (Γ : AwC) (sh : AwS) (M : AwM) (v0 : Int) (v3 : Int) (Q : State → Prop) : (Int) → Prop := (fun (t : Int) => AW Γ sh M 0 0 120 [some (.inr (.inr v0)), none, none, none, none, none, some (.inl (t)), none] [] Q)
def fX9_comes (sh : AwS) (M : AwM) (v0 : Int) (v1 : Int) (v2 : Int) (v3 : Int) : Option (Int × AwM) :=
  gd_ (kd_ sh v0 = (0, 9)) (pb (fX9_isCoin sh M v0 v1) <| u1 fun (x3 : Int) => ((if x3 = 0 then some ((-1), M) else pb (fX9_isPerson sh M v0 v2) <| u1 fun (x6 : Int) => ((if x6 = 0 then some ((-1), M) else pb (fX9_findsState sh M v0 v1 v2) <| u2 fun (x9 : Int) (M10 : AwM) => ((if x9 = (-1) then some ((-1), M10) else pb (lp (u2 (fX9_comes_L41 sh M10 v0 v3 x9)) FU (0, x9)) (u1 (fun (tq15 : Int) => (if v3 = (-1) then some (tq15, M10) else pb (fX9_is sh M10 v3 0 (w32 (tq15 - 1))) <| u1 fun (x18 : Int) => ((if x18 = 0 then some ((-1), M10) else pb (lp (u2 (fX9_comes_L99 sh M10 v0 v3)) FU (x9, (w32 (tq15 - 1)))) (u1 (fun (tq23 : Int) => gd_ ((kd_ sh (M10 v0 64)).1 = 1 ∧ (0 : Int) ≤ tq23 ∧ tq23 < ((kd_ sh (M10 v0 64)).2 : Int)) (some ((M10 (M10 v0 64) tq23), M10))))))))))))))))
set_option maxRecDepth 100000 in
set_option maxHeartbeats 4000000 in
theorem w_X9_comes_L41 {Γ : AwC} (hC : AOK Γ RX9 cX9_comes 8 7 0 0 "comes" (some .int)) {sh : AwS} {M : AwM} {v0 : Int} {v3 : Int} {v4 : Int} {Q : State → Prop} : ∀ s r, u2 (fX9_comes_L41 sh M v0 v3 v4) s = some r → (∀ s', r = .inl s' → p_X9_comes_L41 Γ sh M v0 v3 v4 Q s') → (∀ t, r = .inr t → x_X9_comes_L41 Γ sh M v0 v3 v4 Q t) → p_X9_comes_L41 Γ sh M v0 v3 v4 Q s := by
  intro s r h hL hX
  obtain ⟨v5, v6⟩ := s
  replace h := u2_s h
  unfold fX9_comes_L41 at h
  show AW Γ sh M 0 0 41 [some (.inr (.inr v0)), none, none, some (.inl v3), some (.inl v4), some (.inl v5), some (.inl v6), none] [] Q
  refine aw_aload_n (pc' := 42) (i := 0) hC dX9_comes_41 rfl rfl rfl ?_
  obtain ⟨g12, h⟩ := gd_s h
  refine aw_getfield (pc' := 45) (v := (.inr (.inr (M v0 63)))) hC dX9_comes_42 rfl fl_X9_204 g12 rfl ?_
  refine aw_iload (pc' := 47) hC dX9_comes_45 rfl rfl ?_
  obtain ⟨g13, h⟩ := gd_s h
  refine aw_iaload (pc' := 48) hC dX9_comes_47 rfl g13 ?_
  refine aw_iconst (pc' := 49) hC dX9_comes_48 rfl (by decide) ?_
  refine aw_icmp_eq (tgt := 67) (pc' := 52) hC dX9_comes_49 (by decide) rfl (fun c14 => ?_) (fun c14 => ?_)
  · replace h := it_p c14 h
    refine aw_sub hC [some (.inr (.inr v0)), none, none, some (.inl v3), some (.inl v4), some (.inl v5), none, none] ⟨rfl, ⟨rfl, ⟨rfl, ⟨rfl, trivial⟩⟩⟩⟩ (Nat.le_of_ble_eq_true rfl) ?_
    cases h
    exact hX _ rfl
  · replace h := it_n c14 h
    refine aw_iinc (pc' := 55) (ls' := [some (.inr (.inr v0)), none, none, some (.inl v3), some (.inl v4), some (.inl (w32 (v5 + 1))), some (.inl v6), none]) hC dX9_comes_52 rfl rfl rfl rfl ?_
    refine aw_aload_n (pc' := 56) (i := 0) hC dX9_comes_55 rfl rfl rfl ?_
    refine aw_getfield (pc' := 59) (v := (.inr (.inr (M v0 63)))) hC dX9_comes_56 rfl fl_X9_204 g12 rfl ?_
    refine aw_iload (pc' := 61) hC dX9_comes_59 rfl rfl ?_
    refine aw_iaload (pc' := 62) hC dX9_comes_61 rfl g13 ?_
    refine aw_istore (pc' := 64) (ls' := [some (.inr (.inr v0)), none, none, some (.inl v3), some (.inl v4), some (.inl (w32 (v5 + 1))), some (.inl (M (M v0 63) v6)), none]) hC dX9_comes_62 rfl (Nat.le_of_ble_eq_true rfl) rfl rfl ?_
    refine aw_goto (tgt := 41) hC dX9_comes_64 (by decide) ?_
    refine aw_sub hC [some (.inr (.inr v0)), none, none, some (.inl v3), some (.inl v4), some (.inl (w32 (v5 + 1))), some (.inl (M (M v0 63) v6)), none] ⟨rfl, ⟨rfl, ⟨rfl, ⟨rfl, ⟨rfl, trivial⟩⟩⟩⟩⟩ (Nat.le_of_ble_eq_true rfl) ?_
    cases h
    exact hL _ rfl
set_option maxRecDepth 100000 in
set_option maxHeartbeats 4000000 in
theorem w_X9_comes_L99 {Γ : AwC} (hC : AOK Γ RX9 cX9_comes 8 7 0 0 "comes" (some .int)) {sh : AwS} {M : AwM} {v0 : Int} {v3 : Int} {Q : State → Prop} : ∀ s r, u2 (fX9_comes_L99 sh M v0 v3) s = some r → (∀ s', r = .inl s' → p_X9_comes_L99 Γ sh M v0 v3 Q s') → (∀ t, r = .inr t → x_X9_comes_L99 Γ sh M v0 v3 Q t) → p_X9_comes_L99 Γ sh M v0 v3 Q s := by
  intro s r h hL hX
  obtain ⟨v6, v7⟩ := s
  replace h := u2_s h
  unfold fX9_comes_L99 at h
  show AW Γ sh M 0 0 99 [some (.inr (.inr v0)), none, none, some (.inl v3), none, none, some (.inl v6), some (.inl v7)] [] Q
  refine aw_iload (pc' := 101) hC dX9_comes_99 rfl rfl ?_
  refine aw_iload_n (pc' := 102) (i := 3) hC dX9_comes_101 rfl rfl rfl ?_
  refine aw_icmp_le (tgt := 120) (pc' := 105) hC dX9_comes_102 (by decide) rfl (fun c20 => ?_) (fun c20 => ?_)
  · replace h := it_n c20 h
    refine aw_sub hC [some (.inr (.inr v0)), none, none, none, none, none, some (.inl v6), none] ⟨rfl, ⟨rfl, trivial⟩⟩ (Nat.le_of_ble_eq_true rfl) ?_
    cases h
    exact hX _ rfl
  · replace h := it_p c20 h
    refine aw_aload_n (pc' := 106) (i := 0) hC dX9_comes_105 rfl rfl rfl ?_
    obtain ⟨g21, h⟩ := gd_s h
    refine aw_getfield (pc' := 109) (v := (.inr (.inr (M v0 63)))) hC dX9_comes_106 rfl fl_X9_204 g21 rfl ?_
    refine aw_iload (pc' := 111) hC dX9_comes_109 rfl rfl ?_
    obtain ⟨g22, h⟩ := gd_s h
    refine aw_iaload (pc' := 112) hC dX9_comes_111 rfl g22 ?_
    refine aw_istore (pc' := 114) (ls' := [some (.inr (.inr v0)), none, none, some (.inl v3), none, none, some (.inl (M (M v0 63) v6)), some (.inl v7)]) hC dX9_comes_112 rfl (Nat.le_of_ble_eq_true rfl) rfl rfl ?_
    refine aw_iinc (pc' := 117) (ls' := [some (.inr (.inr v0)), none, none, some (.inl v3), none, none, some (.inl (M (M v0 63) v6)), some (.inl (w32 (v7 + (-1))))]) hC dX9_comes_114 rfl rfl rfl rfl ?_
    refine aw_goto (tgt := 99) hC dX9_comes_117 (by decide) ?_
    refine aw_sub hC [some (.inr (.inr v0)), none, none, some (.inl v3), none, none, some (.inl (M (M v0 63) v6)), some (.inl (w32 (v7 + (-1))))] ⟨rfl, ⟨rfl, ⟨rfl, ⟨rfl, trivial⟩⟩⟩⟩ (Nat.le_of_ble_eq_true rfl) ?_
    cases h
    exact hL _ rfl
set_option maxRecDepth 100000 in
set_option maxHeartbeats 4000000 in
theorem mX9_comes {sh : AwS} {M : AwM} {v0 : Int} {v1 : Int} {v2 : Int} {v3 : Int} {r : Int} {M' : AwM} (h : fX9_comes sh M v0 v1 v2 v3 = some (r, M')) : AMet yX9_comes cX9_comes 8 (some .int) 7 0 0 [.inr (.inr v0), .inl v1, .inl v2, .inl v3] sh M (some (.inl r)) sh M' := by
  refine amet_of (by decide +kernel) (Nat.le_of_ble_eq_true rfl) (fun Γ hC => ?_)
  replace hC : AOK Γ RX9 cX9_comes 8 7 0 0 "comes" (some .int) := hC
  unfold fX9_comes at h
  refine aw_sub hC [some (.inr (.inr v0)), some (.inl v1), some (.inl v2), some (.inl v3), none, none, none, none] ⟨rfl, ⟨rfl, ⟨rfl, ⟨rfl, trivial⟩⟩⟩⟩ (Nat.le_of_ble_eq_true rfl) ?_
  refine aw_aload_n (pc' := 1) (i := 0) hC dX9_comes_0 rfl rfl rfl ?_
  refine aw_iload_n (pc' := 2) (i := 1) hC dX9_comes_1 rfl rfl rfl ?_
  obtain ⟨g2, h⟩ := gd_s h
  obtain ⟨x3, q1, h⟩ := pb_s h
  replace h := u1_s h
  refine aw_cV (pc' := 5) (k2 := 0) (n2 := 0) (st := []) (stN := [.inl x3]) hC [.inl v1] (mX9_isCoin q1) lk_X9_477 g2 dX9_comes_2 rfl rfl (Nat.le_of_ble_eq_true rfl) (Nat.le_of_ble_eq_true rfl) (Nat.le_of_ble_eq_true rfl) rfl (Nat.le_of_ble_eq_true rfl) rfl rfl rfl ?_
  refine aw_if_eq (tgt := 16) (pc' := 8) hC dX9_comes_5 (by decide) rfl (fun c4 => ?_) (fun c4 => ?_)
  · replace h := it_p c4 h
    refine aw_iconst (pc' := 17) hC dX9_comes_16 rfl (by decide) ?_
    cases h
    exact aw_iret hC dX9_comes_17 (Nat.le_of_ble_eq_true rfl) (Nat.le_of_ble_eq_true rfl)
  · replace h := it_n c4 h
    refine aw_aload_n (pc' := 9) (i := 0) hC dX9_comes_8 rfl rfl rfl ?_
    refine aw_iload_n (pc' := 10) (i := 2) hC dX9_comes_9 rfl rfl rfl ?_
    obtain ⟨x6, q5, h⟩ := pb_s h
    replace h := u1_s h
    refine aw_cV (pc' := 13) (k2 := 0) (n2 := 0) (st := []) (stN := [.inl x6]) hC [.inl v2] (mX9_isPerson q5) lk_X9_471 g2 dX9_comes_10 rfl rfl (Nat.le_of_ble_eq_true rfl) (Nat.le_of_ble_eq_true rfl) (Nat.le_of_ble_eq_true rfl) rfl (Nat.le_of_ble_eq_true rfl) rfl rfl rfl ?_
    refine aw_if_ne (tgt := 18) (pc' := 16) hC dX9_comes_13 (by decide) rfl (fun c7 => ?_) (fun c7 => ?_)
    · replace h := it_n c7 h
      refine aw_aload_n (pc' := 19) (i := 0) hC dX9_comes_18 rfl rfl rfl ?_
      refine aw_iload_n (pc' := 20) (i := 1) hC dX9_comes_19 rfl rfl rfl ?_
      refine aw_iload_n (pc' := 21) (i := 2) hC dX9_comes_20 rfl rfl rfl ?_
      obtain ⟨⟨x9, M10⟩, q8, h⟩ := pb_s h
      replace h := u2_s h
      refine aw_cV (pc' := 24) (k2 := 0) (n2 := 0) (st := []) (stN := [.inl x9]) hC [.inl v1, .inl v2] (mX9_findsState q8) lk_X9_538 g2 dX9_comes_21 rfl rfl (Nat.le_of_ble_eq_true rfl) (Nat.le_of_ble_eq_true rfl) (Nat.le_of_ble_eq_true rfl) rfl (Nat.le_of_ble_eq_true rfl) rfl rfl rfl ?_
      refine aw_istore (pc' := 26) (ls' := [some (.inr (.inr v0)), some (.inl v1), some (.inl v2), some (.inl v3), some (.inl x9), none, none, none]) hC dX9_comes_24 rfl (Nat.le_of_ble_eq_true rfl) rfl rfl ?_
      refine aw_iload (pc' := 28) hC dX9_comes_26 rfl rfl ?_
      refine aw_iconst (pc' := 29) hC dX9_comes_28 rfl (by decide) ?_
      refine aw_icmp_ne (tgt := 34) (pc' := 32) hC dX9_comes_29 (by decide) rfl (fun c11 => ?_) (fun c11 => ?_)
      · replace h := it_n c11 h
        refine aw_iconst (pc' := 35) hC dX9_comes_34 rfl (by decide) ?_
        refine aw_istore (pc' := 37) (ls' := [some (.inr (.inr v0)), some (.inl v1), some (.inl v2), some (.inl v3), some (.inl x9), some (.inl 0), none, none]) hC dX9_comes_35 rfl (Nat.le_of_ble_eq_true rfl) rfl rfl ?_
        refine aw_iload (pc' := 39) hC dX9_comes_37 rfl rfl ?_
        refine aw_istore (pc' := 41) (ls' := [some (.inr (.inr v0)), some (.inl v1), some (.inl v2), some (.inl v3), some (.inl x9), some (.inl 0), some (.inl x9), none]) hC dX9_comes_39 rfl (Nat.le_of_ble_eq_true rfl) rfl rfl ?_
        obtain ⟨tq15, q15, h⟩ := pb_s h
        refine aw_sub hC [some (.inr (.inr v0)), none, none, some (.inl v3), some (.inl x9), some (.inl 0), some (.inl x9), none] ⟨rfl, ⟨rfl, ⟨rfl, ⟨rfl, ⟨rfl, trivial⟩⟩⟩⟩⟩ (Nat.le_of_ble_eq_true rfl) ?_
        refine (lp_aw (p_X9_comes_L41 Γ sh M10 v0 v3 x9 (fin_ Γ 0 0 (some (.inl r)) sh M')) (x_X9_comes_L41 Γ sh M10 v0 v3 x9 (fin_ Γ 0 0 (some (.inl r)) sh M')) (w_X9_comes_L41 hC ) FU _ _ q15 ?_ : p_X9_comes_L41 Γ sh M10 v0 v3 x9 (fin_ Γ 0 0 (some (.inl r)) sh M') (0, x9))
        replace h := u1_s h
        show AW Γ sh M10 0 0 67 [some (.inr (.inr v0)), none, none, some (.inl v3), some (.inl x9), some (.inl tq15), none, none] [] _
        refine aw_iload_n (pc' := 68) (i := 3) hC dX9_comes_67 rfl rfl rfl ?_
        refine aw_iconst (pc' := 69) hC dX9_comes_68 rfl (by decide) ?_
        refine aw_icmp_ne (tgt := 75) (pc' := 72) hC dX9_comes_69 (by decide) rfl (fun c16 => ?_) (fun c16 => ?_)
        · replace h := it_n c16 h
          refine aw_iload_n (pc' := 76) (i := 3) hC dX9_comes_75 rfl rfl rfl ?_
          refine aw_iconst (pc' := 77) hC dX9_comes_76 rfl (by decide) ?_
          refine aw_iload (pc' := 79) hC dX9_comes_77 rfl rfl ?_
          refine aw_iconst (pc' := 80) hC dX9_comes_79 rfl (by decide) ?_
          refine aw_isub (pc' := 81) hC dX9_comes_80 rfl  ?_
          obtain ⟨x18, q17, h⟩ := pb_s h
          replace h := u1_s h
          refine aw_cS (pc' := 84) (k2 := 0) (n2 := 0) (st := []) (stN := [.inl x18]) hC [.inl v3, .inl 0, .inl (w32 (tq15 - 1))] (mX9_is q17) lk_X9_314 dX9_comes_81 rfl rfl (Nat.le_of_ble_eq_true rfl) (Nat.le_of_ble_eq_true rfl) (Nat.le_of_ble_eq_true rfl) rfl (Nat.le_of_ble_eq_true rfl) rfl rfl rfl ?_
          refine aw_if_ne (tgt := 89) (pc' := 87) hC dX9_comes_84 (by decide) rfl (fun c19 => ?_) (fun c19 => ?_)
          · replace h := it_n c19 h
            refine aw_iload (pc' := 91) hC dX9_comes_89 rfl rfl ?_
            refine aw_istore (pc' := 93) (ls' := [some (.inr (.inr v0)), none, none, some (.inl v3), some (.inl x9), some (.inl tq15), some (.inl x9), none]) hC dX9_comes_91 rfl (Nat.le_of_ble_eq_true rfl) rfl rfl ?_
            refine aw_iload (pc' := 95) hC dX9_comes_93 rfl rfl ?_
            refine aw_iconst (pc' := 96) hC dX9_comes_95 rfl (by decide) ?_
            refine aw_isub (pc' := 97) hC dX9_comes_96 rfl  ?_
            refine aw_istore (pc' := 99) (ls' := [some (.inr (.inr v0)), none, none, some (.inl v3), some (.inl x9), some (.inl tq15), some (.inl x9), some (.inl (w32 (tq15 - 1)))]) hC dX9_comes_97 rfl (Nat.le_of_ble_eq_true rfl) rfl rfl ?_
            obtain ⟨tq23, q23, h⟩ := pb_s h
            refine aw_sub hC [some (.inr (.inr v0)), none, none, some (.inl v3), none, none, some (.inl x9), some (.inl (w32 (tq15 - 1)))] ⟨rfl, ⟨rfl, ⟨rfl, ⟨rfl, trivial⟩⟩⟩⟩ (Nat.le_of_ble_eq_true rfl) ?_
            refine (lp_aw (p_X9_comes_L99 Γ sh M10 v0 v3 (fin_ Γ 0 0 (some (.inl r)) sh M')) (x_X9_comes_L99 Γ sh M10 v0 v3 (fin_ Γ 0 0 (some (.inl r)) sh M')) (w_X9_comes_L99 hC ) FU _ _ q23 ?_ : p_X9_comes_L99 Γ sh M10 v0 v3 (fin_ Γ 0 0 (some (.inl r)) sh M') (x9, (w32 (tq15 - 1))))
            replace h := u1_s h
            show AW Γ sh M10 0 0 120 [some (.inr (.inr v0)), none, none, none, none, none, some (.inl tq23), none] [] _
            refine aw_aload_n (pc' := 121) (i := 0) hC dX9_comes_120 rfl rfl rfl ?_
            refine aw_getfield (pc' := 124) (v := (.inr (.inr (M10 v0 64)))) hC dX9_comes_121 rfl fl_X9_207 g2 rfl ?_
            refine aw_iload (pc' := 126) hC dX9_comes_124 rfl rfl ?_
            obtain ⟨g24, h⟩ := gd_s h
            refine aw_iaload (pc' := 127) hC dX9_comes_126 rfl g24 ?_
            cases h
            exact aw_iret hC dX9_comes_127 (Nat.le_of_ble_eq_true rfl) (Nat.le_of_ble_eq_true rfl)
          · replace h := it_p c19 h
            refine aw_iconst (pc' := 88) hC dX9_comes_87 rfl (by decide) ?_
            cases h
            exact aw_iret hC dX9_comes_88 (Nat.le_of_ble_eq_true rfl) (Nat.le_of_ble_eq_true rfl)
        · replace h := it_p c16 h
          refine aw_iload (pc' := 74) hC dX9_comes_72 rfl rfl ?_
          cases h
          exact aw_iret hC dX9_comes_74 (Nat.le_of_ble_eq_true rfl) (Nat.le_of_ble_eq_true rfl)
      · replace h := it_p c11 h
        refine aw_iconst (pc' := 33) hC dX9_comes_32 rfl (by decide) ?_
        cases h
        exact aw_iret hC dX9_comes_33 (Nat.le_of_ble_eq_true rfl) (Nat.le_of_ble_eq_true rfl)
    · replace h := it_p c7 h
      refine aw_iconst (pc' := 17) hC dX9_comes_16 rfl (by decide) ?_
      cases h
      exact aw_iret hC dX9_comes_17 (Nat.le_of_ble_eq_true rfl) (Nat.le_of_ble_eq_true rfl)
-- CoinCircleModel.best(II)I
def fX9_best_L41 (sh : AwS) (v0 : Int) (v1 : Int) (v2 : Int) (v3 : Int) (v4 : Int) (v5 : Int) (M : AwM) : Option ((Int × Int × Int × AwM) ⊕ (Int × Int × AwM)) :=
  gd_ (kd_ sh v0 = (0, 9)) (gd_ ((kd_ sh (M v0 14)).1 = 1 ∧ (0 : Int) ≤ (M v0 13) ∧ (M v0 13) < ((kd_ sh (M v0 14)).2 : Int)) ((if v5 < (sl_ 1 (M (M v0 14) (M v0 13))) then pb (fX9_bits sh M v5) <| u1 fun (x14 : Int) => ((if x14 = v1 then pb (fX9_copies sh M v0 1 0) <| u1 fun (M17 : AwM) => (pb (fX9_teaOf sh M17 v0 1 v5) <| u2 fun (x19 : Int) (M20 : AwM) => (pb (fX9_flowOf sh M20 v0 1) <| u1 fun (x22 : Int) => ((if v4 < x22 then pb (fX9_flowOf sh M20 v0 1) <| u1 fun (x25 : Int) => (some (.inl (v5, x25, (w32 (v5 + 1)), M20))) else some (.inl (v3, v4, (w32 (v5 + 1)), M20)))))) else some (.inl (v3, v4, (w32 (v5 + 1)), M)))) else some (.inr (v3, v4, M)))))
def p_X9_best_L41 (Γ : AwC) (sh : AwS) (v0 : Int) (v1 : Int) (v2 : Int) (Q : State → Prop) (s : Int × Int × Int × AwM) : Prop := AW Γ sh (s.2.2.2) 0 0 41 [some (.inr (.inr v0)), some (.inl v1), some (.inl v2), some (.inl (s.1)), some (.inl (s.2.1)), some (.inl (s.2.2.1))] [] Q
def x_X9_best_L41 (Γ : AwC) (sh : AwS) (v0 : Int) (v1 : Int) (v2 : Int) (Q : State → Prop) : (Int × Int × AwM) → Prop := (fun (t : Int × Int × AwM) => AW Γ sh (t.2.2) 0 0 112 [none, none, some (.inl v2), some (.inl (t.1)), some (.inl (t.2.1)), none] [] Q)
def fX9_best (sh : AwS) (M : AwM) (v0 : Int) (v1 : Int) (v2 : Int) : Option (Int × AwM) :=
  pb (fX9_is sh M v1 2 4) <| u1 fun (x2 : Int) => ((if x2 = 0 then some ((-1), M) else gd_ (kd_ sh v0 = (0, 9)) (gd_ ((kd_ sh (M v0 14)).1 = 1 ∧ (0 : Int) ≤ (M v0 13) ∧ (M v0 13) < ((kd_ sh (M v0 14)).2 : Int)) ((if (M (M v0 14) (M v0 13)) < v1 then some ((-1), M) else pb (fX9_is sh M v2 0 1) <| u1 fun (x8 : Int) => ((if x8 = 0 then some ((-1), M) else pb (lp (u4 (fX9_best_L41 sh v0 v1 v2)) FU ((-1), (-1), 0, M)) (u3 (fun (x27 : Int) (x28 : Int) (M29 : AwM) => (if v2 = 0 then some (x27, M29) else some (x28, M29)))))))))))
set_option maxRecDepth 100000 in
set_option maxHeartbeats 4000000 in
theorem w_X9_best_L41 {Γ : AwC} (hC : AOK Γ RX9 cX9_best 6 7 0 0 "best" (some .int)) {sh : AwS} {v0 : Int} {v1 : Int} {v2 : Int} {Q : State → Prop} : ∀ s r, u4 (fX9_best_L41 sh v0 v1 v2) s = some r → (∀ s', r = .inl s' → p_X9_best_L41 Γ sh v0 v1 v2 Q s') → (∀ t, r = .inr t → x_X9_best_L41 Γ sh v0 v1 v2 Q t) → p_X9_best_L41 Γ sh v0 v1 v2 Q s := by
  intro s r h hL hX
  obtain ⟨v3, v4, v5, M⟩ := s
  replace h := u4_s h
  unfold fX9_best_L41 at h
  show AW Γ sh M 0 0 41 [some (.inr (.inr v0)), some (.inl v1), some (.inl v2), some (.inl v3), some (.inl v4), some (.inl v5)] [] Q
  refine aw_iload (pc' := 43) hC dX9_best_41 rfl rfl ?_
  refine aw_iconst (pc' := 44) hC dX9_best_43 rfl (by decide) ?_
  refine aw_aload_n (pc' := 45) (i := 0) hC dX9_best_44 rfl rfl rfl ?_
  obtain ⟨g10, h⟩ := gd_s h
  refine aw_getfield (pc' := 48) (v := (.inr (.inr (M v0 14)))) hC dX9_best_45 rfl fl_X9_54 g10 rfl ?_
  refine aw_aload_n (pc' := 49) (i := 0) hC dX9_best_48 rfl rfl rfl ?_
  refine aw_getfield (pc' := 52) (v := (.inl (M v0 13))) hC dX9_best_49 rfl fl_X9_51 g10 rfl ?_
  obtain ⟨g11, h⟩ := gd_s h
  refine aw_iaload (pc' := 53) hC dX9_best_52 rfl g11 ?_
  refine aw_ishl (pc' := 54) hC dX9_best_53 rfl  ?_
  refine aw_icmp_ge (tgt := 112) (pc' := 57) hC dX9_best_54 (by decide) rfl (fun c12 => ?_) (fun c12 => ?_)
  · replace h := it_n c12 h
    refine aw_sub hC [none, none, some (.inl v2), some (.inl v3), some (.inl v4), none] ⟨rfl, ⟨rfl, ⟨rfl, trivial⟩⟩⟩ (Nat.le_of_ble_eq_true rfl) ?_
    cases h
    exact hX _ rfl
  · replace h := it_p c12 h
    refine aw_iload (pc' := 59) hC dX9_best_57 rfl rfl ?_
    obtain ⟨x14, q13, h⟩ := pb_s h
    replace h := u1_s h
    refine aw_cS (pc' := 62) (k2 := 0) (n2 := 0) (st := []) (stN := [.inl x14]) hC [.inl v5] (mX9_bits q13) lk_X9_448 dX9_best_59 rfl rfl (Nat.le_of_ble_eq_true rfl) (Nat.le_of_ble_eq_true rfl) (Nat.le_of_ble_eq_true rfl) rfl (Nat.le_of_ble_eq_true rfl) rfl rfl rfl ?_
    refine aw_iload_n (pc' := 63) (i := 1) hC dX9_best_62 rfl rfl rfl ?_
    refine aw_icmp_eq (tgt := 69) (pc' := 66) hC dX9_best_63 (by decide) rfl (fun c15 => ?_) (fun c15 => ?_)
    · replace h := it_p c15 h
      refine aw_aload_n (pc' := 70) (i := 0) hC dX9_best_69 rfl rfl rfl ?_
      refine aw_iconst (pc' := 71) hC dX9_best_70 rfl (by decide) ?_
      refine aw_iconst (pc' := 72) hC dX9_best_71 rfl (by decide) ?_
      obtain ⟨M17, q16, h⟩ := pb_s h
      replace h := u1_s h
      refine aw_cV (pc' := 75) (k2 := 0) (n2 := 0) (st := []) (stN := []) hC [.inl 1, .inl 0] (mX9_copies q16) lk_X9_416 g10 dX9_best_72 rfl rfl (Nat.le_of_ble_eq_true rfl) (Nat.le_of_ble_eq_true rfl) (Nat.le_of_ble_eq_true rfl) rfl (Nat.le_of_ble_eq_true rfl) rfl rfl rfl ?_
      refine aw_aload_n (pc' := 76) (i := 0) hC dX9_best_75 rfl rfl rfl ?_
      refine aw_iconst (pc' := 77) hC dX9_best_76 rfl (by decide) ?_
      refine aw_iload (pc' := 79) hC dX9_best_77 rfl rfl ?_
      obtain ⟨⟨x19, M20⟩, q18, h⟩ := pb_s h
      replace h := u2_s h
      refine aw_cV (pc' := 82) (k2 := 0) (n2 := 0) (st := []) (stN := [.inl x19]) hC [.inl 1, .inl v5] (mX9_teaOf q18) lk_X9_514 g10 dX9_best_79 rfl rfl (Nat.le_of_ble_eq_true rfl) (Nat.le_of_ble_eq_true rfl) (Nat.le_of_ble_eq_true rfl) rfl (Nat.le_of_ble_eq_true rfl) rfl rfl rfl ?_
      refine aw_pop (pc' := 83) hC dX9_best_82 rfl rfl ?_
      refine aw_aload_n (pc' := 84) (i := 0) hC dX9_best_83 rfl rfl rfl ?_
      refine aw_iconst (pc' := 85) hC dX9_best_84 rfl (by decide) ?_
      obtain ⟨x22, q21, h⟩ := pb_s h
      replace h := u1_s h
      refine aw_cV (pc' := 88) (k2 := 0) (n2 := 0) (st := []) (stN := [.inl x22]) hC [.inl 1] (mX9_flowOf q21) lk_X9_463 g10 dX9_best_85 rfl rfl (Nat.le_of_ble_eq_true rfl) (Nat.le_of_ble_eq_true rfl) (Nat.le_of_ble_eq_true rfl) rfl (Nat.le_of_ble_eq_true rfl) rfl rfl rfl ?_
      refine aw_iload (pc' := 90) hC dX9_best_88 rfl rfl ?_
      refine aw_icmp_gt (tgt := 96) (pc' := 93) hC dX9_best_90 (by decide) rfl (fun c23 => ?_) (fun c23 => ?_)
      · replace h := it_p c23 h
        refine aw_aload_n (pc' := 97) (i := 0) hC dX9_best_96 rfl rfl rfl ?_
        refine aw_iconst (pc' := 98) hC dX9_best_97 rfl (by decide) ?_
        obtain ⟨x25, q24, h⟩ := pb_s h
        replace h := u1_s h
        refine aw_cV (pc' := 101) (k2 := 0) (n2 := 0) (st := []) (stN := [.inl x25]) hC [.inl 1] (mX9_flowOf q24) lk_X9_463 g10 dX9_best_98 rfl rfl (Nat.le_of_ble_eq_true rfl) (Nat.le_of_ble_eq_true rfl) (Nat.le_of_ble_eq_true rfl) rfl (Nat.le_of_ble_eq_true rfl) rfl rfl rfl ?_
        refine aw_istore (pc' := 103) (ls' := [some (.inr (.inr v0)), some (.inl v1), some (.inl v2), some (.inl v3), some (.inl x25), some (.inl v5)]) hC dX9_best_101 rfl (Nat.le_of_ble_eq_true rfl) rfl rfl ?_
        refine aw_iload (pc' := 105) hC dX9_best_103 rfl rfl ?_
        refine aw_istore_n (pc' := 106) (i := 3) (ls' := [some (.inr (.inr v0)), some (.inl v1), some (.inl v2), some (.inl v5), some (.inl x25), some (.inl v5)]) hC dX9_best_105 rfl rfl (Nat.le_of_ble_eq_true rfl) rfl rfl ?_
        refine aw_iinc (pc' := 109) (ls' := [some (.inr (.inr v0)), some (.inl v1), some (.inl v2), some (.inl v5), some (.inl x25), some (.inl (w32 (v5 + 1)))]) hC dX9_best_106 rfl rfl rfl rfl ?_
        refine aw_goto (tgt := 41) hC dX9_best_109 (by decide) ?_
        refine aw_sub hC [some (.inr (.inr v0)), some (.inl v1), some (.inl v2), some (.inl v5), some (.inl x25), some (.inl (w32 (v5 + 1)))] ⟨rfl, ⟨rfl, ⟨rfl, ⟨rfl, ⟨rfl, ⟨rfl, trivial⟩⟩⟩⟩⟩⟩ (Nat.le_of_ble_eq_true rfl) ?_
        cases h
        exact hL _ rfl
      · replace h := it_n c23 h
        refine aw_goto (tgt := 106) hC dX9_best_93 (by decide) ?_
        refine aw_iinc (pc' := 109) (ls' := [some (.inr (.inr v0)), some (.inl v1), some (.inl v2), some (.inl v3), some (.inl v4), some (.inl (w32 (v5 + 1)))]) hC dX9_best_106 rfl rfl rfl rfl ?_
        refine aw_goto (tgt := 41) hC dX9_best_109 (by decide) ?_
        refine aw_sub hC [some (.inr (.inr v0)), some (.inl v1), some (.inl v2), some (.inl v3), some (.inl v4), some (.inl (w32 (v5 + 1)))] ⟨rfl, ⟨rfl, ⟨rfl, ⟨rfl, ⟨rfl, ⟨rfl, trivial⟩⟩⟩⟩⟩⟩ (Nat.le_of_ble_eq_true rfl) ?_
        cases h
        exact hL _ rfl
    · replace h := it_n c15 h
      refine aw_goto (tgt := 106) hC dX9_best_66 (by decide) ?_
      refine aw_iinc (pc' := 109) (ls' := [some (.inr (.inr v0)), some (.inl v1), some (.inl v2), some (.inl v3), some (.inl v4), some (.inl (w32 (v5 + 1)))]) hC dX9_best_106 rfl rfl rfl rfl ?_
      refine aw_goto (tgt := 41) hC dX9_best_109 (by decide) ?_
      refine aw_sub hC [some (.inr (.inr v0)), some (.inl v1), some (.inl v2), some (.inl v3), some (.inl v4), some (.inl (w32 (v5 + 1)))] ⟨rfl, ⟨rfl, ⟨rfl, ⟨rfl, ⟨rfl, ⟨rfl, trivial⟩⟩⟩⟩⟩⟩ (Nat.le_of_ble_eq_true rfl) ?_
      cases h
      exact hL _ rfl
set_option maxRecDepth 100000 in
set_option maxHeartbeats 4000000 in
theorem mX9_best {sh : AwS} {M : AwM} {v0 : Int} {v1 : Int} {v2 : Int} {r : Int} {M' : AwM} (h : fX9_best sh M v0 v1 v2 = some (r, M')) : AMet yX9_best cX9_best 6 (some .int) 7 0 0 [.inr (.inr v0), .inl v1, .inl v2] sh M (some (.inl r)) sh M' := by
  refine amet_of (by decide +kernel) (Nat.le_of_ble_eq_true rfl) (fun Γ hC => ?_)
  replace hC : AOK Γ RX9 cX9_best 6 7 0 0 "best" (some .int) := hC
  unfold fX9_best at h
  refine aw_sub hC [some (.inr (.inr v0)), some (.inl v1), some (.inl v2), none, none, none] ⟨rfl, ⟨rfl, ⟨rfl, trivial⟩⟩⟩ (Nat.le_of_ble_eq_true rfl) ?_
  refine aw_iload_n (pc' := 1) (i := 1) hC dX9_best_0 rfl rfl rfl ?_
  refine aw_iconst (pc' := 2) hC dX9_best_1 rfl (by decide) ?_
  refine aw_iconst (pc' := 3) hC dX9_best_2 rfl (by decide) ?_
  obtain ⟨x2, q1, h⟩ := pb_s h
  replace h := u1_s h
  refine aw_cS (pc' := 6) (k2 := 0) (n2 := 0) (st := []) (stN := [.inl x2]) hC [.inl v1, .inl 2, .inl 4] (mX9_is q1) lk_X9_314 dX9_best_3 rfl rfl (Nat.le_of_ble_eq_true rfl) (Nat.le_of_ble_eq_true rfl) (Nat.le_of_ble_eq_true rfl) rfl (Nat.le_of_ble_eq_true rfl) rfl rfl rfl ?_
  refine aw_if_eq (tgt := 31) (pc' := 9) hC dX9_best_6 (by decide) rfl (fun c3 => ?_) (fun c3 => ?_)
  · replace h := it_p c3 h
    refine aw_iconst (pc' := 32) hC dX9_best_31 rfl (by decide) ?_
    cases h
    exact aw_iret hC dX9_best_32 (Nat.le_of_ble_eq_true rfl) (Nat.le_of_ble_eq_true rfl)
  · replace h := it_n c3 h
    refine aw_iload_n (pc' := 10) (i := 1) hC dX9_best_9 rfl rfl rfl ?_
    refine aw_aload_n (pc' := 11) (i := 0) hC dX9_best_10 rfl rfl rfl ?_
    obtain ⟨g4, h⟩ := gd_s h
    refine aw_getfield (pc' := 14) (v := (.inr (.inr (M v0 14)))) hC dX9_best_11 rfl fl_X9_54 g4 rfl ?_
    refine aw_aload_n (pc' := 15) (i := 0) hC dX9_best_14 rfl rfl rfl ?_
    refine aw_getfield (pc' := 18) (v := (.inl (M v0 13))) hC dX9_best_15 rfl fl_X9_51 g4 rfl ?_
    obtain ⟨g5, h⟩ := gd_s h
    refine aw_iaload (pc' := 19) hC dX9_best_18 rfl g5 ?_
    refine aw_icmp_gt (tgt := 31) (pc' := 22) hC dX9_best_19 (by decide) rfl (fun c6 => ?_) (fun c6 => ?_)
    · replace h := it_p c6 h
      refine aw_iconst (pc' := 32) hC dX9_best_31 rfl (by decide) ?_
      cases h
      exact aw_iret hC dX9_best_32 (Nat.le_of_ble_eq_true rfl) (Nat.le_of_ble_eq_true rfl)
    · replace h := it_n c6 h
      refine aw_iload_n (pc' := 23) (i := 2) hC dX9_best_22 rfl rfl rfl ?_
      refine aw_iconst (pc' := 24) hC dX9_best_23 rfl (by decide) ?_
      refine aw_iconst (pc' := 25) hC dX9_best_24 rfl (by decide) ?_
      obtain ⟨x8, q7, h⟩ := pb_s h
      replace h := u1_s h
      refine aw_cS (pc' := 28) (k2 := 0) (n2 := 0) (st := []) (stN := [.inl x8]) hC [.inl v2, .inl 0, .inl 1] (mX9_is q7) lk_X9_314 dX9_best_25 rfl rfl (Nat.le_of_ble_eq_true rfl) (Nat.le_of_ble_eq_true rfl) (Nat.le_of_ble_eq_true rfl) rfl (Nat.le_of_ble_eq_true rfl) rfl rfl rfl ?_
      refine aw_if_ne (tgt := 33) (pc' := 31) hC dX9_best_28 (by decide) rfl (fun c9 => ?_) (fun c9 => ?_)
      · replace h := it_n c9 h
        refine aw_iconst (pc' := 34) hC dX9_best_33 rfl (by decide) ?_
        refine aw_istore_n (pc' := 35) (i := 3) (ls' := [some (.inr (.inr v0)), some (.inl v1), some (.inl v2), some (.inl (-1)), none, none]) hC dX9_best_34 rfl rfl (Nat.le_of_ble_eq_true rfl) rfl rfl ?_
        refine aw_iconst (pc' := 36) hC dX9_best_35 rfl (by decide) ?_
        refine aw_istore (pc' := 38) (ls' := [some (.inr (.inr v0)), some (.inl v1), some (.inl v2), some (.inl (-1)), some (.inl (-1)), none]) hC dX9_best_36 rfl (Nat.le_of_ble_eq_true rfl) rfl rfl ?_
        refine aw_iconst (pc' := 39) hC dX9_best_38 rfl (by decide) ?_
        refine aw_istore (pc' := 41) (ls' := [some (.inr (.inr v0)), some (.inl v1), some (.inl v2), some (.inl (-1)), some (.inl (-1)), some (.inl 0)]) hC dX9_best_39 rfl (Nat.le_of_ble_eq_true rfl) rfl rfl ?_
        obtain ⟨tq26, q26, h⟩ := pb_s h
        refine aw_sub hC [some (.inr (.inr v0)), some (.inl v1), some (.inl v2), some (.inl (-1)), some (.inl (-1)), some (.inl 0)] ⟨rfl, ⟨rfl, ⟨rfl, ⟨rfl, ⟨rfl, ⟨rfl, trivial⟩⟩⟩⟩⟩⟩ (Nat.le_of_ble_eq_true rfl) ?_
        refine (lp_aw (p_X9_best_L41 Γ sh v0 v1 v2 (fin_ Γ 0 0 (some (.inl r)) sh M')) (x_X9_best_L41 Γ sh v0 v1 v2 (fin_ Γ 0 0 (some (.inl r)) sh M')) (w_X9_best_L41 hC ) FU _ _ q26 ?_ : p_X9_best_L41 Γ sh v0 v1 v2 (fin_ Γ 0 0 (some (.inl r)) sh M') ((-1), (-1), 0, M))
        obtain ⟨x27, x28, M29⟩ := tq26
        replace h := u3_s h
        show AW Γ sh M29 0 0 112 [none, none, some (.inl v2), some (.inl x27), some (.inl x28), none] [] _
        refine aw_iload_n (pc' := 113) (i := 2) hC dX9_best_112 rfl rfl rfl ?_
        refine aw_if_ne (tgt := 120) (pc' := 116) hC dX9_best_113 (by decide) rfl (fun c30 => ?_) (fun c30 => ?_)
        · replace h := it_n c30 h
          refine aw_iload (pc' := 122) hC dX9_best_120 rfl rfl ?_
          cases h
          exact aw_iret hC dX9_best_122 (Nat.le_of_ble_eq_true rfl) (Nat.le_of_ble_eq_true rfl)
        · replace h := it_p c30 h
          refine aw_iload_n (pc' := 117) (i := 3) hC dX9_best_116 rfl rfl rfl ?_
          refine aw_goto (tgt := 122) hC dX9_best_117 (by decide) ?_
          cases h
          exact aw_iret hC dX9_best_122 (Nat.le_of_ble_eq_true rfl) (Nat.le_of_ble_eq_true rfl)
      · replace h := it_p c9 h
        refine aw_iconst (pc' := 32) hC dX9_best_31 rfl (by decide) ?_
        cases h
        exact aw_iret hC dX9_best_32 (Nat.le_of_ble_eq_true rfl) (Nat.le_of_ble_eq_true rfl)
-- CoinCircleModel.letters()I
def fX9_letters_L34 (sh : AwS) (M : AwM) (v0 : Int) (v1 : Int) (v2 : Int) (v3 : Int) : Option ((Int × Int) ⊕ (Int)) :=
  (if v3 < v1 then (if v2 = 0 then some (.inr v2) else gd_ (kd_ sh v0 = (0, 9)) (gd_ ((kd_ sh (M v0 0)).1 = 1 ∧ (0 : Int) ≤ v3 ∧ v3 < ((kd_ sh (M v0 0)).2 : Int)) (pb (fX9_isCoin sh M v0 (M (M v0 0) v3)) <| u1 fun (x10 : Int) => ((if x10 = 0 then some (.inl (0, (w32 (v3 + 2)))) else gd_ ((kd_ sh (M v0 0)).1 = 1 ∧ (0 : Int) ≤ (w32 (v3 + 1)) ∧ (w32 (v3 + 1)) < ((kd_ sh (M v0 0)).2 : Int)) (pb (fX9_isPerson sh M v0 (M (M v0 0) (w32 (v3 + 1)))) <| u1 fun (x14 : Int) => ((if x14 = 0 then some (.inl (0, (w32 (v3 + 2)))) else some (.inl (1, (w32 (v3 + 2)))))))))))) else some (.inr v2))
def p_X9_letters_L34 (Γ : AwC) (sh : AwS) (M : AwM) (v0 : Int) (v1 : Int) (Q : State → Prop) (s : Int × Int) : Prop := AW Γ sh M 0 0 34 [some (.inr (.inr v0)), some (.inl v1), some (.inl (s.1)), some (.inl (s.2)), none, none, none] [] Q
def x_X9_letters_L34 (Γ : AwC) (sh : AwS) (M : AwM) (v0 : Int) (v1 : Int) (Q : State → Prop) : (Int) → Prop := (fun (t : Int) => AW Γ sh M 0 0 83 [some (.inr (.inr v0)), some (.inl v1), some (.inl (t)), none, none, none, none] [] Q)
def fX9_letters_J199_105 (sh : AwS) (M : AwM) (v0 : Int) (v3 : Int) (v4 : Int) (s0 : Int) (s1 : Int) (s2 : Int) : Option ((Int × Int × AwM) ⊕ (Int × AwM)) :=
  gd_ ((kd_ sh s0).1 = 1 ∧ (0 : Int) ≤ s1 ∧ s1 < ((kd_ sh s0).2 : Int)) (bd_ (up_ M s0 s1 s2) fun (M38 : AwM) => (gd_ (kd_ sh v0 = (0, 9)) (gd_ ((kd_ sh (M38 v0 68)).1 = 1 ∧ (0 : Int) ≤ v4 ∧ v4 < ((kd_ sh (M38 v0 68)).2 : Int)) ((if 0 < (M38 (M38 v0 68) v4) then some (.inl ((w32 (v3 + 1)), (w32 (v4 + 1)), M38)) else some (.inl ((w32 (v3 + 0)), (w32 (v4 + 1)), M38)))))))
def fX9_letters_L105 (sh : AwS) (v0 : Int) (v3 : Int) (v4 : Int) (M : AwM) : Option ((Int × Int × AwM) ⊕ (Int × AwM)) :=
  gd_ (kd_ sh v0 = (0, 9)) ((if v4 < (M v0 67) then gd_ ((kd_ sh (M v0 0)).1 = 1 ∧ (0 : Int) ≤ (w32 (2 * v4)) ∧ (w32 (2 * v4)) < ((kd_ sh (M v0 0)).2 : Int)) (gd_ ((kd_ sh (M v0 0)).1 = 1 ∧ (0 : Int) ≤ (w32 ((w32 (2 * v4)) + 1)) ∧ (w32 ((w32 (2 * v4)) + 1)) < ((kd_ sh (M v0 0)).2 : Int)) (gd_ ((kd_ sh (M v0 50)).1 = 1 ∧ (0 : Int) ≤ (M (M v0 0) (w32 (2 * v4))) ∧ (M (M v0 0) (w32 (2 * v4))) < ((kd_ sh (M v0 50)).2 : Int)) (pb (fX9_has2 sh M (M (M v0 50) (M (M v0 0) (w32 (2 * v4)))) (M (M v0 0) (w32 ((w32 (2 * v4)) + 1)))) <| u1 fun (x27 : Int) => ((if x27 = 0 then gd_ ((kd_ sh (M v0 51)).1 = 1 ∧ (0 : Int) ≤ (M (M v0 0) (w32 (2 * v4))) ∧ (M (M v0 0) (w32 (2 * v4))) < ((kd_ sh (M v0 51)).2 : Int)) (pb (fX9_has2 sh M (M (M v0 51) (M (M v0 0) (w32 (2 * v4)))) (M (M v0 0) (w32 ((w32 (2 * v4)) + 1)))) <| u1 fun (x31 : Int) => ((if x31 = 0 then pb (fX9_wouldKnow sh M v0 0 (M (M v0 0) (w32 (2 * v4))) (M (M v0 0) (w32 ((w32 (2 * v4)) + 1)))) <| u2 fun (x34 : Int) (M35 : AwM) => ((if x34 = 0 then fX9_letters_J199_105 sh M35 v0 v3 v4 (M v0 68) v4 3 else fX9_letters_J199_105 sh M35 v0 v3 v4 (M v0 68) v4 0)) else fX9_letters_J199_105 sh M v0 v3 v4 (M v0 68) v4 2))) else fX9_letters_J199_105 sh M v0 v3 v4 (M v0 68) v4 1))))) else some (.inr (v3, M))))
def p_X9_letters_L105 (Γ : AwC) (sh : AwS) (v0 : Int) (Q : State → Prop) (s : Int × Int × AwM) : Prop := AW Γ sh (s.2.2) 0 0 105 [some (.inr (.inr v0)), none, none, some (.inl (s.1)), some (.inl (s.2.1)), none, none] [] Q
def x_X9_letters_L105 (Γ : AwC) (sh : AwS) (v0 : Int) (Q : State → Prop) : (Int × AwM) → Prop := (fun (t : Int × AwM) => AW Γ sh (t.2) 0 0 224 [none, none, none, some (.inl (t.1)), none, none, none] [] Q)
def fX9_letters_J83 (sh : AwS) (M : AwM) (v0 : Int) (v1 : Int) (v2 : Int) : Option (Int × AwM) :=
  (if v2 = 0 then gd_ (kd_ sh v0 = (0, 9)) (pb (fX9_refuses sh M v0 5) <| u2 fun (x48 : Int) (M49 : AwM) => (some (x48, M49))) else gd_ (kd_ sh v0 = (0, 9)) (bd_ (up_ M v0 67 (w32 (v1.tdiv 2))) fun (M19 : AwM) => (pb (lp (u3 (fX9_letters_L105 sh v0)) FU (0, 0, M19)) (u2 (fun (x44 : Int) (M45 : AwM) => some (x44, M45))))))
def fX9_letters (sh : AwS) (M : AwM) (v0 : Int) : Option (Int × AwM) :=
  gd_ (kd_ sh v0 = (0, 9)) (bd_ (up_ M v0 1 0) fun (M2 : AwM) => ((if 0 < (M v0 1) then (if (((M v0 1) : Int).tmod 2) = 0 then (if 40 < (M v0 1) then pb (lp (u2 (fX9_letters_L34 sh M2 v0 (M v0 1))) FU (0, 0)) (u1 (fun (tq53 : Int) => fX9_letters_J83 sh M2 v0 (M v0 1) tq53)) else pb (lp (u2 (fX9_letters_L34 sh M2 v0 (M v0 1))) FU (1, 0)) (u1 (fun (tq54 : Int) => fX9_letters_J83 sh M2 v0 (M v0 1) tq54))) else pb (lp (u2 (fX9_letters_L34 sh M2 v0 (M v0 1))) FU (0, 0)) (u1 (fun (tq51 : Int) => fX9_letters_J83 sh M2 v0 (M v0 1) tq51))) else pb (lp (u2 (fX9_letters_L34 sh M2 v0 (M v0 1))) FU (0, 0)) (u1 (fun (tq16 : Int) => fX9_letters_J83 sh M2 v0 (M v0 1) tq16)))))
set_option maxRecDepth 100000 in
set_option maxHeartbeats 4000000 in
theorem w_X9_letters_L34 {Γ : AwC} (hC : AOK Γ RX9 cX9_letters 7 6 0 0 "letters" (some .int)) {sh : AwS} {M : AwM} {v0 : Int} {v1 : Int} {Q : State → Prop} : ∀ s r, u2 (fX9_letters_L34 sh M v0 v1) s = some r → (∀ s', r = .inl s' → p_X9_letters_L34 Γ sh M v0 v1 Q s') → (∀ t, r = .inr t → x_X9_letters_L34 Γ sh M v0 v1 Q t) → p_X9_letters_L34 Γ sh M v0 v1 Q s := by
  intro s r h hL hX
  obtain ⟨v2, v3⟩ := s
  replace h := u2_s h
  unfold fX9_letters_L34 at h
  show AW Γ sh M 0 0 34 [some (.inr (.inr v0)), some (.inl v1), some (.inl v2), some (.inl v3), none, none, none] [] Q
  refine aw_iload_n (pc' := 35) (i := 3) hC dX9_letters_34 rfl rfl rfl ?_
  refine aw_iload_n (pc' := 36) (i := 1) hC dX9_letters_35 rfl rfl rfl ?_
  refine aw_icmp_ge (tgt := 83) (pc' := 39) hC dX9_letters_36 (by decide) rfl (fun c5 => ?_) (fun c5 => ?_)
  · replace h := it_n c5 h
    refine aw_sub hC [some (.inr (.inr v0)), some (.inl v1), some (.inl v2), none, none, none, none] ⟨rfl, ⟨rfl, ⟨rfl, trivial⟩⟩⟩ (Nat.le_of_ble_eq_true rfl) ?_
    cases h
    exact hX _ rfl
  · replace h := it_p c5 h
    refine aw_iload_n (pc' := 40) (i := 2) hC dX9_letters_39 rfl rfl rfl ?_
    refine aw_if_eq (tgt := 83) (pc' := 43) hC dX9_letters_40 (by decide) rfl (fun c6 => ?_) (fun c6 => ?_)
    · replace h := it_p c6 h
      refine aw_sub hC [some (.inr (.inr v0)), some (.inl v1), some (.inl v2), none, none, none, none] ⟨rfl, ⟨rfl, ⟨rfl, trivial⟩⟩⟩ (Nat.le_of_ble_eq_true rfl) ?_
      cases h
      exact hX _ rfl
    · replace h := it_n c6 h
      refine aw_aload_n (pc' := 44) (i := 0) hC dX9_letters_43 rfl rfl rfl ?_
      refine aw_aload_n (pc' := 45) (i := 0) hC dX9_letters_44 rfl rfl rfl ?_
      obtain ⟨g7, h⟩ := gd_s h
      refine aw_getfield (pc' := 48) (v := (.inr (.inr (M v0 0)))) hC dX9_letters_45 rfl fl_X9_7 g7 rfl ?_
      refine aw_iload_n (pc' := 49) (i := 3) hC dX9_letters_48 rfl rfl rfl ?_
      obtain ⟨g8, h⟩ := gd_s h
      refine aw_iaload (pc' := 50) hC dX9_letters_49 rfl g8 ?_
      obtain ⟨x10, q9, h⟩ := pb_s h
      replace h := u1_s h
      refine aw_cV (pc' := 53) (k2 := 0) (n2 := 0) (st := []) (stN := [.inl x10]) hC [.inl (M (M v0 0) v3)] (mX9_isCoin q9) lk_X9_477 g7 dX9_letters_50 rfl rfl (Nat.le_of_ble_eq_true rfl) (Nat.le_of_ble_eq_true rfl) (Nat.le_of_ble_eq_true rfl) rfl (Nat.le_of_ble_eq_true rfl) rfl rfl rfl ?_
      refine aw_if_eq (tgt := 75) (pc' := 56) hC dX9_letters_53 (by decide) rfl (fun c11 => ?_) (fun c11 => ?_)
      · replace h := it_p c11 h
        refine aw_iconst (pc' := 76) hC dX9_letters_75 rfl (by decide) ?_
        refine aw_istore_n (pc' := 77) (i := 2) (ls' := [some (.inr (.inr v0)), some (.inl v1), some (.inl 0), some (.inl v3), none, none, none]) hC dX9_letters_76 rfl rfl (Nat.le_of_ble_eq_true rfl) rfl rfl ?_
        refine aw_iinc (pc' := 80) (ls' := [some (.inr (.inr v0)), some (.inl v1), some (.inl 0), some (.inl (w32 (v3 + 2))), none, none, none]) hC dX9_letters_77 rfl rfl rfl rfl ?_
        refine aw_goto (tgt := 34) hC dX9_letters_80 (by decide) ?_
        refine aw_sub hC [some (.inr (.inr v0)), some (.inl v1), some (.inl 0), some (.inl (w32 (v3 + 2))), none, none, none] ⟨rfl, ⟨rfl, ⟨rfl, ⟨rfl, trivial⟩⟩⟩⟩ (Nat.le_of_ble_eq_true rfl) ?_
        cases h
        exact hL _ rfl
      · replace h := it_n c11 h
        refine aw_aload_n (pc' := 57) (i := 0) hC dX9_letters_56 rfl rfl rfl ?_
        refine aw_aload_n (pc' := 58) (i := 0) hC dX9_letters_57 rfl rfl rfl ?_
        refine aw_getfield (pc' := 61) (v := (.inr (.inr (M v0 0)))) hC dX9_letters_58 rfl fl_X9_7 g7 rfl ?_
        refine aw_iload_n (pc' := 62) (i := 3) hC dX9_letters_61 rfl rfl rfl ?_
        refine aw_iconst (pc' := 63) hC dX9_letters_62 rfl (by decide) ?_
        refine aw_iadd (pc' := 64) hC dX9_letters_63 rfl  ?_
        obtain ⟨g12, h⟩ := gd_s h
        refine aw_iaload (pc' := 65) hC dX9_letters_64 rfl g12 ?_
        obtain ⟨x14, q13, h⟩ := pb_s h
        replace h := u1_s h
        refine aw_cV (pc' := 68) (k2 := 0) (n2 := 0) (st := []) (stN := [.inl x14]) hC [.inl (M (M v0 0) (w32 (v3 + 1)))] (mX9_isPerson q13) lk_X9_471 g7 dX9_letters_65 rfl rfl (Nat.le_of_ble_eq_true rfl) (Nat.le_of_ble_eq_true rfl) (Nat.le_of_ble_eq_true rfl) rfl (Nat.le_of_ble_eq_true rfl) rfl rfl rfl ?_
        refine aw_if_eq (tgt := 75) (pc' := 71) hC dX9_letters_68 (by decide) rfl (fun c15 => ?_) (fun c15 => ?_)
        · replace h := it_p c15 h
          refine aw_iconst (pc' := 76) hC dX9_letters_75 rfl (by decide) ?_
          refine aw_istore_n (pc' := 77) (i := 2) (ls' := [some (.inr (.inr v0)), some (.inl v1), some (.inl 0), some (.inl v3), none, none, none]) hC dX9_letters_76 rfl rfl (Nat.le_of_ble_eq_true rfl) rfl rfl ?_
          refine aw_iinc (pc' := 80) (ls' := [some (.inr (.inr v0)), some (.inl v1), some (.inl 0), some (.inl (w32 (v3 + 2))), none, none, none]) hC dX9_letters_77 rfl rfl rfl rfl ?_
          refine aw_goto (tgt := 34) hC dX9_letters_80 (by decide) ?_
          refine aw_sub hC [some (.inr (.inr v0)), some (.inl v1), some (.inl 0), some (.inl (w32 (v3 + 2))), none, none, none] ⟨rfl, ⟨rfl, ⟨rfl, ⟨rfl, trivial⟩⟩⟩⟩ (Nat.le_of_ble_eq_true rfl) ?_
          cases h
          exact hL _ rfl
        · replace h := it_n c15 h
          refine aw_iconst (pc' := 72) hC dX9_letters_71 rfl (by decide) ?_
          refine aw_goto (tgt := 76) hC dX9_letters_72 (by decide) ?_
          refine aw_istore_n (pc' := 77) (i := 2) (ls' := [some (.inr (.inr v0)), some (.inl v1), some (.inl 1), some (.inl v3), none, none, none]) hC dX9_letters_76 rfl rfl (Nat.le_of_ble_eq_true rfl) rfl rfl ?_
          refine aw_iinc (pc' := 80) (ls' := [some (.inr (.inr v0)), some (.inl v1), some (.inl 1), some (.inl (w32 (v3 + 2))), none, none, none]) hC dX9_letters_77 rfl rfl rfl rfl ?_
          refine aw_goto (tgt := 34) hC dX9_letters_80 (by decide) ?_
          refine aw_sub hC [some (.inr (.inr v0)), some (.inl v1), some (.inl 1), some (.inl (w32 (v3 + 2))), none, none, none] ⟨rfl, ⟨rfl, ⟨rfl, ⟨rfl, trivial⟩⟩⟩⟩ (Nat.le_of_ble_eq_true rfl) ?_
          cases h
          exact hL _ rfl
set_option maxRecDepth 100000 in
set_option maxHeartbeats 4000000 in
theorem w_X9_letters_J199_105 {Γ : AwC} (hC : AOK Γ RX9 cX9_letters 7 6 0 0 "letters" (some .int)) {sh : AwS} {M : AwM} {v0 : Int} {v3 : Int} {v4 : Int} {s0 : Int} {s1 : Int} {s2 : Int} {Q : State → Prop} {r : (Int × Int × AwM) ⊕ (Int × AwM)} (h : fX9_letters_J199_105 sh M v0 v3 v4 s0 s1 s2 = some r) (hL : ∀ s', r = .inl s' → p_X9_letters_L105 Γ sh v0 Q s') (hX : ∀ t, r = .inr t → x_X9_letters_L105 Γ sh v0 Q t) : AW Γ sh M 0 0 199 [some (.inr (.inr v0)), none, none, some (.inl v3), some (.inl v4), none, none] [.inl s2, .inl s1, .inr (.inr s0)] Q := by
  unfold fX9_letters_J199_105 at h
  obtain ⟨g37, h⟩ := gd_s h
  obtain ⟨M38, e39, h⟩ := bd_s h
  refine aw_ias (pc' := 200) hC dX9_letters_199 rfl g37 e39 ?_
  refine aw_iload_n (pc' := 201) (i := 3) hC dX9_letters_200 rfl rfl rfl ?_
  refine aw_aload_n (pc' := 202) (i := 0) hC dX9_letters_201 rfl rfl rfl ?_
  obtain ⟨g40, h⟩ := gd_s h
  refine aw_getfield (pc' := 205) (v := (.inr (.inr (M38 v0 68)))) hC dX9_letters_202 rfl fl_X9_219 g40 rfl ?_
  refine aw_iload (pc' := 207) hC dX9_letters_205 rfl rfl ?_
  obtain ⟨g41, h⟩ := gd_s h
  refine aw_iaload (pc' := 208) hC dX9_letters_207 rfl g41 ?_
  refine aw_if_le (tgt := 215) (pc' := 211) hC dX9_letters_208 (by decide) rfl (fun c42 => ?_) (fun c42 => ?_)
  · replace h := it_n c42 h
    refine aw_iconst (pc' := 216) hC dX9_letters_215 rfl (by decide) ?_
    refine aw_iadd (pc' := 217) hC dX9_letters_216 rfl  ?_
    refine aw_istore_n (pc' := 218) (i := 3) (ls' := [some (.inr (.inr v0)), none, none, some (.inl (w32 (v3 + 0))), some (.inl v4), none, none]) hC dX9_letters_217 rfl rfl (Nat.le_of_ble_eq_true rfl) rfl rfl ?_
    refine aw_iinc (pc' := 221) (ls' := [some (.inr (.inr v0)), none, none, some (.inl (w32 (v3 + 0))), some (.inl (w32 (v4 + 1))), none, none]) hC dX9_letters_218 rfl rfl rfl rfl ?_
    refine aw_goto (tgt := 105) hC dX9_letters_221 (by decide) ?_
    refine aw_sub hC [some (.inr (.inr v0)), none, none, some (.inl (w32 (v3 + 0))), some (.inl (w32 (v4 + 1))), none, none] ⟨rfl, ⟨rfl, ⟨rfl, trivial⟩⟩⟩ (Nat.le_of_ble_eq_true rfl) ?_
    cases h
    exact hL _ rfl
  · replace h := it_p c42 h
    refine aw_iconst (pc' := 212) hC dX9_letters_211 rfl (by decide) ?_
    refine aw_goto (tgt := 216) hC dX9_letters_212 (by decide) ?_
    refine aw_iadd (pc' := 217) hC dX9_letters_216 rfl  ?_
    refine aw_istore_n (pc' := 218) (i := 3) (ls' := [some (.inr (.inr v0)), none, none, some (.inl (w32 (v3 + 1))), some (.inl v4), none, none]) hC dX9_letters_217 rfl rfl (Nat.le_of_ble_eq_true rfl) rfl rfl ?_
    refine aw_iinc (pc' := 221) (ls' := [some (.inr (.inr v0)), none, none, some (.inl (w32 (v3 + 1))), some (.inl (w32 (v4 + 1))), none, none]) hC dX9_letters_218 rfl rfl rfl rfl ?_
    refine aw_goto (tgt := 105) hC dX9_letters_221 (by decide) ?_
    refine aw_sub hC [some (.inr (.inr v0)), none, none, some (.inl (w32 (v3 + 1))), some (.inl (w32 (v4 + 1))), none, none] ⟨rfl, ⟨rfl, ⟨rfl, trivial⟩⟩⟩ (Nat.le_of_ble_eq_true rfl) ?_
    cases h
    exact hL _ rfl
set_option maxRecDepth 100000 in
set_option maxHeartbeats 4000000 in
theorem w_X9_letters_L105 {Γ : AwC} (hC : AOK Γ RX9 cX9_letters 7 6 0 0 "letters" (some .int)) {sh : AwS} {v0 : Int} {Q : State → Prop} : ∀ s r, u3 (fX9_letters_L105 sh v0) s = some r → (∀ s', r = .inl s' → p_X9_letters_L105 Γ sh v0 Q s') → (∀ t, r = .inr t → x_X9_letters_L105 Γ sh v0 Q t) → p_X9_letters_L105 Γ sh v0 Q s := by
  intro s r h hL hX
  obtain ⟨v3, v4, M⟩ := s
  replace h := u3_s h
  unfold fX9_letters_L105 at h
  show AW Γ sh M 0 0 105 [some (.inr (.inr v0)), none, none, some (.inl v3), some (.inl v4), none, none] [] Q
  refine aw_iload (pc' := 107) hC dX9_letters_105 rfl rfl ?_
  refine aw_aload_n (pc' := 108) (i := 0) hC dX9_letters_107 rfl rfl rfl ?_
  obtain ⟨g21, h⟩ := gd_s h
  refine aw_getfield (pc' := 111) (v := (.inl (M v0 67))) hC dX9_letters_108 rfl fl_X9_216 g21 rfl ?_
  refine aw_icmp_ge (tgt := 224) (pc' := 114) hC dX9_letters_111 (by decide) rfl (fun c22 => ?_) (fun c22 => ?_)
  · replace h := it_n c22 h
    refine aw_sub hC [none, none, none, some (.inl v3), none, none, none] ⟨rfl, trivial⟩ (Nat.le_of_ble_eq_true rfl) ?_
    cases h
    exact hX _ rfl
  · replace h := it_p c22 h
    refine aw_aload_n (pc' := 115) (i := 0) hC dX9_letters_114 rfl rfl rfl ?_
    refine aw_getfield (pc' := 118) (v := (.inr (.inr (M v0 0)))) hC dX9_letters_115 rfl fl_X9_7 g21 rfl ?_
    refine aw_iconst (pc' := 119) hC dX9_letters_118 rfl (by decide) ?_
    refine aw_iload (pc' := 121) hC dX9_letters_119 rfl rfl ?_
    refine aw_imul (pc' := 122) hC dX9_letters_121 rfl  ?_
    obtain ⟨g23, h⟩ := gd_s h
    refine aw_iaload (pc' := 123) hC dX9_letters_122 rfl g23 ?_
    refine aw_istore (pc' := 125) (ls' := [some (.inr (.inr v0)), none, none, some (.inl v3), some (.inl v4), some (.inl (M (M v0 0) (w32 (2 * v4)))), none]) hC dX9_letters_123 rfl (Nat.le_of_ble_eq_true rfl) rfl rfl ?_
    refine aw_aload_n (pc' := 126) (i := 0) hC dX9_letters_125 rfl rfl rfl ?_
    refine aw_getfield (pc' := 129) (v := (.inr (.inr (M v0 0)))) hC dX9_letters_126 rfl fl_X9_7 g21 rfl ?_
    refine aw_iconst (pc' := 130) hC dX9_letters_129 rfl (by decide) ?_
    refine aw_iload (pc' := 132) hC dX9_letters_130 rfl rfl ?_
    refine aw_imul (pc' := 133) hC dX9_letters_132 rfl  ?_
    refine aw_iconst (pc' := 134) hC dX9_letters_133 rfl (by decide) ?_
    refine aw_iadd (pc' := 135) hC dX9_letters_134 rfl  ?_
    obtain ⟨g24, h⟩ := gd_s h
    refine aw_iaload (pc' := 136) hC dX9_letters_135 rfl g24 ?_
    refine aw_istore (pc' := 138) (ls' := [some (.inr (.inr v0)), none, none, some (.inl v3), some (.inl v4), some (.inl (M (M v0 0) (w32 (2 * v4)))), some (.inl (M (M v0 0) (w32 ((w32 (2 * v4)) + 1))))]) hC dX9_letters_136 rfl (Nat.le_of_ble_eq_true rfl) rfl rfl ?_
    refine aw_aload_n (pc' := 139) (i := 0) hC dX9_letters_138 rfl rfl rfl ?_
    refine aw_getfield (pc' := 142) (v := (.inr (.inr (M v0 68)))) hC dX9_letters_139 rfl fl_X9_219 g21 rfl ?_
    refine aw_iload (pc' := 144) hC dX9_letters_142 rfl rfl ?_
    refine aw_aload_n (pc' := 145) (i := 0) hC dX9_letters_144 rfl rfl rfl ?_
    refine aw_getfield (pc' := 148) (v := (.inr (.inr (M v0 50)))) hC dX9_letters_145 rfl fl_X9_165 g21 rfl ?_
    refine aw_iload (pc' := 150) hC dX9_letters_148 rfl rfl ?_
    obtain ⟨g25, h⟩ := gd_s h
    refine aw_iaload (pc' := 151) hC dX9_letters_150 rfl g25 ?_
    refine aw_iload (pc' := 153) hC dX9_letters_151 rfl rfl ?_
    obtain ⟨x27, q26, h⟩ := pb_s h
    replace h := u1_s h
    refine aw_cS (pc' := 156) (k2 := 0) (n2 := 0) (st := [.inl v4, .inr (.inr (M v0 68))]) (stN := [.inl x27, .inl v4, .inr (.inr (M v0 68))]) hC [.inl (M (M v0 50) (M (M v0 0) (w32 (2 * v4)))), .inl (M (M v0 0) (w32 ((w32 (2 * v4)) + 1)))] (mX9_has2 q26) lk_X9_373 dX9_letters_153 rfl rfl (Nat.le_of_ble_eq_true rfl) (Nat.le_of_ble_eq_true rfl) (Nat.le_of_ble_eq_true rfl) rfl (Nat.le_of_ble_eq_true rfl) rfl rfl rfl ?_
    refine aw_if_eq (tgt := 163) (pc' := 159) hC dX9_letters_156 (by decide) rfl (fun c28 => ?_) (fun c28 => ?_)
    · replace h := it_p c28 h
      refine aw_aload_n (pc' := 164) (i := 0) hC dX9_letters_163 rfl rfl rfl ?_
      refine aw_getfield (pc' := 167) (v := (.inr (.inr (M v0 51)))) hC dX9_letters_164 rfl fl_X9_168 g21 rfl ?_
      refine aw_iload (pc' := 169) hC dX9_letters_167 rfl rfl ?_
      obtain ⟨g29, h⟩ := gd_s h
      refine aw_iaload (pc' := 170) hC dX9_letters_169 rfl g29 ?_
      refine aw_iload (pc' := 172) hC dX9_letters_170 rfl rfl ?_
      obtain ⟨x31, q30, h⟩ := pb_s h
      replace h := u1_s h
      refine aw_cS (pc' := 175) (k2 := 0) (n2 := 0) (st := [.inl v4, .inr (.inr (M v0 68))]) (stN := [.inl x31, .inl v4, .inr (.inr (M v0 68))]) hC [.inl (M (M v0 51) (M (M v0 0) (w32 (2 * v4)))), .inl (M (M v0 0) (w32 ((w32 (2 * v4)) + 1)))] (mX9_has2 q30) lk_X9_373 dX9_letters_172 rfl rfl (Nat.le_of_ble_eq_true rfl) (Nat.le_of_ble_eq_true rfl) (Nat.le_of_ble_eq_true rfl) rfl (Nat.le_of_ble_eq_true rfl) rfl rfl rfl ?_
      refine aw_if_eq (tgt := 182) (pc' := 178) hC dX9_letters_175 (by decide) rfl (fun c32 => ?_) (fun c32 => ?_)
      · replace h := it_p c32 h
        refine aw_aload_n (pc' := 183) (i := 0) hC dX9_letters_182 rfl rfl rfl ?_
        refine aw_iconst (pc' := 184) hC dX9_letters_183 rfl (by decide) ?_
        refine aw_iload (pc' := 186) hC dX9_letters_184 rfl rfl ?_
        refine aw_iload (pc' := 188) hC dX9_letters_186 rfl rfl ?_
        obtain ⟨⟨x34, M35⟩, q33, h⟩ := pb_s h
        replace h := u2_s h
        refine aw_cV (pc' := 191) (k2 := 0) (n2 := 0) (st := [.inl v4, .inr (.inr (M v0 68))]) (stN := [.inl x34, .inl v4, .inr (.inr (M v0 68))]) hC [.inl 0, .inl (M (M v0 0) (w32 (2 * v4))), .inl (M (M v0 0) (w32 ((w32 (2 * v4)) + 1)))] (mX9_wouldKnow q33) lk_X9_483 g21 dX9_letters_188 rfl rfl (Nat.le_of_ble_eq_true rfl) (Nat.le_of_ble_eq_true rfl) (Nat.le_of_ble_eq_true rfl) rfl (Nat.le_of_ble_eq_true rfl) rfl rfl rfl ?_
        refine aw_if_eq (tgt := 198) (pc' := 194) hC dX9_letters_191 (by decide) rfl (fun c36 => ?_) (fun c36 => ?_)
        · replace h := it_p c36 h
          refine aw_iconst (pc' := 199) hC dX9_letters_198 rfl (by decide) ?_
          refine aw_sub hC [some (.inr (.inr v0)), none, none, some (.inl v3), some (.inl v4), none, none] ⟨rfl, ⟨rfl, ⟨rfl, trivial⟩⟩⟩ (Nat.le_of_ble_eq_true rfl) ?_
          exact w_X9_letters_J199_105 hC h hL hX
        · replace h := it_n c36 h
          refine aw_iconst (pc' := 195) hC dX9_letters_194 rfl (by decide) ?_
          refine aw_goto (tgt := 199) hC dX9_letters_195 (by decide) ?_
          refine aw_sub hC [some (.inr (.inr v0)), none, none, some (.inl v3), some (.inl v4), none, none] ⟨rfl, ⟨rfl, ⟨rfl, trivial⟩⟩⟩ (Nat.le_of_ble_eq_true rfl) ?_
          exact w_X9_letters_J199_105 hC h hL hX
      · replace h := it_n c32 h
        refine aw_iconst (pc' := 179) hC dX9_letters_178 rfl (by decide) ?_
        refine aw_goto (tgt := 199) hC dX9_letters_179 (by decide) ?_
        refine aw_sub hC [some (.inr (.inr v0)), none, none, some (.inl v3), some (.inl v4), none, none] ⟨rfl, ⟨rfl, ⟨rfl, trivial⟩⟩⟩ (Nat.le_of_ble_eq_true rfl) ?_
        exact w_X9_letters_J199_105 hC h hL hX
    · replace h := it_n c28 h
      refine aw_iconst (pc' := 160) hC dX9_letters_159 rfl (by decide) ?_
      refine aw_goto (tgt := 199) hC dX9_letters_160 (by decide) ?_
      refine aw_sub hC [some (.inr (.inr v0)), none, none, some (.inl v3), some (.inl v4), none, none] ⟨rfl, ⟨rfl, ⟨rfl, trivial⟩⟩⟩ (Nat.le_of_ble_eq_true rfl) ?_
      exact w_X9_letters_J199_105 hC h hL hX
set_option maxRecDepth 100000 in
set_option maxHeartbeats 4000000 in
theorem w_X9_letters_J83 {Γ : AwC} (hC : AOK Γ RX9 cX9_letters 7 6 0 0 "letters" (some .int)) {sh : AwS} {M : AwM} {v0 : Int} {v1 : Int} {v2 : Int} {r : Int} {M' : AwM} (h : fX9_letters_J83 sh M v0 v1 v2 = some (r, M')) {Q : State → Prop} (hQ : Q = (fin_ Γ 0 0 (some (.inl r)) sh M')) : AW Γ sh M 0 0 83 [some (.inr (.inr v0)), some (.inl v1), some (.inl v2), none, none, none, none] [] Q := by
  unfold fX9_letters_J83 at h
  refine aw_iload_n (pc' := 84) (i := 2) hC dX9_letters_83 rfl rfl rfl ?_
  refine aw_if_ne (tgt := 93) (pc' := 87) hC dX9_letters_84 (by decide) rfl (fun c17 => ?_) (fun c17 => ?_)
  · replace h := it_n c17 h
    refine aw_aload_n (pc' := 94) (i := 0) hC dX9_letters_93 rfl rfl rfl ?_
    refine aw_iload_n (pc' := 95) (i := 1) hC dX9_letters_94 rfl rfl rfl ?_
    refine aw_iconst (pc' := 96) hC dX9_letters_95 rfl (by decide) ?_
    refine aw_idiv (pc' := 97) hC dX9_letters_96 rfl (by decide) ?_
    obtain ⟨g18, h⟩ := gd_s h
    obtain ⟨M19, e20, h⟩ := bd_s h
    refine aw_pf (pc' := 100) hC dX9_letters_97 rfl fp_X9_216 g18 rfl trivial e20 ?_
    refine aw_iconst (pc' := 101) hC dX9_letters_100 rfl (by decide) ?_
    refine aw_istore_n (pc' := 102) (i := 3) (ls' := [some (.inr (.inr v0)), some (.inl v1), some (.inl v2), some (.inl 0), none, none, none]) hC dX9_letters_101 rfl rfl (Nat.le_of_ble_eq_true rfl) rfl rfl ?_
    refine aw_iconst (pc' := 103) hC dX9_letters_102 rfl (by decide) ?_
    refine aw_istore (pc' := 105) (ls' := [some (.inr (.inr v0)), some (.inl v1), some (.inl v2), some (.inl 0), some (.inl 0), none, none]) hC dX9_letters_103 rfl (Nat.le_of_ble_eq_true rfl) rfl rfl ?_
    obtain ⟨tq43, q43, h⟩ := pb_s h
    refine aw_sub hC [some (.inr (.inr v0)), none, none, some (.inl 0), some (.inl 0), none, none] ⟨rfl, ⟨rfl, ⟨rfl, trivial⟩⟩⟩ (Nat.le_of_ble_eq_true rfl) ?_
    refine (lp_aw (p_X9_letters_L105 Γ sh v0 Q) (x_X9_letters_L105 Γ sh v0 Q) (w_X9_letters_L105 hC ) FU _ _ q43 ?_ : p_X9_letters_L105 Γ sh v0 Q (0, 0, M19))
    obtain ⟨x44, M45⟩ := tq43
    replace h := u2_s h
    show AW Γ sh M45 0 0 224 [none, none, none, some (.inl x44), none, none, none] [] _
    refine aw_iload_n (pc' := 225) (i := 3) hC dX9_letters_224 rfl rfl rfl ?_
    cases h
    subst hQ
    exact aw_iret hC dX9_letters_225 (Nat.le_of_ble_eq_true rfl) (Nat.le_of_ble_eq_true rfl)
  · replace h := it_p c17 h
    refine aw_aload_n (pc' := 88) (i := 0) hC dX9_letters_87 rfl rfl rfl ?_
    refine aw_iconst (pc' := 89) hC dX9_letters_88 rfl (by decide) ?_
    obtain ⟨g47, h⟩ := gd_s h
    obtain ⟨⟨x48, M49⟩, q46, h⟩ := pb_s h
    replace h := u2_s h
    refine aw_cV (pc' := 92) (k2 := 0) (n2 := 0) (st := []) (stN := [.inl x48]) hC [.inl 5] (mX9_refuses q46) lk_X9_228 g47 dX9_letters_89 rfl rfl (Nat.le_of_ble_eq_true rfl) (Nat.le_of_ble_eq_true rfl) (Nat.le_of_ble_eq_true rfl) rfl (Nat.le_of_ble_eq_true rfl) rfl rfl rfl ?_
    cases h
    subst hQ
    exact aw_iret hC dX9_letters_92 (Nat.le_of_ble_eq_true rfl) (Nat.le_of_ble_eq_true rfl)
set_option maxRecDepth 100000 in
set_option maxHeartbeats 4000000 in
theorem mX9_letters {sh : AwS} {M : AwM} {v0 : Int} {r : Int} {M' : AwM} (h : fX9_letters sh M v0 = some (r, M')) : AMet yX9_letters cX9_letters 7 (some .int) 6 0 0 [.inr (.inr v0)] sh M (some (.inl r)) sh M' := by
  refine amet_of (by decide +kernel) (Nat.le_of_ble_eq_true rfl) (fun Γ hC => ?_)
  replace hC : AOK Γ RX9 cX9_letters 7 6 0 0 "letters" (some .int) := hC
  unfold fX9_letters at h
  refine aw_sub hC [some (.inr (.inr v0)), none, none, none, none, none, none] ⟨rfl, trivial⟩ (Nat.le_of_ble_eq_true rfl) ?_
  refine aw_aload_n (pc' := 1) (i := 0) hC dX9_letters_0 rfl rfl rfl ?_
  obtain ⟨g1, h⟩ := gd_s h
  refine aw_getfield (pc' := 4) (v := (.inl (M v0 1))) hC dX9_letters_1 rfl fl_X9_13 g1 rfl ?_
  refine aw_istore_n (pc' := 5) (i := 1) (ls' := [some (.inr (.inr v0)), some (.inl (M v0 1)), none, none, none, none, none]) hC dX9_letters_4 rfl rfl (Nat.le_of_ble_eq_true rfl) rfl rfl ?_
  refine aw_aload_n (pc' := 6) (i := 0) hC dX9_letters_5 rfl rfl rfl ?_
  refine aw_iconst (pc' := 7) hC dX9_letters_6 rfl (by decide) ?_
  obtain ⟨M2, e3, h⟩ := bd_s h
  refine aw_pf (pc' := 10) hC dX9_letters_7 rfl fp_X9_13 g1 rfl trivial e3 ?_
  refine aw_iload_n (pc' := 11) (i := 1) hC dX9_letters_10 rfl rfl rfl ?_
  refine aw_if_le (tgt := 30) (pc' := 14) hC dX9_letters_11 (by decide) rfl (fun c4 => ?_) (fun c4 => ?_)
  · replace h := it_n c4 h
    refine aw_iconst (pc' := 31) hC dX9_letters_30 rfl (by decide) ?_
    refine aw_istore_n (pc' := 32) (i := 2) (ls' := [some (.inr (.inr v0)), some (.inl (M v0 1)), some (.inl 0), none, none, none, none]) hC dX9_letters_31 rfl rfl (Nat.le_of_ble_eq_true rfl) rfl rfl ?_
    refine aw_iconst (pc' := 33) hC dX9_letters_32 rfl (by decide) ?_
    refine aw_istore_n (pc' := 34) (i := 3) (ls' := [some (.inr (.inr v0)), some (.inl (M v0 1)), some (.inl 0), some (.inl 0), none, none, none]) hC dX9_letters_33 rfl rfl (Nat.le_of_ble_eq_true rfl) rfl rfl ?_
    obtain ⟨tq16, q16, h⟩ := pb_s h
    refine aw_sub hC [some (.inr (.inr v0)), some (.inl (M v0 1)), some (.inl 0), some (.inl 0), none, none, none] ⟨rfl, ⟨rfl, ⟨rfl, ⟨rfl, trivial⟩⟩⟩⟩ (Nat.le_of_ble_eq_true rfl) ?_
    refine (lp_aw (p_X9_letters_L34 Γ sh M2 v0 (M v0 1) (fin_ Γ 0 0 (some (.inl r)) sh M')) (x_X9_letters_L34 Γ sh M2 v0 (M v0 1) (fin_ Γ 0 0 (some (.inl r)) sh M')) (w_X9_letters_L34 hC ) FU _ _ q16 ?_ : p_X9_letters_L34 Γ sh M2 v0 (M v0 1) (fin_ Γ 0 0 (some (.inl r)) sh M') (0, 0))
    replace h := u1_s h
    show AW Γ sh M2 0 0 83 [some (.inr (.inr v0)), some (.inl (M v0 1)), some (.inl tq16), none, none, none, none] [] _
    refine aw_sub hC [some (.inr (.inr v0)), some (.inl (M v0 1)), some (.inl tq16), none, none, none, none] ⟨rfl, ⟨rfl, ⟨rfl, trivial⟩⟩⟩ (Nat.le_of_ble_eq_true rfl) ?_
    exact w_X9_letters_J83 hC h rfl
  · replace h := it_p c4 h
    refine aw_iload_n (pc' := 15) (i := 1) hC dX9_letters_14 rfl rfl rfl ?_
    refine aw_iconst (pc' := 16) hC dX9_letters_15 rfl (by decide) ?_
    refine aw_irem (pc' := 17) hC dX9_letters_16 rfl (by decide) ?_
    refine aw_if_ne (tgt := 30) (pc' := 20) hC dX9_letters_17 (by decide) rfl (fun c50 => ?_) (fun c50 => ?_)
    · replace h := it_n c50 h
      refine aw_iconst (pc' := 31) hC dX9_letters_30 rfl (by decide) ?_
      refine aw_istore_n (pc' := 32) (i := 2) (ls' := [some (.inr (.inr v0)), some (.inl (M v0 1)), some (.inl 0), none, none, none, none]) hC dX9_letters_31 rfl rfl (Nat.le_of_ble_eq_true rfl) rfl rfl ?_
      refine aw_iconst (pc' := 33) hC dX9_letters_32 rfl (by decide) ?_
      refine aw_istore_n (pc' := 34) (i := 3) (ls' := [some (.inr (.inr v0)), some (.inl (M v0 1)), some (.inl 0), some (.inl 0), none, none, none]) hC dX9_letters_33 rfl rfl (Nat.le_of_ble_eq_true rfl) rfl rfl ?_
      obtain ⟨tq51, q51, h⟩ := pb_s h
      refine aw_sub hC [some (.inr (.inr v0)), some (.inl (M v0 1)), some (.inl 0), some (.inl 0), none, none, none] ⟨rfl, ⟨rfl, ⟨rfl, ⟨rfl, trivial⟩⟩⟩⟩ (Nat.le_of_ble_eq_true rfl) ?_
      refine (lp_aw (p_X9_letters_L34 Γ sh M2 v0 (M v0 1) (fin_ Γ 0 0 (some (.inl r)) sh M')) (x_X9_letters_L34 Γ sh M2 v0 (M v0 1) (fin_ Γ 0 0 (some (.inl r)) sh M')) (w_X9_letters_L34 hC ) FU _ _ q51 ?_ : p_X9_letters_L34 Γ sh M2 v0 (M v0 1) (fin_ Γ 0 0 (some (.inl r)) sh M') (0, 0))
      replace h := u1_s h
      show AW Γ sh M2 0 0 83 [some (.inr (.inr v0)), some (.inl (M v0 1)), some (.inl tq51), none, none, none, none] [] _
      refine aw_sub hC [some (.inr (.inr v0)), some (.inl (M v0 1)), some (.inl tq51), none, none, none, none] ⟨rfl, ⟨rfl, ⟨rfl, trivial⟩⟩⟩ (Nat.le_of_ble_eq_true rfl) ?_
      exact w_X9_letters_J83 hC h rfl
    · replace h := it_p c50 h
      refine aw_iload_n (pc' := 21) (i := 1) hC dX9_letters_20 rfl rfl rfl ?_
      refine aw_bipush (pc' := 23) hC dX9_letters_21 rfl (by decide) ?_
      refine aw_icmp_gt (tgt := 30) (pc' := 26) hC dX9_letters_23 (by decide) rfl (fun c52 => ?_) (fun c52 => ?_)
      · replace h := it_p c52 h
        refine aw_iconst (pc' := 31) hC dX9_letters_30 rfl (by decide) ?_
        refine aw_istore_n (pc' := 32) (i := 2) (ls' := [some (.inr (.inr v0)), some (.inl (M v0 1)), some (.inl 0), none, none, none, none]) hC dX9_letters_31 rfl rfl (Nat.le_of_ble_eq_true rfl) rfl rfl ?_
        refine aw_iconst (pc' := 33) hC dX9_letters_32 rfl (by decide) ?_
        refine aw_istore_n (pc' := 34) (i := 3) (ls' := [some (.inr (.inr v0)), some (.inl (M v0 1)), some (.inl 0), some (.inl 0), none, none, none]) hC dX9_letters_33 rfl rfl (Nat.le_of_ble_eq_true rfl) rfl rfl ?_
        obtain ⟨tq53, q53, h⟩ := pb_s h
        refine aw_sub hC [some (.inr (.inr v0)), some (.inl (M v0 1)), some (.inl 0), some (.inl 0), none, none, none] ⟨rfl, ⟨rfl, ⟨rfl, ⟨rfl, trivial⟩⟩⟩⟩ (Nat.le_of_ble_eq_true rfl) ?_
        refine (lp_aw (p_X9_letters_L34 Γ sh M2 v0 (M v0 1) (fin_ Γ 0 0 (some (.inl r)) sh M')) (x_X9_letters_L34 Γ sh M2 v0 (M v0 1) (fin_ Γ 0 0 (some (.inl r)) sh M')) (w_X9_letters_L34 hC ) FU _ _ q53 ?_ : p_X9_letters_L34 Γ sh M2 v0 (M v0 1) (fin_ Γ 0 0 (some (.inl r)) sh M') (0, 0))
        replace h := u1_s h
        show AW Γ sh M2 0 0 83 [some (.inr (.inr v0)), some (.inl (M v0 1)), some (.inl tq53), none, none, none, none] [] _
        refine aw_sub hC [some (.inr (.inr v0)), some (.inl (M v0 1)), some (.inl tq53), none, none, none, none] ⟨rfl, ⟨rfl, ⟨rfl, trivial⟩⟩⟩ (Nat.le_of_ble_eq_true rfl) ?_
        exact w_X9_letters_J83 hC h rfl
      · replace h := it_n c52 h
        refine aw_iconst (pc' := 27) hC dX9_letters_26 rfl (by decide) ?_
        refine aw_goto (tgt := 31) hC dX9_letters_27 (by decide) ?_
        refine aw_istore_n (pc' := 32) (i := 2) (ls' := [some (.inr (.inr v0)), some (.inl (M v0 1)), some (.inl 1), none, none, none, none]) hC dX9_letters_31 rfl rfl (Nat.le_of_ble_eq_true rfl) rfl rfl ?_
        refine aw_iconst (pc' := 33) hC dX9_letters_32 rfl (by decide) ?_
        refine aw_istore_n (pc' := 34) (i := 3) (ls' := [some (.inr (.inr v0)), some (.inl (M v0 1)), some (.inl 1), some (.inl 0), none, none, none]) hC dX9_letters_33 rfl rfl (Nat.le_of_ble_eq_true rfl) rfl rfl ?_
        obtain ⟨tq54, q54, h⟩ := pb_s h
        refine aw_sub hC [some (.inr (.inr v0)), some (.inl (M v0 1)), some (.inl 1), some (.inl 0), none, none, none] ⟨rfl, ⟨rfl, ⟨rfl, ⟨rfl, trivial⟩⟩⟩⟩ (Nat.le_of_ble_eq_true rfl) ?_
        refine (lp_aw (p_X9_letters_L34 Γ sh M2 v0 (M v0 1) (fin_ Γ 0 0 (some (.inl r)) sh M')) (x_X9_letters_L34 Γ sh M2 v0 (M v0 1) (fin_ Γ 0 0 (some (.inl r)) sh M')) (w_X9_letters_L34 hC ) FU _ _ q54 ?_ : p_X9_letters_L34 Γ sh M2 v0 (M v0 1) (fin_ Γ 0 0 (some (.inl r)) sh M') (1, 0))
        replace h := u1_s h
        show AW Γ sh M2 0 0 83 [some (.inr (.inr v0)), some (.inl (M v0 1)), some (.inl tq54), none, none, none, none] [] _
        refine aw_sub hC [some (.inr (.inr v0)), some (.inl (M v0 1)), some (.inl tq54), none, none, none, none] ⟨rfl, ⟨rfl, ⟨rfl, trivial⟩⟩⟩ (Nat.le_of_ble_eq_true rfl) ?_
        exact w_X9_letters_J83 hC h rfl
-- CoinCircleModel.letterIs(I)I
def fX9_letterIs (sh : AwS) (M : AwM) (v0 : Int) (v1 : Int) : Option Int :=
  gd_ (kd_ sh v0 = (0, 9)) (pb (fX9_is sh M v1 0 (w32 ((M v0 67) - 1))) <| u1 fun (x3 : Int) => ((if x3 = 0 then some (-1) else gd_ ((kd_ sh (M v0 68)).1 = 1 ∧ (0 : Int) ≤ v1 ∧ v1 < ((kd_ sh (M v0 68)).2 : Int)) (some (M (M v0 68) v1)))))
set_option maxRecDepth 100000 in
set_option maxHeartbeats 4000000 in
theorem mX9_letterIs {sh : AwS} {M : AwM} {v0 : Int} {v1 : Int} {r : Int} (h : fX9_letterIs sh M v0 v1 = some r) : AMet yX9_letterIs cX9_letterIs 2 (some .int) 2 0 0 [.inr (.inr v0), .inl v1] sh M (some (.inl r)) sh M := by
  refine amet_of (by decide +kernel) (Nat.le_of_ble_eq_true rfl) (fun Γ hC => ?_)
  replace hC : AOK Γ RX9 cX9_letterIs 2 2 0 0 "letterIs" (some .int) := hC
  unfold fX9_letterIs at h
  refine aw_sub hC [some (.inr (.inr v0)), some (.inl v1)] ⟨rfl, ⟨rfl, trivial⟩⟩ (Nat.le_of_ble_eq_true rfl) ?_
  refine aw_iload_n (pc' := 1) (i := 1) hC dX9_letterIs_0 rfl rfl rfl ?_
  refine aw_iconst (pc' := 2) hC dX9_letterIs_1 rfl (by decide) ?_
  refine aw_aload_n (pc' := 3) (i := 0) hC dX9_letterIs_2 rfl rfl rfl ?_
  obtain ⟨g1, h⟩ := gd_s h
  refine aw_getfield (pc' := 6) (v := (.inl (M v0 67))) hC dX9_letterIs_3 rfl fl_X9_216 g1 rfl ?_
  refine aw_iconst (pc' := 7) hC dX9_letterIs_6 rfl (by decide) ?_
  refine aw_isub (pc' := 8) hC dX9_letterIs_7 rfl  ?_
  obtain ⟨x3, q2, h⟩ := pb_s h
  replace h := u1_s h
  refine aw_cS (pc' := 11) (k2 := 0) (n2 := 0) (st := []) (stN := [.inl x3]) hC [.inl v1, .inl 0, .inl (w32 ((M v0 67) - 1))] (mX9_is q2) lk_X9_314 dX9_letterIs_8 rfl rfl (Nat.le_of_ble_eq_true rfl) (Nat.le_of_ble_eq_true rfl) (Nat.le_of_ble_eq_true rfl) rfl (Nat.le_of_ble_eq_true rfl) rfl rfl rfl ?_
  refine aw_if_eq (tgt := 23) (pc' := 14) hC dX9_letterIs_11 (by decide) rfl (fun c4 => ?_) (fun c4 => ?_)
  · replace h := it_p c4 h
    refine aw_iconst (pc' := 24) hC dX9_letterIs_23 rfl (by decide) ?_
    cases h
    exact aw_iret hC dX9_letterIs_24 (Nat.le_of_ble_eq_true rfl) (Nat.le_of_ble_eq_true rfl)
  · replace h := it_n c4 h
    refine aw_aload_n (pc' := 15) (i := 0) hC dX9_letterIs_14 rfl rfl rfl ?_
    refine aw_getfield (pc' := 18) (v := (.inr (.inr (M v0 68)))) hC dX9_letterIs_15 rfl fl_X9_219 g1 rfl ?_
    refine aw_iload_n (pc' := 19) (i := 1) hC dX9_letterIs_18 rfl rfl rfl ?_
    obtain ⟨g5, h⟩ := gd_s h
    refine aw_iaload (pc' := 20) hC dX9_letterIs_19 rfl g5 ?_
    refine aw_goto (tgt := 24) hC dX9_letterIs_20 (by decide) ?_
    cases h
    exact aw_iret hC dX9_letterIs_24 (Nat.le_of_ble_eq_true rfl) (Nat.le_of_ble_eq_true rfl)
-- CoinCircleModel.fair(II)I
def fX9_fair_J94_37 (sh : AwS) (M : AwM) (v0 : Int) (v2 : Int) (v3 : Int) (v4 : Int) (v5 : Int) (v6 : Int) (s0 : Int) : Option ((Int × Int × Int) ⊕ (Int × Int)) :=
  (if s0 < v5 then some (.inl (v6, s0, (w32 (v6 + 1)))) else some (.inl (v4, v5, (w32 (v6 + 1)))))
def fX9_fair_L37 (sh : AwS) (M : AwM) (v0 : Int) (v2 : Int) (v3 : Int) (v4 : Int) (v5 : Int) (v6 : Int) : Option ((Int × Int × Int) ⊕ (Int × Int)) :=
  gd_ (kd_ sh v0 = (0, 9)) (gd_ ((kd_ sh (M v0 16)).1 = 1 ∧ (0 : Int) ≤ (M v0 13) ∧ (M v0 13) < ((kd_ sh (M v0 16)).2 : Int)) ((if v6 < (sl_ 1 (M (M v0 16) (M v0 13))) then (if (an_ v6 (xo_ v3 (-1))) = 0 then pb (fX9_worthAll sh M v0 v6) <| u1 fun (x15 : Int) => (pb (fX9_worthAll sh M v0 v3) <| u1 fun (x17 : Int) => ((if (w32 ((w32 (2 * x15)) - x17)) < 0 then fX9_fair_J94_37 sh M v0 v2 v3 v4 v5 v6 (w32 (-(w32 ((w32 (2 * x15)) - x17)))) else fX9_fair_J94_37 sh M v0 v2 v3 v4 v5 v6 (w32 ((w32 (2 * x15)) - x17))))) else some (.inl (v4, v5, (w32 (v6 + 1))))) else some (.inr (v4, v5)))))
def p_X9_fair_L37 (Γ : AwC) (sh : AwS) (M : AwM) (v0 : Int) (v2 : Int) (v3 : Int) (Q : State → Prop) (s : Int × Int × Int) : Prop := AW Γ sh M 0 0 37 [some (.inr (.inr v0)), none, some (.inl v2), some (.inl v3), some (.inl (s.1)), some (.inl (s.2.1)), some (.inl (s.2.2)), none] [] Q
def x_X9_fair_L37 (Γ : AwC) (sh : AwS) (M : AwM) (v0 : Int) (v2 : Int) (v3 : Int) (Q : State → Prop) : (Int × Int) → Prop := (fun (t : Int × Int) => AW Γ sh M 0 0 120 [none, none, some (.inl v2), none, some (.inl (t.1)), some (.inl (t.2)), none, none] [] Q)
def fX9_fair (sh : AwS) (M : AwM) (v0 : Int) (v1 : Int) (v2 : Int) : Option Int :=
  gd_ (kd_ sh v0 = (0, 9)) (pb (fX9_isPerson sh M v0 v1) <| u1 fun (x3 : Int) => ((if x3 = 0 then some (-1) else pb (fX9_is sh M v2 0 1) <| u1 fun (x6 : Int) => ((if x6 = 0 then some (-1) else pb (fX9_heldBy sh M v0 0 v1) <| u1 fun (x9 : Int) => (pb (lp (u3 (fX9_fair_L37 sh M v0 v2 x9)) FU ((-1), 100000000, 0)) (u2 (fun (x21 : Int) (x22 : Int) => (if v2 = 0 then some x21 else some x22)))))))))
set_option maxRecDepth 100000 in
set_option maxHeartbeats 4000000 in
theorem w_X9_fair_J94_37 {Γ : AwC} (hC : AOK Γ RX9 cX9_fair 8 3 0 0 "fair" (some .int)) {sh : AwS} {M : AwM} {v0 : Int} {v2 : Int} {v3 : Int} {v4 : Int} {v5 : Int} {v6 : Int} {s0 : Int} {Q : State → Prop} {r : (Int × Int × Int) ⊕ (Int × Int)} (h : fX9_fair_J94_37 sh M v0 v2 v3 v4 v5 v6 s0 = some r) (hL : ∀ s', r = .inl s' → p_X9_fair_L37 Γ sh M v0 v2 v3 Q s') (hX : ∀ t, r = .inr t → x_X9_fair_L37 Γ sh M v0 v2 v3 Q t) : AW Γ sh M 0 0 94 [some (.inr (.inr v0)), none, some (.inl v2), some (.inl v3), some (.inl v4), some (.inl v5), some (.inl v6), none] [.inl s0] Q := by
  unfold fX9_fair_J94_37 at h
  refine aw_istore (pc' := 96) (ls' := [some (.inr (.inr v0)), none, some (.inl v2), some (.inl v3), some (.inl v4), some (.inl v5), some (.inl v6), some (.inl s0)]) hC dX9_fair_94 rfl (Nat.le_of_ble_eq_true rfl) rfl rfl ?_
  refine aw_iload (pc' := 98) hC dX9_fair_96 rfl rfl ?_
  refine aw_iload (pc' := 100) hC dX9_fair_98 rfl rfl ?_
  refine aw_icmp_lt (tgt := 106) (pc' := 103) hC dX9_fair_100 (by decide) rfl (fun c19 => ?_) (fun c19 => ?_)
  · replace h := it_p c19 h
    refine aw_iload (pc' := 108) hC dX9_fair_106 rfl rfl ?_
    refine aw_istore (pc' := 110) (ls' := [some (.inr (.inr v0)), none, some (.inl v2), some (.inl v3), some (.inl v4), some (.inl s0), some (.inl v6), some (.inl s0)]) hC dX9_fair_108 rfl (Nat.le_of_ble_eq_true rfl) rfl rfl ?_
    refine aw_iload (pc' := 112) hC dX9_fair_110 rfl rfl ?_
    refine aw_istore (pc' := 114) (ls' := [some (.inr (.inr v0)), none, some (.inl v2), some (.inl v3), some (.inl v6), some (.inl s0), some (.inl v6), some (.inl s0)]) hC dX9_fair_112 rfl (Nat.le_of_ble_eq_true rfl) rfl rfl ?_
    refine aw_iinc (pc' := 117) (ls' := [some (.inr (.inr v0)), none, some (.inl v2), some (.inl v3), some (.inl v6), some (.inl s0), some (.inl (w32 (v6 + 1))), some (.inl s0)]) hC dX9_fair_114 rfl rfl rfl rfl ?_
    refine aw_goto (tgt := 37) hC dX9_fair_117 (by decide) ?_
    refine aw_sub hC [some (.inr (.inr v0)), none, some (.inl v2), some (.inl v3), some (.inl v6), some (.inl s0), some (.inl (w32 (v6 + 1))), none] ⟨rfl, ⟨rfl, ⟨rfl, ⟨rfl, ⟨rfl, ⟨rfl, trivial⟩⟩⟩⟩⟩⟩ (Nat.le_of_ble_eq_true rfl) ?_
    cases h
    exact hL _ rfl
  · replace h := it_n c19 h
    refine aw_goto (tgt := 114) hC dX9_fair_103 (by decide) ?_
    refine aw_iinc (pc' := 117) (ls' := [some (.inr (.inr v0)), none, some (.inl v2), some (.inl v3), some (.inl v4), some (.inl v5), some (.inl (w32 (v6 + 1))), some (.inl s0)]) hC dX9_fair_114 rfl rfl rfl rfl ?_
    refine aw_goto (tgt := 37) hC dX9_fair_117 (by decide) ?_
    refine aw_sub hC [some (.inr (.inr v0)), none, some (.inl v2), some (.inl v3), some (.inl v4), some (.inl v5), some (.inl (w32 (v6 + 1))), none] ⟨rfl, ⟨rfl, ⟨rfl, ⟨rfl, ⟨rfl, ⟨rfl, trivial⟩⟩⟩⟩⟩⟩ (Nat.le_of_ble_eq_true rfl) ?_
    cases h
    exact hL _ rfl
set_option maxRecDepth 100000 in
set_option maxHeartbeats 4000000 in
theorem w_X9_fair_L37 {Γ : AwC} (hC : AOK Γ RX9 cX9_fair 8 3 0 0 "fair" (some .int)) {sh : AwS} {M : AwM} {v0 : Int} {v2 : Int} {v3 : Int} {Q : State → Prop} : ∀ s r, u3 (fX9_fair_L37 sh M v0 v2 v3) s = some r → (∀ s', r = .inl s' → p_X9_fair_L37 Γ sh M v0 v2 v3 Q s') → (∀ t, r = .inr t → x_X9_fair_L37 Γ sh M v0 v2 v3 Q t) → p_X9_fair_L37 Γ sh M v0 v2 v3 Q s := by
  intro s r h hL hX
  obtain ⟨v4, v5, v6⟩ := s
  replace h := u3_s h
  unfold fX9_fair_L37 at h
  show AW Γ sh M 0 0 37 [some (.inr (.inr v0)), none, some (.inl v2), some (.inl v3), some (.inl v4), some (.inl v5), some (.inl v6), none] [] Q
  refine aw_iload (pc' := 39) hC dX9_fair_37 rfl rfl ?_
  refine aw_iconst (pc' := 40) hC dX9_fair_39 rfl (by decide) ?_
  refine aw_aload_n (pc' := 41) (i := 0) hC dX9_fair_40 rfl rfl rfl ?_
  obtain ⟨g10, h⟩ := gd_s h
  refine aw_getfield (pc' := 44) (v := (.inr (.inr (M v0 16)))) hC dX9_fair_41 rfl fl_X9_60 g10 rfl ?_
  refine aw_aload_n (pc' := 45) (i := 0) hC dX9_fair_44 rfl rfl rfl ?_
  refine aw_getfield (pc' := 48) (v := (.inl (M v0 13))) hC dX9_fair_45 rfl fl_X9_51 g10 rfl ?_
  obtain ⟨g11, h⟩ := gd_s h
  refine aw_iaload (pc' := 49) hC dX9_fair_48 rfl g11 ?_
  refine aw_ishl (pc' := 50) hC dX9_fair_49 rfl  ?_
  refine aw_icmp_ge (tgt := 120) (pc' := 53) hC dX9_fair_50 (by decide) rfl (fun c12 => ?_) (fun c12 => ?_)
  · replace h := it_n c12 h
    refine aw_sub hC [none, none, some (.inl v2), none, some (.inl v4), some (.inl v5), none, none] ⟨rfl, ⟨rfl, ⟨rfl, trivial⟩⟩⟩ (Nat.le_of_ble_eq_true rfl) ?_
    cases h
    exact hX _ rfl
  · replace h := it_p c12 h
    refine aw_iload (pc' := 55) hC dX9_fair_53 rfl rfl ?_
    refine aw_iload_n (pc' := 56) (i := 3) hC dX9_fair_55 rfl rfl rfl ?_
    refine aw_iconst (pc' := 57) hC dX9_fair_56 rfl (by decide) ?_
    refine aw_ixor (pc' := 58) hC dX9_fair_57 rfl  ?_
    refine aw_iand (pc' := 59) hC dX9_fair_58 rfl  ?_
    refine aw_if_eq (tgt := 65) (pc' := 62) hC dX9_fair_59 (by decide) rfl (fun c13 => ?_) (fun c13 => ?_)
    · replace h := it_p c13 h
      refine aw_iconst (pc' := 66) hC dX9_fair_65 rfl (by decide) ?_
      refine aw_aload_n (pc' := 67) (i := 0) hC dX9_fair_66 rfl rfl rfl ?_
      refine aw_iload (pc' := 69) hC dX9_fair_67 rfl rfl ?_
      obtain ⟨x15, q14, h⟩ := pb_s h
      replace h := u1_s h
      refine aw_cV (pc' := 72) (k2 := 0) (n2 := 0) (st := [.inl 2]) (stN := [.inl x15, .inl 2]) hC [.inl v6] (mX9_worthAll q14) lk_X9_474 g10 dX9_fair_69 rfl rfl (Nat.le_of_ble_eq_true rfl) (Nat.le_of_ble_eq_true rfl) (Nat.le_of_ble_eq_true rfl) rfl (Nat.le_of_ble_eq_true rfl) rfl rfl rfl ?_
      refine aw_imul (pc' := 73) hC dX9_fair_72 rfl  ?_
      refine aw_aload_n (pc' := 74) (i := 0) hC dX9_fair_73 rfl rfl rfl ?_
      refine aw_iload_n (pc' := 75) (i := 3) hC dX9_fair_74 rfl rfl rfl ?_
      obtain ⟨x17, q16, h⟩ := pb_s h
      replace h := u1_s h
      refine aw_cV (pc' := 78) (k2 := 0) (n2 := 0) (st := [.inl (w32 (2 * x15))]) (stN := [.inl x17, .inl (w32 (2 * x15))]) hC [.inl v3] (mX9_worthAll q16) lk_X9_474 g10 dX9_fair_75 rfl rfl (Nat.le_of_ble_eq_true rfl) (Nat.le_of_ble_eq_true rfl) (Nat.le_of_ble_eq_true rfl) rfl (Nat.le_of_ble_eq_true rfl) rfl rfl rfl ?_
      refine aw_isub (pc' := 79) hC dX9_fair_78 rfl  ?_
      refine aw_istore (pc' := 81) (ls' := [some (.inr (.inr v0)), none, some (.inl v2), some (.inl v3), some (.inl v4), some (.inl v5), some (.inl v6), some (.inl (w32 ((w32 (2 * x15)) - x17)))]) hC dX9_fair_79 rfl (Nat.le_of_ble_eq_true rfl) rfl rfl ?_
      refine aw_iload (pc' := 83) hC dX9_fair_81 rfl rfl ?_
      refine aw_if_ge (tgt := 92) (pc' := 86) hC dX9_fair_83 (by decide) rfl (fun c18 => ?_) (fun c18 => ?_)
      · replace h := it_n c18 h
        refine aw_iload (pc' := 94) hC dX9_fair_92 rfl rfl ?_
        refine aw_sub hC [some (.inr (.inr v0)), none, some (.inl v2), some (.inl v3), some (.inl v4), some (.inl v5), some (.inl v6), none] ⟨rfl, ⟨rfl, ⟨rfl, ⟨rfl, ⟨rfl, ⟨rfl, trivial⟩⟩⟩⟩⟩⟩ (Nat.le_of_ble_eq_true rfl) ?_
        exact w_X9_fair_J94_37 hC h hL hX
      · replace h := it_p c18 h
        refine aw_iload (pc' := 88) hC dX9_fair_86 rfl rfl ?_
        refine aw_ineg (pc' := 89) hC dX9_fair_88 rfl  ?_
        refine aw_goto (tgt := 94) hC dX9_fair_89 (by decide) ?_
        refine aw_sub hC [some (.inr (.inr v0)), none, some (.inl v2), some (.inl v3), some (.inl v4), some (.inl v5), some (.inl v6), none] ⟨rfl, ⟨rfl, ⟨rfl, ⟨rfl, ⟨rfl, ⟨rfl, trivial⟩⟩⟩⟩⟩⟩ (Nat.le_of_ble_eq_true rfl) ?_
        exact w_X9_fair_J94_37 hC h hL hX
    · replace h := it_n c13 h
      refine aw_goto (tgt := 114) hC dX9_fair_62 (by decide) ?_
      refine aw_iinc (pc' := 117) (ls' := [some (.inr (.inr v0)), none, some (.inl v2), some (.inl v3), some (.inl v4), some (.inl v5), some (.inl (w32 (v6 + 1))), none]) hC dX9_fair_114 rfl rfl rfl rfl ?_
      refine aw_goto (tgt := 37) hC dX9_fair_117 (by decide) ?_
      refine aw_sub hC [some (.inr (.inr v0)), none, some (.inl v2), some (.inl v3), some (.inl v4), some (.inl v5), some (.inl (w32 (v6 + 1))), none] ⟨rfl, ⟨rfl, ⟨rfl, ⟨rfl, ⟨rfl, ⟨rfl, trivial⟩⟩⟩⟩⟩⟩ (Nat.le_of_ble_eq_true rfl) ?_
      cases h
      exact hL _ rfl
set_option maxRecDepth 100000 in
set_option maxHeartbeats 4000000 in
theorem mX9_fair {sh : AwS} {M : AwM} {v0 : Int} {v1 : Int} {v2 : Int} {r : Int} (h : fX9_fair sh M v0 v1 v2 = some r) : AMet yX9_fair cX9_fair 8 (some .int) 3 0 0 [.inr (.inr v0), .inl v1, .inl v2] sh M (some (.inl r)) sh M := by
  refine amet_of (by decide +kernel) (Nat.le_of_ble_eq_true rfl) (fun Γ hC => ?_)
  replace hC : AOK Γ RX9 cX9_fair 8 3 0 0 "fair" (some .int) := hC
  unfold fX9_fair at h
  refine aw_sub hC [some (.inr (.inr v0)), some (.inl v1), some (.inl v2), none, none, none, none, none] ⟨rfl, ⟨rfl, ⟨rfl, trivial⟩⟩⟩ (Nat.le_of_ble_eq_true rfl) ?_
  refine aw_aload_n (pc' := 1) (i := 0) hC dX9_fair_0 rfl rfl rfl ?_
  refine aw_iload_n (pc' := 2) (i := 1) hC dX9_fair_1 rfl rfl rfl ?_
  obtain ⟨g2, h⟩ := gd_s h
  obtain ⟨x3, q1, h⟩ := pb_s h
  replace h := u1_s h
  refine aw_cV (pc' := 5) (k2 := 0) (n2 := 0) (st := []) (stN := [.inl x3]) hC [.inl v1] (mX9_isPerson q1) lk_X9_471 g2 dX9_fair_2 rfl rfl (Nat.le_of_ble_eq_true rfl) (Nat.le_of_ble_eq_true rfl) (Nat.le_of_ble_eq_true rfl) rfl (Nat.le_of_ble_eq_true rfl) rfl rfl rfl ?_
  refine aw_if_eq (tgt := 17) (pc' := 8) hC dX9_fair_5 (by decide) rfl (fun c4 => ?_) (fun c4 => ?_)
  · replace h := it_p c4 h
    refine aw_iconst (pc' := 18) hC dX9_fair_17 rfl (by decide) ?_
    cases h
    exact aw_iret hC dX9_fair_18 (Nat.le_of_ble_eq_true rfl) (Nat.le_of_ble_eq_true rfl)
  · replace h := it_n c4 h
    refine aw_iload_n (pc' := 9) (i := 2) hC dX9_fair_8 rfl rfl rfl ?_
    refine aw_iconst (pc' := 10) hC dX9_fair_9 rfl (by decide) ?_
    refine aw_iconst (pc' := 11) hC dX9_fair_10 rfl (by decide) ?_
    obtain ⟨x6, q5, h⟩ := pb_s h
    replace h := u1_s h
    refine aw_cS (pc' := 14) (k2 := 0) (n2 := 0) (st := []) (stN := [.inl x6]) hC [.inl v2, .inl 0, .inl 1] (mX9_is q5) lk_X9_314 dX9_fair_11 rfl rfl (Nat.le_of_ble_eq_true rfl) (Nat.le_of_ble_eq_true rfl) (Nat.le_of_ble_eq_true rfl) rfl (Nat.le_of_ble_eq_true rfl) rfl rfl rfl ?_
    refine aw_if_ne (tgt := 19) (pc' := 17) hC dX9_fair_14 (by decide) rfl (fun c7 => ?_) (fun c7 => ?_)
    · replace h := it_n c7 h
      refine aw_aload_n (pc' := 20) (i := 0) hC dX9_fair_19 rfl rfl rfl ?_
      refine aw_iconst (pc' := 21) hC dX9_fair_20 rfl (by decide) ?_
      refine aw_iload_n (pc' := 22) (i := 1) hC dX9_fair_21 rfl rfl rfl ?_
      obtain ⟨x9, q8, h⟩ := pb_s h
      replace h := u1_s h
      refine aw_cV (pc' := 25) (k2 := 0) (n2 := 0) (st := []) (stN := [.inl x9]) hC [.inl 0, .inl v1] (mX9_heldBy q8) lk_X9_451 g2 dX9_fair_22 rfl rfl (Nat.le_of_ble_eq_true rfl) (Nat.le_of_ble_eq_true rfl) (Nat.le_of_ble_eq_true rfl) rfl (Nat.le_of_ble_eq_true rfl) rfl rfl rfl ?_
      refine aw_istore_n (pc' := 26) (i := 3) (ls' := [some (.inr (.inr v0)), some (.inl v1), some (.inl v2), some (.inl x9), none, none, none, none]) hC dX9_fair_25 rfl rfl (Nat.le_of_ble_eq_true rfl) rfl rfl ?_
      refine aw_iconst (pc' := 27) hC dX9_fair_26 rfl (by decide) ?_
      refine aw_istore (pc' := 29) (ls' := [some (.inr (.inr v0)), some (.inl v1), some (.inl v2), some (.inl x9), some (.inl (-1)), none, none, none]) hC dX9_fair_27 rfl (Nat.le_of_ble_eq_true rfl) rfl rfl ?_
      refine aw_ldcw (pc' := 32) (v := 100000000) hC dX9_fair_29 rfl ck_X9_535 (by unfold I32; omega) ?_
      refine aw_istore (pc' := 34) (ls' := [some (.inr (.inr v0)), some (.inl v1), some (.inl v2), some (.inl x9), some (.inl (-1)), some (.inl 100000000), none, none]) hC dX9_fair_32 rfl (Nat.le_of_ble_eq_true rfl) rfl rfl ?_
      refine aw_iconst (pc' := 35) hC dX9_fair_34 rfl (by decide) ?_
      refine aw_istore (pc' := 37) (ls' := [some (.inr (.inr v0)), some (.inl v1), some (.inl v2), some (.inl x9), some (.inl (-1)), some (.inl 100000000), some (.inl 0), none]) hC dX9_fair_35 rfl (Nat.le_of_ble_eq_true rfl) rfl rfl ?_
      obtain ⟨tq20, q20, h⟩ := pb_s h
      refine aw_sub hC [some (.inr (.inr v0)), none, some (.inl v2), some (.inl x9), some (.inl (-1)), some (.inl 100000000), some (.inl 0), none] ⟨rfl, ⟨rfl, ⟨rfl, ⟨rfl, ⟨rfl, ⟨rfl, trivial⟩⟩⟩⟩⟩⟩ (Nat.le_of_ble_eq_true rfl) ?_
      refine (lp_aw (p_X9_fair_L37 Γ sh M v0 v2 x9 (fin_ Γ 0 0 (some (.inl r)) sh M)) (x_X9_fair_L37 Γ sh M v0 v2 x9 (fin_ Γ 0 0 (some (.inl r)) sh M)) (w_X9_fair_L37 hC ) FU _ _ q20 ?_ : p_X9_fair_L37 Γ sh M v0 v2 x9 (fin_ Γ 0 0 (some (.inl r)) sh M) ((-1), 100000000, 0))
      obtain ⟨x21, x22⟩ := tq20
      replace h := u2_s h
      show AW Γ sh M 0 0 120 [none, none, some (.inl v2), none, some (.inl x21), some (.inl x22), none, none] [] _
      refine aw_iload_n (pc' := 121) (i := 2) hC dX9_fair_120 rfl rfl rfl ?_
      refine aw_if_ne (tgt := 129) (pc' := 124) hC dX9_fair_121 (by decide) rfl (fun c23 => ?_) (fun c23 => ?_)
      · replace h := it_n c23 h
        refine aw_iload (pc' := 131) hC dX9_fair_129 rfl rfl ?_
        cases h
        exact aw_iret hC dX9_fair_131 (Nat.le_of_ble_eq_true rfl) (Nat.le_of_ble_eq_true rfl)
      · replace h := it_p c23 h
        refine aw_iload (pc' := 126) hC dX9_fair_124 rfl rfl ?_
        refine aw_goto (tgt := 131) hC dX9_fair_126 (by decide) ?_
        cases h
        exact aw_iret hC dX9_fair_131 (Nat.le_of_ble_eq_true rfl) (Nat.le_of_ble_eq_true rfl)
    · replace h := it_p c7 h
      refine aw_iconst (pc' := 18) hC dX9_fair_17 rfl (by decide) ?_
      cases h
      exact aw_iret hC dX9_fair_18 (Nat.le_of_ble_eq_true rfl) (Nat.le_of_ble_eq_true rfl)
