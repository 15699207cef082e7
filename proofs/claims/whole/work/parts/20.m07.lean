-- CoinCircle$Ways.trace(I)V
def fX7_trace_L9 (sh : AwS) (v0 : Int) (v2 : Int) (v3 : Int) (M : AwM) : Option ((Int × Int × AwM) ⊕ (AwM)) :=
  (if v3 < 20 then (if v2 < 0 then some (.inr M) else (if v2 < 10240 then gd_ (kd_ sh v0 = (0, 7)) (gd_ ((kd_ sh (M v0 0)).1 = 1 ∧ (0 : Int) ≤ v2 ∧ v2 < ((kd_ sh (M v0 0)).2 : Int)) ((if 0 < (M (M v0 0) v2) then bd_ ((((w32 ((M (M v0 0) v2) - 1)) : Int).tmod 20)) fun (x10 : Int) => (gd_ ((kd_ sh (M v0 6)).1 = 1 ∧ (0 : Int) ≤ v3 ∧ v3 < ((kd_ sh (M v0 6)).2 : Int)) (bd_ (up_ M (M v0 6) v3 x10) fun (M13 : AwM) => (bd_ (up_ M13 v0 7 (w32 ((M13 v0 7) + 1))) fun (M15 : AwM) => ((if x10 < 10 then pb (fX7_stateOf sh M15 v0 (w32 (((w32 ((M (M v0 0) v2) - 1)) : Int).tdiv 20)) (an_ v2 (w32 ((sl_ 1 (M v0 5)) - 1)))) <| u1 fun (x21 : Int) => (some (.inl (x21, (w32 (v3 + 1)), M15))) else pb (fX7_stateOf sh M15 v0 (w32 (((w32 ((M (M v0 0) v2) - 1)) : Int).tdiv 20)) (an_ (an_ v2 (w32 ((sl_ 1 (M v0 5)) - 1))) (xo_ (sl_ 1 (w32 (x10 - 10))) (-1)))) <| u1 fun (x19 : Int) => (some (.inl (x19, (w32 (v3 + 1)), M15)))))))) else some (.inr M)))) else some (.inr M))) else some (.inr M))
def p_X7_trace_L9 (Γ : AwC) (sh : AwS) (v0 : Int) (Q : State → Prop) (s : Int × Int × AwM) : Prop := AW Γ sh (s.2.2) 0 0 9 [some (.inr (.inr v0)), none, some (.inl (s.1)), some (.inl (s.2.1)), none, none, none] [] Q
def x_X7_trace_L9 (Γ : AwC) (sh : AwS) (v0 : Int) (Q : State → Prop) : (AwM) → Prop := (fun (t : AwM) => AW Γ sh (t) 0 0 122 [none, none, none, none, none, none, none] [] Q)
def fX7_trace (sh : AwS) (M : AwM) (v0 : Int) (v1 : Int) : Option (AwM) :=
  gd_ (kd_ sh v0 = (0, 7)) (bd_ (up_ M v0 7 0) fun (M2 : AwM) => (pb (lp (u3 (fX7_trace_L9 sh v0)) FU (v1, 0, M2)) (u1 (fun (tq22 : AwM) => some tq22))))
set_option maxRecDepth 100000 in
set_option maxHeartbeats 4000000 in
theorem w_X7_trace_L9 {Γ : AwC} (hC : AOK Γ RX7 cX7_trace 7 2 0 0 "trace" none) {sh : AwS} {v0 : Int} {Q : State → Prop} : ∀ s r, u3 (fX7_trace_L9 sh v0) s = some r → (∀ s', r = .inl s' → p_X7_trace_L9 Γ sh v0 Q s') → (∀ t, r = .inr t → x_X7_trace_L9 Γ sh v0 Q t) → p_X7_trace_L9 Γ sh v0 Q s := by
  intro s r h hL hX
  obtain ⟨v2, v3, M⟩ := s
  replace h := u3_s h
  unfold fX7_trace_L9 at h
  show AW Γ sh M 0 0 9 [some (.inr (.inr v0)), none, some (.inl v2), some (.inl v3), none, none, none] [] Q
  refine aw_iload_n (pc' := 10) (i := 3) hC dX7_trace_9 rfl rfl rfl ?_
  refine aw_bipush (pc' := 12) hC dX7_trace_10 rfl (by decide) ?_
  refine aw_icmp_ge (tgt := 122) (pc' := 15) hC dX7_trace_12 (by decide) rfl (fun c4 => ?_) (fun c4 => ?_)
  · replace h := it_n c4 h
    refine aw_sub hC [none, none, none, none, none, none, none] trivial (Nat.le_of_ble_eq_true rfl) ?_
    cases h
    exact hX _ rfl
  · replace h := it_p c4 h
    refine aw_iload_n (pc' := 16) (i := 2) hC dX7_trace_15 rfl rfl rfl ?_
    refine aw_if_lt (tgt := 122) (pc' := 19) hC dX7_trace_16 (by decide) rfl (fun c5 => ?_) (fun c5 => ?_)
    · replace h := it_p c5 h
      refine aw_sub hC [none, none, none, none, none, none, none] trivial (Nat.le_of_ble_eq_true rfl) ?_
      cases h
      exact hX _ rfl
    · replace h := it_n c5 h
      refine aw_iload_n (pc' := 20) (i := 2) hC dX7_trace_19 rfl rfl rfl ?_
      refine aw_sipush (pc' := 23) hC dX7_trace_20 rfl (by decide) ?_
      refine aw_icmp_ge (tgt := 122) (pc' := 26) hC dX7_trace_23 (by decide) rfl (fun c6 => ?_) (fun c6 => ?_)
      · replace h := it_n c6 h
        refine aw_sub hC [none, none, none, none, none, none, none] trivial (Nat.le_of_ble_eq_true rfl) ?_
        cases h
        exact hX _ rfl
      · replace h := it_p c6 h
        refine aw_aload_n (pc' := 27) (i := 0) hC dX7_trace_26 rfl rfl rfl ?_
        obtain ⟨g7, h⟩ := gd_s h
        refine aw_getfield (pc' := 30) (v := (.inr (.inr (M v0 0)))) hC dX7_trace_27 rfl fl_X7_11 g7 rfl ?_
        refine aw_iload_n (pc' := 31) (i := 2) hC dX7_trace_30 rfl rfl rfl ?_
        obtain ⟨g8, h⟩ := gd_s h
        refine aw_iaload (pc' := 32) hC dX7_trace_31 rfl g8 ?_
        refine aw_if_le (tgt := 122) (pc' := 35) hC dX7_trace_32 (by decide) rfl (fun c9 => ?_) (fun c9 => ?_)
        · replace h := it_n c9 h
          refine aw_sub hC [none, none, none, none, none, none, none] trivial (Nat.le_of_ble_eq_true rfl) ?_
          cases h
          exact hX _ rfl
        · replace h := it_p c9 h
          refine aw_aload_n (pc' := 36) (i := 0) hC dX7_trace_35 rfl rfl rfl ?_
          refine aw_getfield (pc' := 39) (v := (.inr (.inr (M v0 0)))) hC dX7_trace_36 rfl fl_X7_11 g7 rfl ?_
          refine aw_iload_n (pc' := 40) (i := 2) hC dX7_trace_39 rfl rfl rfl ?_
          refine aw_iaload (pc' := 41) hC dX7_trace_40 rfl g8 ?_
          refine aw_iconst (pc' := 42) hC dX7_trace_41 rfl (by decide) ?_
          refine aw_isub (pc' := 43) hC dX7_trace_42 rfl  ?_
          refine aw_istore (pc' := 45) (ls' := [some (.inr (.inr v0)), none, some (.inl v2), some (.inl v3), some (.inl (w32 ((M (M v0 0) v2) - 1))), none, none]) hC dX7_trace_43 rfl (Nat.le_of_ble_eq_true rfl) rfl rfl ?_
          refine aw_iload (pc' := 47) hC dX7_trace_45 rfl rfl ?_
          refine aw_bipush (pc' := 49) hC dX7_trace_47 rfl (by decide) ?_
          refine aw_irem (pc' := 50) hC dX7_trace_49 rfl (by decide) ?_
          obtain ⟨x10, e11, h⟩ := bd_s h
          refine aw_reni e11 ?_
          refine aw_istore (pc' := 52) (ls' := [some (.inr (.inr v0)), none, some (.inl v2), some (.inl v3), some (.inl (w32 ((M (M v0 0) v2) - 1))), some (.inl x10), none]) hC dX7_trace_50 rfl (Nat.le_of_ble_eq_true rfl) rfl rfl ?_
          refine aw_iload_n (pc' := 53) (i := 2) hC dX7_trace_52 rfl rfl rfl ?_
          refine aw_iconst (pc' := 54) hC dX7_trace_53 rfl (by decide) ?_
          refine aw_aload_n (pc' := 55) (i := 0) hC dX7_trace_54 rfl rfl rfl ?_
          refine aw_getfield (pc' := 58) (v := (.inl (M v0 5))) hC dX7_trace_55 rfl fl_X7_60 g7 rfl ?_
          refine aw_ishl (pc' := 59) hC dX7_trace_58 rfl  ?_
          refine aw_iconst (pc' := 60) hC dX7_trace_59 rfl (by decide) ?_
          refine aw_isub (pc' := 61) hC dX7_trace_60 rfl  ?_
          refine aw_iand (pc' := 62) hC dX7_trace_61 rfl  ?_
          refine aw_istore (pc' := 64) (ls' := [some (.inr (.inr v0)), none, some (.inl v2), some (.inl v3), some (.inl (w32 ((M (M v0 0) v2) - 1))), some (.inl x10), some (.inl (an_ v2 (w32 ((sl_ 1 (M v0 5)) - 1))))]) hC dX7_trace_62 rfl (Nat.le_of_ble_eq_true rfl) rfl rfl ?_
          refine aw_aload_n (pc' := 65) (i := 0) hC dX7_trace_64 rfl rfl rfl ?_
          refine aw_getfield (pc' := 68) (v := (.inr (.inr (M v0 6)))) hC dX7_trace_65 rfl fl_X7_24 g7 rfl ?_
          refine aw_iload_n (pc' := 69) (i := 3) hC dX7_trace_68 rfl rfl rfl ?_
          refine aw_iload (pc' := 71) hC dX7_trace_69 rfl rfl ?_
          obtain ⟨g12, h⟩ := gd_s h
          obtain ⟨M13, e14, h⟩ := bd_s h
          refine aw_ias (pc' := 72) hC dX7_trace_71 rfl g12 e14 ?_
          refine aw_aload_n (pc' := 73) (i := 0) hC dX7_trace_72 rfl rfl rfl ?_
          refine aw_dup (pc' := 74) hC dX7_trace_73 rfl rfl ?_
          refine aw_getfield (pc' := 77) (v := (.inl (M13 v0 7))) hC dX7_trace_74 rfl fl_X7_27 g7 rfl ?_
          refine aw_iconst (pc' := 78) hC dX7_trace_77 rfl (by decide) ?_
          refine aw_iadd (pc' := 79) hC dX7_trace_78 rfl  ?_
          obtain ⟨M15, e16, h⟩ := bd_s h
          refine aw_pf (pc' := 82) hC dX7_trace_79 rfl fp_X7_27 g7 rfl trivial e16 ?_
          refine aw_aload_n (pc' := 83) (i := 0) hC dX7_trace_82 rfl rfl rfl ?_
          refine aw_iload (pc' := 85) hC dX7_trace_83 rfl rfl ?_
          refine aw_bipush (pc' := 87) hC dX7_trace_85 rfl (by decide) ?_
          refine aw_idiv (pc' := 88) hC dX7_trace_87 rfl (by decide) ?_
          refine aw_iload (pc' := 90) hC dX7_trace_88 rfl rfl ?_
          refine aw_bipush (pc' := 92) hC dX7_trace_90 rfl (by decide) ?_
          refine aw_icmp_ge (tgt := 100) (pc' := 95) hC dX7_trace_92 (by decide) rfl (fun c17 => ?_) (fun c17 => ?_)
          · replace h := it_n c17 h
            refine aw_iload (pc' := 102) hC dX7_trace_100 rfl rfl ?_
            refine aw_iconst (pc' := 103) hC dX7_trace_102 rfl (by decide) ?_
            refine aw_iload (pc' := 105) hC dX7_trace_103 rfl rfl ?_
            refine aw_bipush (pc' := 107) hC dX7_trace_105 rfl (by decide) ?_
            refine aw_isub (pc' := 108) hC dX7_trace_107 rfl  ?_
            refine aw_ishl (pc' := 109) hC dX7_trace_108 rfl  ?_
            refine aw_iconst (pc' := 110) hC dX7_trace_109 rfl (by decide) ?_
            refine aw_ixor (pc' := 111) hC dX7_trace_110 rfl  ?_
            refine aw_iand (pc' := 112) hC dX7_trace_111 rfl  ?_
            obtain ⟨x19, q18, h⟩ := pb_s h
            replace h := u1_s h
            refine aw_cV (pc' := 115) (k2 := 0) (n2 := 0) (st := []) (stN := [.inl x19]) hC [.inl (w32 (((w32 ((M (M v0 0) v2) - 1)) : Int).tdiv 20)), .inl (an_ (an_ v2 (w32 ((sl_ 1 (M v0 5)) - 1))) (xo_ (sl_ 1 (w32 (x10 - 10))) (-1)))] (mX7_stateOf q18) lk_X7_53 g7 dX7_trace_112 rfl rfl (Nat.le_of_ble_eq_true rfl) (Nat.le_of_ble_eq_true rfl) (Nat.le_of_ble_eq_true rfl) rfl (Nat.le_of_ble_eq_true rfl) rfl rfl rfl ?_
            refine aw_istore_n (pc' := 116) (i := 2) (ls' := [some (.inr (.inr v0)), none, some (.inl x19), some (.inl v3), some (.inl (w32 ((M (M v0 0) v2) - 1))), some (.inl x10), some (.inl (an_ v2 (w32 ((sl_ 1 (M v0 5)) - 1))))]) hC dX7_trace_115 rfl rfl (Nat.le_of_ble_eq_true rfl) rfl rfl ?_
            refine aw_iinc (pc' := 119) (ls' := [some (.inr (.inr v0)), none, some (.inl x19), some (.inl (w32 (v3 + 1))), some (.inl (w32 ((M (M v0 0) v2) - 1))), some (.inl x10), some (.inl (an_ v2 (w32 ((sl_ 1 (M v0 5)) - 1))))]) hC dX7_trace_116 rfl rfl rfl rfl ?_
            refine aw_goto (tgt := 9) hC dX7_trace_119 (by decide) ?_
            refine aw_sub hC [some (.inr (.inr v0)), none, some (.inl x19), some (.inl (w32 (v3 + 1))), none, none, none] ⟨rfl, ⟨rfl, ⟨rfl, trivial⟩⟩⟩ (Nat.le_of_ble_eq_true rfl) ?_
            cases h
            exact hL _ rfl
          · replace h := it_p c17 h
            refine aw_iload (pc' := 97) hC dX7_trace_95 rfl rfl ?_
            refine aw_goto (tgt := 112) hC dX7_trace_97 (by decide) ?_
            obtain ⟨x21, q20, h⟩ := pb_s h
            replace h := u1_s h
            refine aw_cV (pc' := 115) (k2 := 0) (n2 := 0) (st := []) (stN := [.inl x21]) hC [.inl (w32 (((w32 ((M (M v0 0) v2) - 1)) : Int).tdiv 20)), .inl (an_ v2 (w32 ((sl_ 1 (M v0 5)) - 1)))] (mX7_stateOf q20) lk_X7_53 g7 dX7_trace_112 rfl rfl (Nat.le_of_ble_eq_true rfl) (Nat.le_of_ble_eq_true rfl) (Nat.le_of_ble_eq_true rfl) rfl (Nat.le_of_ble_eq_true rfl) rfl rfl rfl ?_
            refine aw_istore_n (pc' := 116) (i := 2) (ls' := [some (.inr (.inr v0)), none, some (.inl x21), some (.inl v3), some (.inl (w32 ((M (M v0 0) v2) - 1))), some (.inl x10), some (.inl (an_ v2 (w32 ((sl_ 1 (M v0 5)) - 1))))]) hC dX7_trace_115 rfl rfl (Nat.le_of_ble_eq_true rfl) rfl rfl ?_
            refine aw_iinc (pc' := 119) (ls' := [some (.inr (.inr v0)), none, some (.inl x21), some (.inl (w32 (v3 + 1))), some (.inl (w32 ((M (M v0 0) v2) - 1))), some (.inl x10), some (.inl (an_ v2 (w32 ((sl_ 1 (M v0 5)) - 1))))]) hC dX7_trace_116 rfl rfl rfl rfl ?_
            refine aw_goto (tgt := 9) hC dX7_trace_119 (by decide) ?_
            refine aw_sub hC [some (.inr (.inr v0)), none, some (.inl x21), some (.inl (w32 (v3 + 1))), none, none, none] ⟨rfl, ⟨rfl, ⟨rfl, trivial⟩⟩⟩ (Nat.le_of_ble_eq_true rfl) ?_
            cases h
            exact hL _ rfl
set_option maxRecDepth 100000 in
set_option maxHeartbeats 4000000 in
theorem mX7_trace {sh : AwS} {M : AwM} {v0 : Int} {v1 : Int} {M' : AwM} (h : fX7_trace sh M v0 v1 = some M') : AMet yX7_trace cX7_trace 7 none 2 0 0 [.inr (.inr v0), .inl v1] sh M none sh M' := by
  refine amet_of (by decide +kernel) (Nat.le_of_ble_eq_true rfl) (fun Γ hC => ?_)
  replace hC : AOK Γ RX7 cX7_trace 7 2 0 0 "trace" none := hC
  unfold fX7_trace at h
  refine aw_sub hC [some (.inr (.inr v0)), some (.inl v1), none, none, none, none, none] ⟨rfl, ⟨rfl, trivial⟩⟩ (Nat.le_of_ble_eq_true rfl) ?_
  refine aw_iload_n (pc' := 1) (i := 1) hC dX7_trace_0 rfl rfl rfl ?_
  refine aw_istore_n (pc' := 2) (i := 2) (ls' := [some (.inr (.inr v0)), some (.inl v1), some (.inl v1), none, none, none, none]) hC dX7_trace_1 rfl rfl (Nat.le_of_ble_eq_true rfl) rfl rfl ?_
  refine aw_aload_n (pc' := 3) (i := 0) hC dX7_trace_2 rfl rfl rfl ?_
  refine aw_iconst (pc' := 4) hC dX7_trace_3 rfl (by decide) ?_
  obtain ⟨g1, h⟩ := gd_s h
  obtain ⟨M2, e3, h⟩ := bd_s h
  refine aw_pf (pc' := 7) hC dX7_trace_4 rfl fp_X7_27 g1 rfl trivial e3 ?_
  refine aw_iconst (pc' := 8) hC dX7_trace_7 rfl (by decide) ?_
  refine aw_istore_n (pc' := 9) (i := 3) (ls' := [some (.inr (.inr v0)), some (.inl v1), some (.inl v1), some (.inl 0), none, none, none]) hC dX7_trace_8 rfl rfl (Nat.le_of_ble_eq_true rfl) rfl rfl ?_
  obtain ⟨tq22, q22, h⟩ := pb_s h
  refine aw_sub hC [some (.inr (.inr v0)), none, some (.inl v1), some (.inl 0), none, none, none] ⟨rfl, ⟨rfl, ⟨rfl, trivial⟩⟩⟩ (Nat.le_of_ble_eq_true rfl) ?_
  refine (lp_aw (p_X7_trace_L9 Γ sh v0 (fin_ Γ 0 0 none sh M')) (x_X7_trace_L9 Γ sh v0 (fin_ Γ 0 0 none sh M')) (w_X7_trace_L9 hC ) FU _ _ q22 ?_ : p_X7_trace_L9 Γ sh v0 (fin_ Γ 0 0 none sh M') (v1, 0, M2))
  replace h := u1_s h
  show AW Γ sh tq22 0 0 122 [none, none, none, none, none, none, none] [] _
  cases h
  exact aw_vret hC dX7_trace_122 (Nat.le_of_ble_eq_true rfl) (Nat.le_of_ble_eq_true rfl)
-- CoinCircle$Ways.find(LCoinCircle$Circle;II)I
def fX7_find_L60 (sh : AwS) (v0 : Int) (v1 : Int) (v2 : Int) (v3 : Int) (v6 : Int) (v7 : Int) (M : AwM) : Option ((Int × Int × AwM) ⊕ (Int × AwM)) :=
  gd_ (kd_ sh v0 = (0, 7)) ((if v7 < (M v0 2) then (if v7 < 10240 then (if v6 = (-1) then gd_ ((kd_ sh (M v0 1)).1 = 1 ∧ (0 : Int) ≤ v7 ∧ v7 < ((kd_ sh (M v0 1)).2 : Int)) (pb (fX7_payFrom sh M v0 (sr_ (M (M v0 1) v7) (M v0 5)) (an_ (M (M v0 1) v7) (w32 ((sl_ 1 (M v0 5)) - 1))) v3) <| u2 fun (x17 : Int) (M18 : AwM) => ((if x17 = (-1) then pb (fX7_presentFrom sh M18 v0 v1 v2 (M (M v0 1) v7)) <| u1 fun (M21 : AwM) => (some (.inl (x17, (w32 (v7 + 1)), M21))) else some (.inl (x17, (w32 (v7 + 1)), M18))))) else some (.inr (v6, M))) else some (.inr (v6, M))) else some (.inr (v6, M))))
def p_X7_find_L60 (Γ : AwC) (sh : AwS) (v0 : Int) (v1 : Int) (v2 : Int) (v3 : Int) (Q : State → Prop) (s : Int × Int × AwM) : Prop := AW Γ sh (s.2.2) 0 0 60 [some (.inr (.inr v0)), some (.inr (.inr v1)), some (.inl v2), some (.inl v3), none, none, some (.inl (s.1)), some (.inl (s.2.1)), none] [] Q
def x_X7_find_L60 (Γ : AwC) (sh : AwS) (v0 : Int) (v1 : Int) (v2 : Int) (v3 : Int) (Q : State → Prop) : (Int × AwM) → Prop := (fun (t : Int × AwM) => AW Γ sh (t.2) 0 0 137 [some (.inr (.inr v0)), none, none, none, none, none, some (.inl (t.1)), none, none] [] Q)
def fX7_find_J137 (sh : AwS) (M : AwM) (v0 : Int) (v6 : Int) : Option (Int × AwM) :=
  gd_ (kd_ sh v0 = (0, 7)) (bd_ (up_ M v0 7 (-1)) fun (M26 : AwM) => ((if v6 = (-1) then some ((M26 v0 7), M26) else pb (fX7_trace sh M26 v0 v6) <| u1 fun (M30 : AwM) => (some ((M30 v0 7), M30)))))
def fX7_find (sh : AwS) (M : AwM) (v0 : Int) (v1 : Int) (v2 : Int) (v3 : Int) : Option (Int × AwM) :=
  gd_ (kd_ sh v0 = (0, 7)) (pb (fX7_begin sh M v0 v1 v2) <| u1 fun (M3 : AwM) => (gd_ (kd_ sh v1 = (0, 0)) (gd_ (kd_ sh (M3 v1 0) = (0, 3)) (gd_ ((kd_ sh (M3 (M3 v1 0) 1)).1 = 1 ∧ (0 : Int) ≤ v2 ∧ v2 < ((kd_ sh (M3 (M3 v1 0) 1)).2 : Int)) (gd_ ((kd_ sh (M3 (M3 v1 0) 2)).1 = 1 ∧ (0 : Int) ≤ v2 ∧ v2 < ((kd_ sh (M3 (M3 v1 0) 2)).2 : Int)) (pb (fX7_reach sh M3 v0 (M3 (M3 (M3 v1 0) 1) v2) (M3 (M3 (M3 v1 0) 2) v2) (-1)) <| u1 fun (M9 : AwM) => ((if (M3 (M3 (M3 v1 0) 1) v2) = v3 then pb (fX7_stateOf sh M9 v0 (M3 (M3 (M3 v1 0) 1) v2) (M3 (M3 (M3 v1 0) 2) v2)) <| u1 fun (x32 : Int) => (pb (lp (u3 (fX7_find_L60 sh v0 v1 v2 v3)) FU (x32, 0, M9)) (u2 (fun (x34 : Int) (M35 : AwM) => fX7_find_J137 sh M35 v0 x34))) else pb (lp (u3 (fX7_find_L60 sh v0 v1 v2 v3)) FU ((-1), 0, M9)) (u2 (fun (x23 : Int) (M24 : AwM) => fX7_find_J137 sh M24 v0 x23))))))))))
set_option maxRecDepth 100000 in
set_option maxHeartbeats 4000000 in
theorem w_X7_find_L60 {Γ : AwC} (hC : AOK Γ RX7 cX7_find 9 7 0 0 "find" (some .int)) {sh : AwS} {v0 : Int} {v1 : Int} {v2 : Int} {v3 : Int} {Q : State → Prop} : ∀ s r, u3 (fX7_find_L60 sh v0 v1 v2 v3) s = some r → (∀ s', r = .inl s' → p_X7_find_L60 Γ sh v0 v1 v2 v3 Q s') → (∀ t, r = .inr t → x_X7_find_L60 Γ sh v0 v1 v2 v3 Q t) → p_X7_find_L60 Γ sh v0 v1 v2 v3 Q s := by
  intro s r h hL hX
  obtain ⟨v6, v7, M⟩ := s
  replace h := u3_s h
  unfold fX7_find_L60 at h
  show AW Γ sh M 0 0 60 [some (.inr (.inr v0)), some (.inr (.inr v1)), some (.inl v2), some (.inl v3), none, none, some (.inl v6), some (.inl v7), none] [] Q
  refine aw_iload (pc' := 62) hC dX7_find_60 rfl rfl ?_
  refine aw_aload_n (pc' := 63) (i := 0) hC dX7_find_62 rfl rfl rfl ?_
  obtain ⟨g11, h⟩ := gd_s h
  refine aw_getfield (pc' := 66) (v := (.inl (M v0 2))) hC dX7_find_63 rfl fl_X7_57 g11 rfl ?_
  refine aw_icmp_ge (tgt := 137) (pc' := 69) hC dX7_find_66 (by decide) rfl (fun c12 => ?_) (fun c12 => ?_)
  · replace h := it_n c12 h
    refine aw_sub hC [some (.inr (.inr v0)), none, none, none, none, none, some (.inl v6), none, none] ⟨rfl, ⟨rfl, trivial⟩⟩ (Nat.le_of_ble_eq_true rfl) ?_
    cases h
    exact hX _ rfl
  · replace h := it_p c12 h
    refine aw_iload (pc' := 71) hC dX7_find_69 rfl rfl ?_
    refine aw_sipush (pc' := 74) hC dX7_find_71 rfl (by decide) ?_
    refine aw_icmp_ge (tgt := 137) (pc' := 77) hC dX7_find_74 (by decide) rfl (fun c13 => ?_) (fun c13 => ?_)
    · replace h := it_n c13 h
      refine aw_sub hC [some (.inr (.inr v0)), none, none, none, none, none, some (.inl v6), none, none] ⟨rfl, ⟨rfl, trivial⟩⟩ (Nat.le_of_ble_eq_true rfl) ?_
      cases h
      exact hX _ rfl
    · replace h := it_p c13 h
      refine aw_iload (pc' := 79) hC dX7_find_77 rfl rfl ?_
      refine aw_iconst (pc' := 80) hC dX7_find_79 rfl (by decide) ?_
      refine aw_icmp_ne (tgt := 137) (pc' := 83) hC dX7_find_80 (by decide) rfl (fun c14 => ?_) (fun c14 => ?_)
      · replace h := it_n c14 h
        refine aw_sub hC [some (.inr (.inr v0)), none, none, none, none, none, some (.inl v6), none, none] ⟨rfl, ⟨rfl, trivial⟩⟩ (Nat.le_of_ble_eq_true rfl) ?_
        cases h
        exact hX _ rfl
      · replace h := it_p c14 h
        refine aw_aload_n (pc' := 84) (i := 0) hC dX7_find_83 rfl rfl rfl ?_
        refine aw_getfield (pc' := 87) (v := (.inr (.inr (M v0 1)))) hC dX7_find_84 rfl fl_X7_15 g11 rfl ?_
        refine aw_iload (pc' := 89) hC dX7_find_87 rfl rfl ?_
        obtain ⟨g15, h⟩ := gd_s h
        refine aw_iaload (pc' := 90) hC dX7_find_89 rfl g15 ?_
        refine aw_istore (pc' := 92) (ls' := [some (.inr (.inr v0)), some (.inr (.inr v1)), some (.inl v2), some (.inl v3), none, none, some (.inl v6), some (.inl v7), some (.inl (M (M v0 1) v7))]) hC dX7_find_90 rfl (Nat.le_of_ble_eq_true rfl) rfl rfl ?_
        refine aw_aload_n (pc' := 93) (i := 0) hC dX7_find_92 rfl rfl rfl ?_
        refine aw_iload (pc' := 95) hC dX7_find_93 rfl rfl ?_
        refine aw_aload_n (pc' := 96) (i := 0) hC dX7_find_95 rfl rfl rfl ?_
        refine aw_getfield (pc' := 99) (v := (.inl (M v0 5))) hC dX7_find_96 rfl fl_X7_60 g11 rfl ?_
        refine aw_ishr (pc' := 100) hC dX7_find_99 rfl  ?_
        refine aw_iload (pc' := 102) hC dX7_find_100 rfl rfl ?_
        refine aw_iconst (pc' := 103) hC dX7_find_102 rfl (by decide) ?_
        refine aw_aload_n (pc' := 104) (i := 0) hC dX7_find_103 rfl rfl rfl ?_
        refine aw_getfield (pc' := 107) (v := (.inl (M v0 5))) hC dX7_find_104 rfl fl_X7_60 g11 rfl ?_
        refine aw_ishl (pc' := 108) hC dX7_find_107 rfl  ?_
        refine aw_iconst (pc' := 109) hC dX7_find_108 rfl (by decide) ?_
        refine aw_isub (pc' := 110) hC dX7_find_109 rfl  ?_
        refine aw_iand (pc' := 111) hC dX7_find_110 rfl  ?_
        refine aw_iload_n (pc' := 112) (i := 3) hC dX7_find_111 rfl rfl rfl ?_
        obtain ⟨⟨x17, M18⟩, q16, h⟩ := pb_s h
        replace h := u2_s h
        refine aw_cV (pc' := 115) (k2 := 0) (n2 := 0) (st := []) (stN := [.inl x17]) hC [.inl (sr_ (M (M v0 1) v7) (M v0 5)), .inl (an_ (M (M v0 1) v7) (w32 ((sl_ 1 (M v0 5)) - 1))), .inl v3] (mX7_payFrom q16) lk_X7_63 g11 dX7_find_112 rfl rfl (Nat.le_of_ble_eq_true rfl) (Nat.le_of_ble_eq_true rfl) (Nat.le_of_ble_eq_true rfl) rfl (Nat.le_of_ble_eq_true rfl) rfl rfl rfl ?_
        refine aw_istore (pc' := 117) (ls' := [some (.inr (.inr v0)), some (.inr (.inr v1)), some (.inl v2), some (.inl v3), none, none, some (.inl x17), some (.inl v7), some (.inl (M (M v0 1) v7))]) hC dX7_find_115 rfl (Nat.le_of_ble_eq_true rfl) rfl rfl ?_
        refine aw_iload (pc' := 119) hC dX7_find_117 rfl rfl ?_
        refine aw_iconst (pc' := 120) hC dX7_find_119 rfl (by decide) ?_
        refine aw_icmp_ne (tgt := 131) (pc' := 123) hC dX7_find_120 (by decide) rfl (fun c19 => ?_) (fun c19 => ?_)
        · replace h := it_n c19 h
          refine aw_iinc (pc' := 134) (ls' := [some (.inr (.inr v0)), some (.inr (.inr v1)), some (.inl v2), some (.inl v3), none, none, some (.inl x17), some (.inl (w32 (v7 + 1))), some (.inl (M (M v0 1) v7))]) hC dX7_find_131 rfl rfl rfl rfl ?_
          refine aw_goto (tgt := 60) hC dX7_find_134 (by decide) ?_
          refine aw_sub hC [some (.inr (.inr v0)), some (.inr (.inr v1)), some (.inl v2), some (.inl v3), none, none, some (.inl x17), some (.inl (w32 (v7 + 1))), none] ⟨rfl, ⟨rfl, ⟨rfl, ⟨rfl, ⟨rfl, ⟨rfl, trivial⟩⟩⟩⟩⟩⟩ (Nat.le_of_ble_eq_true rfl) ?_
          cases h
          exact hL _ rfl
        · replace h := it_p c19 h
          refine aw_aload_n (pc' := 124) (i := 0) hC dX7_find_123 rfl rfl rfl ?_
          refine aw_aload_n (pc' := 125) (i := 1) hC dX7_find_124 rfl rfl rfl ?_
          refine aw_iload_n (pc' := 126) (i := 2) hC dX7_find_125 rfl rfl rfl ?_
          refine aw_iload (pc' := 128) hC dX7_find_126 rfl rfl ?_
          obtain ⟨M21, q20, h⟩ := pb_s h
          replace h := u1_s h
          refine aw_cV (pc' := 131) (k2 := 0) (n2 := 0) (st := []) (stN := []) hC [.inr (.inr v1), .inl v2, .inl (M (M v0 1) v7)] (mX7_presentFrom q20) lk_X7_67 g11 dX7_find_128 rfl rfl (Nat.le_of_ble_eq_true rfl) (Nat.le_of_ble_eq_true rfl) (Nat.le_of_ble_eq_true rfl) rfl (Nat.le_of_ble_eq_true rfl) rfl rfl rfl ?_
          refine aw_iinc (pc' := 134) (ls' := [some (.inr (.inr v0)), some (.inr (.inr v1)), some (.inl v2), some (.inl v3), none, none, some (.inl x17), some (.inl (w32 (v7 + 1))), some (.inl (M (M v0 1) v7))]) hC dX7_find_131 rfl rfl rfl rfl ?_
          refine aw_goto (tgt := 60) hC dX7_find_134 (by decide) ?_
          refine aw_sub hC [some (.inr (.inr v0)), some (.inr (.inr v1)), some (.inl v2), some (.inl v3), none, none, some (.inl x17), some (.inl (w32 (v7 + 1))), none] ⟨rfl, ⟨rfl, ⟨rfl, ⟨rfl, ⟨rfl, ⟨rfl, trivial⟩⟩⟩⟩⟩⟩ (Nat.le_of_ble_eq_true rfl) ?_
          cases h
          exact hL _ rfl
set_option maxRecDepth 100000 in
set_option maxHeartbeats 4000000 in
theorem w_X7_find_J137 {Γ : AwC} (hC : AOK Γ RX7 cX7_find 9 7 0 0 "find" (some .int)) {sh : AwS} {M : AwM} {v0 : Int} {v6 : Int} {r : Int} {M' : AwM} (h : fX7_find_J137 sh M v0 v6 = some (r, M')) {Q : State → Prop} (hQ : Q = (fin_ Γ 0 0 (some (.inl r)) sh M')) : AW Γ sh M 0 0 137 [some (.inr (.inr v0)), none, none, none, none, none, some (.inl v6), none, none] [] Q := by
  unfold fX7_find_J137 at h
  refine aw_aload_n (pc' := 138) (i := 0) hC dX7_find_137 rfl rfl rfl ?_
  refine aw_iconst (pc' := 139) hC dX7_find_138 rfl (by decide) ?_
  obtain ⟨g25, h⟩ := gd_s h
  obtain ⟨M26, e27, h⟩ := bd_s h
  refine aw_pf (pc' := 142) hC dX7_find_139 rfl fp_X7_27 g25 rfl trivial e27 ?_
  refine aw_iload (pc' := 144) hC dX7_find_142 rfl rfl ?_
  refine aw_iconst (pc' := 145) hC dX7_find_144 rfl (by decide) ?_
  refine aw_icmp_eq (tgt := 154) (pc' := 148) hC dX7_find_145 (by decide) rfl (fun c28 => ?_) (fun c28 => ?_)
  · replace h := it_p c28 h
    refine aw_aload_n (pc' := 155) (i := 0) hC dX7_find_154 rfl rfl rfl ?_
    refine aw_getfield (pc' := 158) (v := (.inl (M26 v0 7))) hC dX7_find_155 rfl fl_X7_27 g25 rfl ?_
    cases h
    subst hQ
    exact aw_iret hC dX7_find_158 (Nat.le_of_ble_eq_true rfl) (Nat.le_of_ble_eq_true rfl)
  · replace h := it_n c28 h
    refine aw_aload_n (pc' := 149) (i := 0) hC dX7_find_148 rfl rfl rfl ?_
    refine aw_iload (pc' := 151) hC dX7_find_149 rfl rfl ?_
    obtain ⟨M30, q29, h⟩ := pb_s h
    replace h := u1_s h
    refine aw_cV (pc' := 154) (k2 := 0) (n2 := 0) (st := []) (stN := []) hC [.inl v6] (mX7_trace q29) lk_X7_71 g25 dX7_find_151 rfl rfl (Nat.le_of_ble_eq_true rfl) (Nat.le_of_ble_eq_true rfl) (Nat.le_of_ble_eq_true rfl) rfl (Nat.le_of_ble_eq_true rfl) rfl rfl rfl ?_
    refine aw_aload_n (pc' := 155) (i := 0) hC dX7_find_154 rfl rfl rfl ?_
    refine aw_getfield (pc' := 158) (v := (.inl (M30 v0 7))) hC dX7_find_155 rfl fl_X7_27 g25 rfl ?_
    cases h
    subst hQ
    exact aw_iret hC dX7_find_158 (Nat.le_of_ble_eq_true rfl) (Nat.le_of_ble_eq_true rfl)
set_option maxRecDepth 100000 in
set_option maxHeartbeats 4000000 in
theorem mX7_find {sh : AwS} {M : AwM} {v0 : Int} {v1 : Int} {v2 : Int} {v3 : Int} {r : Int} {M' : AwM} (h : fX7_find sh M v0 v1 v2 v3 = some (r, M')) : AMet yX7_find cX7_find 9 (some .int) 7 0 0 [.inr (.inr v0), .inr (.inr v1), .inl v2, .inl v3] sh M (some (.inl r)) sh M' := by
  refine amet_of (by decide +kernel) (Nat.le_of_ble_eq_true rfl) (fun Γ hC => ?_)
  replace hC : AOK Γ RX7 cX7_find 9 7 0 0 "find" (some .int) := hC
  unfold fX7_find at h
  refine aw_sub hC [some (.inr (.inr v0)), some (.inr (.inr v1)), some (.inl v2), some (.inl v3), none, none, none, none, none] ⟨rfl, ⟨rfl, ⟨rfl, ⟨rfl, trivial⟩⟩⟩⟩ (Nat.le_of_ble_eq_true rfl) ?_
  refine aw_aload_n (pc' := 1) (i := 0) hC dX7_find_0 rfl rfl rfl ?_
  refine aw_aload_n (pc' := 2) (i := 1) hC dX7_find_1 rfl rfl rfl ?_
  refine aw_iload_n (pc' := 3) (i := 2) hC dX7_find_2 rfl rfl rfl ?_
  obtain ⟨g2, h⟩ := gd_s h
  obtain ⟨M3, q1, h⟩ := pb_s h
  replace h := u1_s h
  refine aw_cV (pc' := 6) (k2 := 0) (n2 := 0) (st := []) (stN := []) hC [.inr (.inr v1), .inl v2] (mX7_begin q1) lk_X7_31 g2 dX7_find_3 rfl rfl (Nat.le_of_ble_eq_true rfl) (Nat.le_of_ble_eq_true rfl) (Nat.le_of_ble_eq_true rfl) rfl (Nat.le_of_ble_eq_true rfl) rfl rfl rfl ?_
  refine aw_aload_n (pc' := 7) (i := 1) hC dX7_find_6 rfl rfl rfl ?_
  obtain ⟨g4, h⟩ := gd_s h
  refine aw_getfield (pc' := 10) (v := (.inr (.inr (M3 v1 0)))) hC dX7_find_7 rfl fl_X7_35 g4 rfl ?_
  obtain ⟨g5, h⟩ := gd_s h
  refine aw_getfield (pc' := 13) (v := (.inr (.inr (M3 (M3 v1 0) 1)))) hC dX7_find_10 rfl fl_X7_41 g5 rfl ?_
  refine aw_iload_n (pc' := 14) (i := 2) hC dX7_find_13 rfl rfl rfl ?_
  obtain ⟨g6, h⟩ := gd_s h
  refine aw_iaload (pc' := 15) hC dX7_find_14 rfl g6 ?_
  refine aw_istore (pc' := 17) (ls' := [some (.inr (.inr v0)), some (.inr (.inr v1)), some (.inl v2), some (.inl v3), some (.inl (M3 (M3 (M3 v1 0) 1) v2)), none, none, none, none]) hC dX7_find_15 rfl (Nat.le_of_ble_eq_true rfl) rfl rfl ?_
  refine aw_aload_n (pc' := 18) (i := 1) hC dX7_find_17 rfl rfl rfl ?_
  refine aw_getfield (pc' := 21) (v := (.inr (.inr (M3 v1 0)))) hC dX7_find_18 rfl fl_X7_35 g4 rfl ?_
  refine aw_getfield (pc' := 24) (v := (.inr (.inr (M3 (M3 v1 0) 2)))) hC dX7_find_21 rfl fl_X7_46 g5 rfl ?_
  refine aw_iload_n (pc' := 25) (i := 2) hC dX7_find_24 rfl rfl rfl ?_
  obtain ⟨g7, h⟩ := gd_s h
  refine aw_iaload (pc' := 26) hC dX7_find_25 rfl g7 ?_
  refine aw_istore (pc' := 28) (ls' := [some (.inr (.inr v0)), some (.inr (.inr v1)), some (.inl v2), some (.inl v3), some (.inl (M3 (M3 (M3 v1 0) 1) v2)), some (.inl (M3 (M3 (M3 v1 0) 2) v2)), none, none, none]) hC dX7_find_26 rfl (Nat.le_of_ble_eq_true rfl) rfl rfl ?_
  refine aw_aload_n (pc' := 29) (i := 0) hC dX7_find_28 rfl rfl rfl ?_
  refine aw_iload (pc' := 31) hC dX7_find_29 rfl rfl ?_
  refine aw_iload (pc' := 33) hC dX7_find_31 rfl rfl ?_
  refine aw_iconst (pc' := 34) hC dX7_find_33 rfl (by decide) ?_
  obtain ⟨M9, q8, h⟩ := pb_s h
  replace h := u1_s h
  refine aw_cV (pc' := 37) (k2 := 0) (n2 := 0) (st := []) (stN := []) hC [.inl (M3 (M3 (M3 v1 0) 1) v2), .inl (M3 (M3 (M3 v1 0) 2) v2), .inl (-1)] (mX7_reach q8) lk_X7_49 g2 dX7_find_34 rfl rfl (Nat.le_of_ble_eq_true rfl) (Nat.le_of_ble_eq_true rfl) (Nat.le_of_ble_eq_true rfl) rfl (Nat.le_of_ble_eq_true rfl) rfl rfl rfl ?_
  refine aw_iload (pc' := 39) hC dX7_find_37 rfl rfl ?_
  refine aw_iload_n (pc' := 40) (i := 3) hC dX7_find_39 rfl rfl rfl ?_
  refine aw_icmp_ne (tgt := 54) (pc' := 43) hC dX7_find_40 (by decide) rfl (fun c10 => ?_) (fun c10 => ?_)
  · replace h := it_n c10 h
    refine aw_iconst (pc' := 55) hC dX7_find_54 rfl (by decide) ?_
    refine aw_istore (pc' := 57) (ls' := [some (.inr (.inr v0)), some (.inr (.inr v1)), some (.inl v2), some (.inl v3), some (.inl (M3 (M3 (M3 v1 0) 1) v2)), some (.inl (M3 (M3 (M3 v1 0) 2) v2)), some (.inl (-1)), none, none]) hC dX7_find_55 rfl (Nat.le_of_ble_eq_true rfl) rfl rfl ?_
    refine aw_iconst (pc' := 58) hC dX7_find_57 rfl (by decide) ?_
    refine aw_istore (pc' := 60) (ls' := [some (.inr (.inr v0)), some (.inr (.inr v1)), some (.inl v2), some (.inl v3), some (.inl (M3 (M3 (M3 v1 0) 1) v2)), some (.inl (M3 (M3 (M3 v1 0) 2) v2)), some (.inl (-1)), some (.inl 0), none]) hC dX7_find_58 rfl (Nat.le_of_ble_eq_true rfl) rfl rfl ?_
    obtain ⟨tq22, q22, h⟩ := pb_s h
    refine aw_sub hC [some (.inr (.inr v0)), some (.inr (.inr v1)), some (.inl v2), some (.inl v3), none, none, some (.inl (-1)), some (.inl 0), none] ⟨rfl, ⟨rfl, ⟨rfl, ⟨rfl, ⟨rfl, ⟨rfl, trivial⟩⟩⟩⟩⟩⟩ (Nat.le_of_ble_eq_true rfl) ?_
    refine (lp_aw (p_X7_find_L60 Γ sh v0 v1 v2 v3 (fin_ Γ 0 0 (some (.inl r)) sh M')) (x_X7_find_L60 Γ sh v0 v1 v2 v3 (fin_ Γ 0 0 (some (.inl r)) sh M')) (w_X7_find_L60 hC ) FU _ _ q22 ?_ : p_X7_find_L60 Γ sh v0 v1 v2 v3 (fin_ Γ 0 0 (some (.inl r)) sh M') ((-1), 0, M9))
    obtain ⟨x23, M24⟩ := tq22
    replace h := u2_s h
    show AW Γ sh M24 0 0 137 [some (.inr (.inr v0)), none, none, none, none, none, some (.inl x23), none, none] [] _
    refine aw_sub hC [some (.inr (.inr v0)), none, none, none, none, none, some (.inl x23), none, none] ⟨rfl, ⟨rfl, trivial⟩⟩ (Nat.le_of_ble_eq_true rfl) ?_
    exact w_X7_find_J137 hC h rfl
  · replace h := it_p c10 h
    refine aw_aload_n (pc' := 44) (i := 0) hC dX7_find_43 rfl rfl rfl ?_
    refine aw_iload (pc' := 46) hC dX7_find_44 rfl rfl ?_
    refine aw_iload (pc' := 48) hC dX7_find_46 rfl rfl ?_
    obtain ⟨x32, q31, h⟩ := pb_s h
    replace h := u1_s h
    refine aw_cV (pc' := 51) (k2 := 0) (n2 := 0) (st := []) (stN := [.inl x32]) hC [.inl (M3 (M3 (M3 v1 0) 1) v2), .inl (M3 (M3 (M3 v1 0) 2) v2)] (mX7_stateOf q31) lk_X7_53 g2 dX7_find_48 rfl rfl (Nat.le_of_ble_eq_true rfl) (Nat.le_of_ble_eq_true rfl) (Nat.le_of_ble_eq_true rfl) rfl (Nat.le_of_ble_eq_true rfl) rfl rfl rfl ?_
    refine aw_goto (tgt := 55) hC dX7_find_51 (by decide) ?_
    refine aw_istore (pc' := 57) (ls' := [some (.inr (.inr v0)), some (.inr (.inr v1)), some (.inl v2), some (.inl v3), some (.inl (M3 (M3 (M3 v1 0) 1) v2)), some (.inl (M3 (M3 (M3 v1 0) 2) v2)), some (.inl x32), none, none]) hC dX7_find_55 rfl (Nat.le_of_ble_eq_true rfl) rfl rfl ?_
    refine aw_iconst (pc' := 58) hC dX7_find_57 rfl (by decide) ?_
    refine aw_istore (pc' := 60) (ls' := [some (.inr (.inr v0)), some (.inr (.inr v1)), some (.inl v2), some (.inl v3), some (.inl (M3 (M3 (M3 v1 0) 1) v2)), some (.inl (M3 (M3 (M3 v1 0) 2) v2)), some (.inl x32), some (.inl 0), none]) hC dX7_find_58 rfl (Nat.le_of_ble_eq_true rfl) rfl rfl ?_
    obtain ⟨tq33, q33, h⟩ := pb_s h
    refine aw_sub hC [some (.inr (.inr v0)), some (.inr (.inr v1)), some (.inl v2), some (.inl v3), none, none, some (.inl x32), some (.inl 0), none] ⟨rfl, ⟨rfl, ⟨rfl, ⟨rfl, ⟨rfl, ⟨rfl, trivial⟩⟩⟩⟩⟩⟩ (Nat.le_of_ble_eq_true rfl) ?_
    refine (lp_aw (p_X7_find_L60 Γ sh v0 v1 v2 v3 (fin_ Γ 0 0 (some (.inl r)) sh M')) (x_X7_find_L60 Γ sh v0 v1 v2 v3 (fin_ Γ 0 0 (some (.inl r)) sh M')) (w_X7_find_L60 hC ) FU _ _ q33 ?_ : p_X7_find_L60 Γ sh v0 v1 v2 v3 (fin_ Γ 0 0 (some (.inl r)) sh M') (x32, 0, M9))
    obtain ⟨x34, M35⟩ := tq33
    replace h := u2_s h
    show AW Γ sh M35 0 0 137 [some (.inr (.inr v0)), none, none, none, none, none, some (.inl x34), none, none] [] _
    refine aw_sub hC [some (.inr (.inr v0)), none, none, none, none, none, some (.inl x34), none, none] ⟨rfl, ⟨rfl, trivial⟩⟩ (Nat.le_of_ble_eq_true rfl) ?_
    exact w_X7_find_J137 hC h rfl
-- CoinCircle$Ways.act(I)I
def fX7_act (sh : AwS) (M : AwM) (v0 : Int) (v1 : Int) : Option Int :=
  gd_ (kd_ sh v0 = (0, 7)) ((if v1 < 0 then some (-1) else (if (w32 ((w32 ((M v0 7) - 1)) - v1)) < 0 then some (-1) else (if (w32 ((w32 ((M v0 7) - 1)) - v1)) < 20 then gd_ ((kd_ sh (M v0 6)).1 = 1 ∧ (0 : Int) ≤ (w32 ((w32 ((M v0 7) - 1)) - v1)) ∧ (w32 ((w32 ((M v0 7) - 1)) - v1)) < ((kd_ sh (M v0 6)).2 : Int)) (some (M (M v0 6) (w32 ((w32 ((M v0 7) - 1)) - v1)))) else some (-1)))))
set_option maxRecDepth 100000 in
set_option maxHeartbeats 4000000 in
theorem mX7_act {sh : AwS} {M : AwM} {v0 : Int} {v1 : Int} {r : Int} (h : fX7_act sh M v0 v1 = some r) : AMet yX7_act cX7_act 3 (some .int) 1 0 0 [.inr (.inr v0), .inl v1] sh M (some (.inl r)) sh M := by
  refine amet_of (by decide +kernel) (Nat.le_of_ble_eq_true rfl) (fun Γ hC => ?_)
  replace hC : AOK Γ RX7 cX7_act 3 1 0 0 "act" (some .int) := hC
  unfold fX7_act at h
  refine aw_sub hC [some (.inr (.inr v0)), some (.inl v1), none] ⟨rfl, ⟨rfl, trivial⟩⟩ (Nat.le_of_ble_eq_true rfl) ?_
  refine aw_aload_n (pc' := 1) (i := 0) hC dX7_act_0 rfl rfl rfl ?_
  obtain ⟨g1, h⟩ := gd_s h
  refine aw_getfield (pc' := 4) (v := (.inl (M v0 7))) hC dX7_act_1 rfl fl_X7_27 g1 rfl ?_
  refine aw_iconst (pc' := 5) hC dX7_act_4 rfl (by decide) ?_
  refine aw_isub (pc' := 6) hC dX7_act_5 rfl  ?_
  refine aw_iload_n (pc' := 7) (i := 1) hC dX7_act_6 rfl rfl rfl ?_
  refine aw_isub (pc' := 8) hC dX7_act_7 rfl  ?_
  refine aw_istore_n (pc' := 9) (i := 2) (ls' := [some (.inr (.inr v0)), some (.inl v1), some (.inl (w32 ((w32 ((M v0 7) - 1)) - v1)))]) hC dX7_act_8 rfl rfl (Nat.le_of_ble_eq_true rfl) rfl rfl ?_
  refine aw_iload_n (pc' := 10) (i := 1) hC dX7_act_9 rfl rfl rfl ?_
  refine aw_if_lt (tgt := 32) (pc' := 13) hC dX7_act_10 (by decide) rfl (fun c2 => ?_) (fun c2 => ?_)
  · replace h := it_p c2 h
    refine aw_iconst (pc' := 33) hC dX7_act_32 rfl (by decide) ?_
    cases h
    exact aw_iret hC dX7_act_33 (Nat.le_of_ble_eq_true rfl) (Nat.le_of_ble_eq_true rfl)
  · replace h := it_n c2 h
    refine aw_iload_n (pc' := 14) (i := 2) hC dX7_act_13 rfl rfl rfl ?_
    refine aw_if_lt (tgt := 32) (pc' := 17) hC dX7_act_14 (by decide) rfl (fun c3 => ?_) (fun c3 => ?_)
    · replace h := it_p c3 h
      refine aw_iconst (pc' := 33) hC dX7_act_32 rfl (by decide) ?_
      cases h
      exact aw_iret hC dX7_act_33 (Nat.le_of_ble_eq_true rfl) (Nat.le_of_ble_eq_true rfl)
    · replace h := it_n c3 h
      refine aw_iload_n (pc' := 18) (i := 2) hC dX7_act_17 rfl rfl rfl ?_
      refine aw_bipush (pc' := 20) hC dX7_act_18 rfl (by decide) ?_
      refine aw_icmp_ge (tgt := 32) (pc' := 23) hC dX7_act_20 (by decide) rfl (fun c4 => ?_) (fun c4 => ?_)
      · replace h := it_n c4 h
        refine aw_iconst (pc' := 33) hC dX7_act_32 rfl (by decide) ?_
        cases h
        exact aw_iret hC dX7_act_33 (Nat.le_of_ble_eq_true rfl) (Nat.le_of_ble_eq_true rfl)
      · replace h := it_p c4 h
        refine aw_aload_n (pc' := 24) (i := 0) hC dX7_act_23 rfl rfl rfl ?_
        refine aw_getfield (pc' := 27) (v := (.inr (.inr (M v0 6)))) hC dX7_act_24 rfl fl_X7_24 g1 rfl ?_
        refine aw_iload_n (pc' := 28) (i := 2) hC dX7_act_27 rfl rfl rfl ?_
        obtain ⟨g5, h⟩ := gd_s h
        refine aw_iaload (pc' := 29) hC dX7_act_28 rfl g5 ?_
        refine aw_goto (tgt := 33) hC dX7_act_29 (by decide) ?_
        cases h
        exact aw_iret hC dX7_act_33 (Nat.le_of_ble_eq_true rfl) (Nat.le_of_ble_eq_true rfl)
-- CoinCircle.comes(III)I
def fX8_comes (sh : AwS) (M : AwM) (v0 : Int) (v1 : Int) (v2 : Int) (v3 : Int) : Option (Int × AwM) :=
  gd_ (kd_ sh v0 = (0, 8)) (pb (fX8_areThere sh M v0 v1 v2) <| u1 fun (x3 : Int) => ((if x3 = 0 then some ((-1), M) else (if v3 < (-1) then some ((-1), M) else gd_ (kd_ sh (M v0 7) = (0, 7)) (pb (fX7_find sh M (M v0 7) (M v0 4) v1 v2) <| u2 fun (x8 : Int) (M9 : AwM) => ((if v3 = (-1) then some (x8, M9) else gd_ (kd_ sh (M9 v0 7) = (0, 7)) (pb (fX7_act sh M9 (M9 v0 7) v3) <| u1 fun (x13 : Int) => (some (x13, M9))))))))))
set_option maxRecDepth 100000 in
set_option maxHeartbeats 4000000 in
theorem mX8_comes {sh : AwS} {M : AwM} {v0 : Int} {v1 : Int} {v2 : Int} {v3 : Int} {r : Int} {M' : AwM} (h : fX8_comes sh M v0 v1 v2 v3 = some (r, M')) : AMet yX8_comes cX8_comes 5 (some .int) 8 0 0 [.inr (.inr v0), .inl v1, .inl v2, .inl v3] sh M (some (.inl r)) sh M' := by
  refine amet_of (by decide +kernel) (Nat.le_of_ble_eq_true rfl) (fun Γ hC => ?_)
  replace hC : AOK Γ RX8 cX8_comes 5 8 0 0 "comes" (some .int) := hC
  unfold fX8_comes at h
  refine aw_sub hC [some (.inr (.inr v0)), some (.inl v1), some (.inl v2), some (.inl v3), none] ⟨rfl, ⟨rfl, ⟨rfl, ⟨rfl, trivial⟩⟩⟩⟩ (Nat.le_of_ble_eq_true rfl) ?_
  refine aw_aload_n (pc' := 1) (i := 0) hC dX8_comes_0 rfl rfl rfl ?_
  refine aw_iload_n (pc' := 2) (i := 1) hC dX8_comes_1 rfl rfl rfl ?_
  refine aw_iload_n (pc' := 3) (i := 2) hC dX8_comes_2 rfl rfl rfl ?_
  obtain ⟨g2, h⟩ := gd_s h
  obtain ⟨x3, q1, h⟩ := pb_s h
  replace h := u1_s h
  refine aw_cV (pc' := 6) (k2 := 0) (n2 := 0) (st := []) (stN := [.inl x3]) hC [.inl v1, .inl v2] (mX8_areThere q1) lk_X8_183 g2 dX8_comes_3 rfl rfl (Nat.le_of_ble_eq_true rfl) (Nat.le_of_ble_eq_true rfl) (Nat.le_of_ble_eq_true rfl) rfl (Nat.le_of_ble_eq_true rfl) rfl rfl rfl ?_
  refine aw_if_eq (tgt := 14) (pc' := 9) hC dX8_comes_6 (by decide) rfl (fun c4 => ?_) (fun c4 => ?_)
  · replace h := it_p c4 h
    refine aw_iconst (pc' := 15) hC dX8_comes_14 rfl (by decide) ?_
    cases h
    exact aw_iret hC dX8_comes_15 (Nat.le_of_ble_eq_true rfl) (Nat.le_of_ble_eq_true rfl)
  · replace h := it_n c4 h
    refine aw_iload_n (pc' := 10) (i := 3) hC dX8_comes_9 rfl rfl rfl ?_
    refine aw_iconst (pc' := 11) hC dX8_comes_10 rfl (by decide) ?_
    refine aw_icmp_ge (tgt := 16) (pc' := 14) hC dX8_comes_11 (by decide) rfl (fun c5 => ?_) (fun c5 => ?_)
    · replace h := it_n c5 h
      refine aw_aload_n (pc' := 17) (i := 0) hC dX8_comes_16 rfl rfl rfl ?_
      refine aw_getfield (pc' := 20) (v := (.inr (.inr (M v0 7)))) hC dX8_comes_17 rfl fl_X8_30 g2 rfl ?_
      refine aw_aload_n (pc' := 21) (i := 0) hC dX8_comes_20 rfl rfl rfl ?_
      refine aw_getfield (pc' := 24) (v := (.inr (.inr (M v0 4)))) hC dX8_comes_21 rfl fl_X8_60 g2 rfl ?_
      refine aw_iload_n (pc' := 25) (i := 1) hC dX8_comes_24 rfl rfl rfl ?_
      refine aw_iload_n (pc' := 26) (i := 2) hC dX8_comes_25 rfl rfl rfl ?_
      obtain ⟨g7, h⟩ := gd_s h
      obtain ⟨⟨x8, M9⟩, q6, h⟩ := pb_s h
      replace h := u2_s h
      refine aw_cV (pc' := 29) (k2 := 0) (n2 := 0) (st := []) (stN := [.inl x8]) hC [.inr (.inr (M v0 4)), .inl v1, .inl v2] (mX7_find q6) lk_X8_258 g7 dX8_comes_26 rfl rfl (Nat.le_of_ble_eq_true rfl) (Nat.le_of_ble_eq_true rfl) (Nat.le_of_ble_eq_true rfl) rfl (Nat.le_of_ble_eq_true rfl) rfl rfl rfl ?_
      refine aw_istore (pc' := 31) (ls' := [some (.inr (.inr v0)), some (.inl v1), some (.inl v2), some (.inl v3), some (.inl x8)]) hC dX8_comes_29 rfl (Nat.le_of_ble_eq_true rfl) rfl rfl ?_
      refine aw_iload_n (pc' := 32) (i := 3) hC dX8_comes_31 rfl rfl rfl ?_
      refine aw_iconst (pc' := 33) hC dX8_comes_32 rfl (by decide) ?_
      refine aw_icmp_ne (tgt := 41) (pc' := 36) hC dX8_comes_33 (by decide) rfl (fun c10 => ?_) (fun c10 => ?_)
      · replace h := it_n c10 h
        refine aw_aload_n (pc' := 42) (i := 0) hC dX8_comes_41 rfl rfl rfl ?_
        refine aw_getfield (pc' := 45) (v := (.inr (.inr (M9 v0 7)))) hC dX8_comes_42 rfl fl_X8_30 g2 rfl ?_
        refine aw_iload_n (pc' := 46) (i := 3) hC dX8_comes_45 rfl rfl rfl ?_
        obtain ⟨g12, h⟩ := gd_s h
        obtain ⟨x13, q11, h⟩ := pb_s h
        replace h := u1_s h
        refine aw_cV (pc' := 49) (k2 := 0) (n2 := 0) (st := []) (stN := [.inl x13]) hC [.inl v3] (mX7_act q11) lk_X8_262 g12 dX8_comes_46 rfl rfl (Nat.le_of_ble_eq_true rfl) (Nat.le_of_ble_eq_true rfl) (Nat.le_of_ble_eq_true rfl) rfl (Nat.le_of_ble_eq_true rfl) rfl rfl rfl ?_
        cases h
        exact aw_iret hC dX8_comes_49 (Nat.le_of_ble_eq_true rfl) (Nat.le_of_ble_eq_true rfl)
      · replace h := it_p c10 h
        refine aw_iload (pc' := 38) hC dX8_comes_36 rfl rfl ?_
        refine aw_goto (tgt := 49) hC dX8_comes_38 (by decide) ?_
        cases h
        exact aw_iret hC dX8_comes_49 (Nat.le_of_ble_eq_true rfl) (Nat.le_of_ble_eq_true rfl)
    · replace h := it_p c5 h
      refine aw_iconst (pc' := 15) hC dX8_comes_14 rfl (by decide) ?_
      cases h
      exact aw_iret hC dX8_comes_15 (Nat.le_of_ble_eq_true rfl) (Nat.le_of_ble_eq_true rfl)
-- CoinCircle.best(II)I
def fX8_best_L42 (sh : AwS) (v0 : Int) (v1 : Int) (v2 : Int) (v5 : Int) (v3 : Int) (v4 : Int) (v6 : Int) (M : AwM) : Option ((Int × Int × Int × AwM) ⊕ (Int × Int × AwM)) :=
  (if v5 < v6 then some (.inr (v3, v4, M)) else pb (fJ6_bitCount_0f7a4 sh M v6) <| u1 fun (x11 : Int) => ((if x11 = v1 then gd_ (kd_ sh v0 = (0, 8)) (gd_ (kd_ sh (M v0 5) = (0, 0)) (gd_ (kd_ sh (M v0 4) = (0, 0)) (gd_ (kd_ sh (M (M v0 5) 0) = (0, 3)) (pb (fX3_copyFrom sh M (M (M v0 5) 0) (M (M v0 4) 0)) <| u1 fun (M18 : AwM) => (gd_ (kd_ sh (M18 v0 5) = (0, 0)) (pb (fX0_takeTea sh M18 (M18 v0 5) v6) <| u2 fun (x21 : Int) (M22 : AwM) => (gd_ (kd_ sh (M22 v0 5) = (0, 0)) (pb (fX0_flow sh M22 (M22 v0 5)) <| u1 fun (x25 : Int) => ((if v4 < x25 then some (.inl (v6, x25, (w32 (v6 + 1)), M22)) else some (.inl (v3, v4, (w32 (v6 + 1)), M22)))))))))))) else some (.inl (v3, v4, (w32 (v6 + 1)), M)))))
def p_X8_best_L42 (Γ : AwC) (sh : AwS) (v0 : Int) (v1 : Int) (v2 : Int) (v5 : Int) (Q : State → Prop) (s : Int × Int × Int × AwM) : Prop := AW Γ sh (s.2.2.2) 0 0 42 [some (.inr (.inr v0)), some (.inl v1), some (.inl v2), some (.inl (s.1)), some (.inl (s.2.1)), some (.inl v5), some (.inl (s.2.2.1)), none] [] Q
def x_X8_best_L42 (Γ : AwC) (sh : AwS) (v0 : Int) (v1 : Int) (v2 : Int) (v5 : Int) (Q : State → Prop) : (Int × Int × AwM) → Prop := (fun (t : Int × Int × AwM) => AW Γ sh (t.2.2) 0 0 114 [none, none, some (.inl v2), some (.inl (t.1)), some (.inl (t.2.1)), none, none, none] [] Q)
def fX8_best (sh : AwS) (M : AwM) (v0 : Int) (v1 : Int) (v2 : Int) : Option (Int × AwM) :=
  (if v1 < 2 then some ((-1), M) else (if 4 < v1 then some ((-1), M) else gd_ (kd_ sh v0 = (0, 8)) (gd_ (kd_ sh (M v0 3) = (0, 5)) (gd_ ((kd_ sh (M (M v0 3) 0)).1 = 1 ∧ (0 : Int) ≤ 0 ∧ 0 < ((kd_ sh (M (M v0 3) 0)).2 : Int)) ((if (M (M (M v0 3) 0) 0) < v1 then some ((-1), M) else pb (fX5_allPeople sh M (M v0 3)) <| u1 fun (x8 : Int) => (pb (lp (u4 (fX8_best_L42 sh v0 v1 v2 x8)) FU ((-1), (-1), 0, M)) (u3 (fun (x28 : Int) (x29 : Int) (M30 : AwM) => (if v2 = 0 then some (x28, M30) else (if v2 = 1 then some (x29, M30) else some ((-1), M30))))))))))))
set_option maxRecDepth 100000 in
set_option maxHeartbeats 4000000 in
theorem w_X8_best_L42 {Γ : AwC} (hC : AOK Γ RX8 cX8_best 8 7 0 0 "best" (some .int)) {sh : AwS} {v0 : Int} {v1 : Int} {v2 : Int} {v5 : Int} {Q : State → Prop} : ∀ s r, u4 (fX8_best_L42 sh v0 v1 v2 v5) s = some r → (∀ s', r = .inl s' → p_X8_best_L42 Γ sh v0 v1 v2 v5 Q s') → (∀ t, r = .inr t → x_X8_best_L42 Γ sh v0 v1 v2 v5 Q t) → p_X8_best_L42 Γ sh v0 v1 v2 v5 Q s := by
  intro s r h hL hX
  obtain ⟨v3, v4, v6, M⟩ := s
  replace h := u4_s h
  unfold fX8_best_L42 at h
  show AW Γ sh M 0 0 42 [some (.inr (.inr v0)), some (.inl v1), some (.inl v2), some (.inl v3), some (.inl v4), some (.inl v5), some (.inl v6), none] [] Q
  refine aw_iload (pc' := 44) hC dX8_best_42 rfl rfl ?_
  refine aw_iload (pc' := 46) hC dX8_best_44 rfl rfl ?_
  refine aw_icmp_gt (tgt := 114) (pc' := 49) hC dX8_best_46 (by decide) rfl (fun c9 => ?_) (fun c9 => ?_)
  · replace h := it_p c9 h
    refine aw_sub hC [none, none, some (.inl v2), some (.inl v3), some (.inl v4), none, none, none] ⟨rfl, ⟨rfl, ⟨rfl, trivial⟩⟩⟩ (Nat.le_of_ble_eq_true rfl) ?_
    cases h
    exact hX _ rfl
  · replace h := it_n c9 h
    refine aw_iload (pc' := 51) hC dX8_best_49 rfl rfl ?_
    obtain ⟨x11, q10, h⟩ := pb_s h
    replace h := u1_s h
    refine aw_cS (pc' := 54) (k2 := 0) (n2 := 0) (st := []) (stN := [.inl x11]) hC [.inl v6] (mJ6_bitCount_0f7a4 q10) lk_X8_178 dX8_best_51 rfl rfl (Nat.le_of_ble_eq_true rfl) (Nat.le_of_ble_eq_true rfl) (Nat.le_of_ble_eq_true rfl) rfl (Nat.le_of_ble_eq_true rfl) rfl rfl rfl ?_
    refine aw_iload_n (pc' := 55) (i := 1) hC dX8_best_54 rfl rfl rfl ?_
    refine aw_icmp_ne (tgt := 108) (pc' := 58) hC dX8_best_55 (by decide) rfl (fun c12 => ?_) (fun c12 => ?_)
    · replace h := it_n c12 h
      refine aw_iinc (pc' := 111) (ls' := [some (.inr (.inr v0)), some (.inl v1), some (.inl v2), some (.inl v3), some (.inl v4), some (.inl v5), some (.inl (w32 (v6 + 1))), none]) hC dX8_best_108 rfl rfl rfl rfl ?_
      refine aw_goto (tgt := 42) hC dX8_best_111 (by decide) ?_
      refine aw_sub hC [some (.inr (.inr v0)), some (.inl v1), some (.inl v2), some (.inl v3), some (.inl v4), some (.inl v5), some (.inl (w32 (v6 + 1))), none] ⟨rfl, ⟨rfl, ⟨rfl, ⟨rfl, ⟨rfl, ⟨rfl, ⟨rfl, trivial⟩⟩⟩⟩⟩⟩⟩ (Nat.le_of_ble_eq_true rfl) ?_
      cases h
      exact hL _ rfl
    · replace h := it_p c12 h
      refine aw_aload_n (pc' := 59) (i := 0) hC dX8_best_58 rfl rfl rfl ?_
      obtain ⟨g13, h⟩ := gd_s h
      refine aw_getfield (pc' := 62) (v := (.inr (.inr (M v0 5)))) hC dX8_best_59 rfl fl_X8_64 g13 rfl ?_
      obtain ⟨g14, h⟩ := gd_s h
      refine aw_getfield (pc' := 65) (v := (.inr (.inr (M (M v0 5) 0)))) hC dX8_best_62 rfl fl_X8_110 g14 rfl ?_
      refine aw_aload_n (pc' := 66) (i := 0) hC dX8_best_65 rfl rfl rfl ?_
      refine aw_getfield (pc' := 69) (v := (.inr (.inr (M v0 4)))) hC dX8_best_66 rfl fl_X8_60 g13 rfl ?_
      obtain ⟨g15, h⟩ := gd_s h
      refine aw_getfield (pc' := 72) (v := (.inr (.inr (M (M v0 4) 0)))) hC dX8_best_69 rfl fl_X8_110 g15 rfl ?_
      obtain ⟨g17, h⟩ := gd_s h
      obtain ⟨M18, q16, h⟩ := pb_s h
      replace h := u1_s h
      refine aw_cV (pc' := 75) (k2 := 0) (n2 := 0) (st := []) (stN := []) hC [.inr (.inr (M (M v0 4) 0))] (mX3_copyFrom q16) lk_X8_265 g17 dX8_best_72 rfl rfl (Nat.le_of_ble_eq_true rfl) (Nat.le_of_ble_eq_true rfl) (Nat.le_of_ble_eq_true rfl) rfl (Nat.le_of_ble_eq_true rfl) rfl rfl rfl ?_
      refine aw_aload_n (pc' := 76) (i := 0) hC dX8_best_75 rfl rfl rfl ?_
      refine aw_getfield (pc' := 79) (v := (.inr (.inr (M18 v0 5)))) hC dX8_best_76 rfl fl_X8_64 g13 rfl ?_
      refine aw_iload (pc' := 81) hC dX8_best_79 rfl rfl ?_
      obtain ⟨g20, h⟩ := gd_s h
      obtain ⟨⟨x21, M22⟩, q19, h⟩ := pb_s h
      replace h := u2_s h
      refine aw_cV (pc' := 84) (k2 := 0) (n2 := 0) (st := []) (stN := [.inl x21]) hC [.inl v6] (mX0_takeTea q19) lk_X8_233 g20 dX8_best_81 rfl rfl (Nat.le_of_ble_eq_true rfl) (Nat.le_of_ble_eq_true rfl) (Nat.le_of_ble_eq_true rfl) rfl (Nat.le_of_ble_eq_true rfl) rfl rfl rfl ?_
      refine aw_pop (pc' := 85) hC dX8_best_84 rfl rfl ?_
      refine aw_aload_n (pc' := 86) (i := 0) hC dX8_best_85 rfl rfl rfl ?_
      refine aw_getfield (pc' := 89) (v := (.inr (.inr (M22 v0 5)))) hC dX8_best_86 rfl fl_X8_64 g13 rfl ?_
      obtain ⟨g24, h⟩ := gd_s h
      obtain ⟨x25, q23, h⟩ := pb_s h
      replace h := u1_s h
      refine aw_cV (pc' := 92) (k2 := 0) (n2 := 0) (st := []) (stN := [.inl x25]) hC [] (mX0_flow q23) lk_X8_119 g24 dX8_best_89 rfl rfl (Nat.le_of_ble_eq_true rfl) (Nat.le_of_ble_eq_true rfl) (Nat.le_of_ble_eq_true rfl) rfl (Nat.le_of_ble_eq_true rfl) rfl rfl rfl ?_
      refine aw_istore (pc' := 94) (ls' := [some (.inr (.inr v0)), some (.inl v1), some (.inl v2), some (.inl v3), some (.inl v4), some (.inl v5), some (.inl v6), some (.inl x25)]) hC dX8_best_92 rfl (Nat.le_of_ble_eq_true rfl) rfl rfl ?_
      refine aw_iload (pc' := 96) hC dX8_best_94 rfl rfl ?_
      refine aw_iload (pc' := 98) hC dX8_best_96 rfl rfl ?_
      refine aw_icmp_le (tgt := 108) (pc' := 101) hC dX8_best_98 (by decide) rfl (fun c26 => ?_) (fun c26 => ?_)
      · replace h := it_n c26 h
        refine aw_iinc (pc' := 111) (ls' := [some (.inr (.inr v0)), some (.inl v1), some (.inl v2), some (.inl v3), some (.inl v4), some (.inl v5), some (.inl (w32 (v6 + 1))), some (.inl x25)]) hC dX8_best_108 rfl rfl rfl rfl ?_
        refine aw_goto (tgt := 42) hC dX8_best_111 (by decide) ?_
        refine aw_sub hC [some (.inr (.inr v0)), some (.inl v1), some (.inl v2), some (.inl v3), some (.inl v4), some (.inl v5), some (.inl (w32 (v6 + 1))), none] ⟨rfl, ⟨rfl, ⟨rfl, ⟨rfl, ⟨rfl, ⟨rfl, ⟨rfl, trivial⟩⟩⟩⟩⟩⟩⟩ (Nat.le_of_ble_eq_true rfl) ?_
        cases h
        exact hL _ rfl
      · replace h := it_p c26 h
        refine aw_iload (pc' := 103) hC dX8_best_101 rfl rfl ?_
        refine aw_istore (pc' := 105) (ls' := [some (.inr (.inr v0)), some (.inl v1), some (.inl v2), some (.inl v3), some (.inl x25), some (.inl v5), some (.inl v6), some (.inl x25)]) hC dX8_best_103 rfl (Nat.le_of_ble_eq_true rfl) rfl rfl ?_
        refine aw_iload (pc' := 107) hC dX8_best_105 rfl rfl ?_
        refine aw_istore_n (pc' := 108) (i := 3) (ls' := [some (.inr (.inr v0)), some (.inl v1), some (.inl v2), some (.inl v6), some (.inl x25), some (.inl v5), some (.inl v6), some (.inl x25)]) hC dX8_best_107 rfl rfl (Nat.le_of_ble_eq_true rfl) rfl rfl ?_
        refine aw_iinc (pc' := 111) (ls' := [some (.inr (.inr v0)), some (.inl v1), some (.inl v2), some (.inl v6), some (.inl x25), some (.inl v5), some (.inl (w32 (v6 + 1))), some (.inl x25)]) hC dX8_best_108 rfl rfl rfl rfl ?_
        refine aw_goto (tgt := 42) hC dX8_best_111 (by decide) ?_
        refine aw_sub hC [some (.inr (.inr v0)), some (.inl v1), some (.inl v2), some (.inl v6), some (.inl x25), some (.inl v5), some (.inl (w32 (v6 + 1))), none] ⟨rfl, ⟨rfl, ⟨rfl, ⟨rfl, ⟨rfl, ⟨rfl, ⟨rfl, trivial⟩⟩⟩⟩⟩⟩⟩ (Nat.le_of_ble_eq_true rfl) ?_
        cases h
        exact hL _ rfl
set_option maxRecDepth 100000 in
set_option maxHeartbeats 4000000 in
theorem mX8_best {sh : AwS} {M : AwM} {v0 : Int} {v1 : Int} {v2 : Int} {r : Int} {M' : AwM} (h : fX8_best sh M v0 v1 v2 = some (r, M')) : AMet yX8_best cX8_best 8 (some .int) 7 0 0 [.inr (.inr v0), .inl v1, .inl v2] sh M (some (.inl r)) sh M' := by
  refine amet_of (by decide +kernel) (Nat.le_of_ble_eq_true rfl) (fun Γ hC => ?_)
  replace hC : AOK Γ RX8 cX8_best 8 7 0 0 "best" (some .int) := hC
  unfold fX8_best at h
  refine aw_sub hC [some (.inr (.inr v0)), some (.inl v1), some (.inl v2), none, none, none, none, none] ⟨rfl, ⟨rfl, ⟨rfl, trivial⟩⟩⟩ (Nat.le_of_ble_eq_true rfl) ?_
  refine aw_iload_n (pc' := 1) (i := 1) hC dX8_best_0 rfl rfl rfl ?_
  refine aw_iconst (pc' := 2) hC dX8_best_1 rfl (by decide) ?_
  refine aw_icmp_lt (tgt := 23) (pc' := 5) hC dX8_best_2 (by decide) rfl (fun c1 => ?_) (fun c1 => ?_)
  · replace h := it_p c1 h
    refine aw_iconst (pc' := 24) hC dX8_best_23 rfl (by decide) ?_
    cases h
    exact aw_iret hC dX8_best_24 (Nat.le_of_ble_eq_true rfl) (Nat.le_of_ble_eq_true rfl)
  · replace h := it_n c1 h
    refine aw_iload_n (pc' := 6) (i := 1) hC dX8_best_5 rfl rfl rfl ?_
    refine aw_iconst (pc' := 7) hC dX8_best_6 rfl (by decide) ?_
    refine aw_icmp_gt (tgt := 23) (pc' := 10) hC dX8_best_7 (by decide) rfl (fun c2 => ?_) (fun c2 => ?_)
    · replace h := it_p c2 h
      refine aw_iconst (pc' := 24) hC dX8_best_23 rfl (by decide) ?_
      cases h
      exact aw_iret hC dX8_best_24 (Nat.le_of_ble_eq_true rfl) (Nat.le_of_ble_eq_true rfl)
    · replace h := it_n c2 h
      refine aw_iload_n (pc' := 11) (i := 1) hC dX8_best_10 rfl rfl rfl ?_
      refine aw_aload_n (pc' := 12) (i := 0) hC dX8_best_11 rfl rfl rfl ?_
      obtain ⟨g3, h⟩ := gd_s h
      refine aw_getfield (pc' := 15) (v := (.inr (.inr (M v0 3)))) hC dX8_best_12 rfl fl_X8_51 g3 rfl ?_
      obtain ⟨g4, h⟩ := gd_s h
      refine aw_getfield (pc' := 18) (v := (.inr (.inr (M (M v0 3) 0)))) hC dX8_best_15 rfl fl_X8_101 g4 rfl ?_
      refine aw_iconst (pc' := 19) hC dX8_best_18 rfl (by decide) ?_
      obtain ⟨g5, h⟩ := gd_s h
      refine aw_iaload (pc' := 20) hC dX8_best_19 rfl g5 ?_
      refine aw_icmp_le (tgt := 25) (pc' := 23) hC dX8_best_20 (by decide) rfl (fun c6 => ?_) (fun c6 => ?_)
      · replace h := it_n c6 h
        refine aw_iconst (pc' := 26) hC dX8_best_25 rfl (by decide) ?_
        refine aw_istore_n (pc' := 27) (i := 3) (ls' := [some (.inr (.inr v0)), some (.inl v1), some (.inl v2), some (.inl (-1)), none, none, none, none]) hC dX8_best_26 rfl rfl (Nat.le_of_ble_eq_true rfl) rfl rfl ?_
        refine aw_iconst (pc' := 28) hC dX8_best_27 rfl (by decide) ?_
        refine aw_istore (pc' := 30) (ls' := [some (.inr (.inr v0)), some (.inl v1), some (.inl v2), some (.inl (-1)), some (.inl (-1)), none, none, none]) hC dX8_best_28 rfl (Nat.le_of_ble_eq_true rfl) rfl rfl ?_
        refine aw_aload_n (pc' := 31) (i := 0) hC dX8_best_30 rfl rfl rfl ?_
        refine aw_getfield (pc' := 34) (v := (.inr (.inr (M v0 3)))) hC dX8_best_31 rfl fl_X8_51 g3 rfl ?_
        obtain ⟨x8, q7, h⟩ := pb_s h
        replace h := u1_s h
        refine aw_cV (pc' := 37) (k2 := 0) (n2 := 0) (st := []) (stN := [.inl x8]) hC [] (mX5_allPeople q7) lk_X8_230 g4 dX8_best_34 rfl rfl (Nat.le_of_ble_eq_true rfl) (Nat.le_of_ble_eq_true rfl) (Nat.le_of_ble_eq_true rfl) rfl (Nat.le_of_ble_eq_true rfl) rfl rfl rfl ?_
        refine aw_istore (pc' := 39) (ls' := [some (.inr (.inr v0)), some (.inl v1), some (.inl v2), some (.inl (-1)), some (.inl (-1)), some (.inl x8), none, none]) hC dX8_best_37 rfl (Nat.le_of_ble_eq_true rfl) rfl rfl ?_
        refine aw_iconst (pc' := 40) hC dX8_best_39 rfl (by decide) ?_
        refine aw_istore (pc' := 42) (ls' := [some (.inr (.inr v0)), some (.inl v1), some (.inl v2), some (.inl (-1)), some (.inl (-1)), some (.inl x8), some (.inl 0), none]) hC dX8_best_40 rfl (Nat.le_of_ble_eq_true rfl) rfl rfl ?_
        obtain ⟨tq27, q27, h⟩ := pb_s h
        refine aw_sub hC [some (.inr (.inr v0)), some (.inl v1), some (.inl v2), some (.inl (-1)), some (.inl (-1)), some (.inl x8), some (.inl 0), none] ⟨rfl, ⟨rfl, ⟨rfl, ⟨rfl, ⟨rfl, ⟨rfl, ⟨rfl, trivial⟩⟩⟩⟩⟩⟩⟩ (Nat.le_of_ble_eq_true rfl) ?_
        refine (lp_aw (p_X8_best_L42 Γ sh v0 v1 v2 x8 (fin_ Γ 0 0 (some (.inl r)) sh M')) (x_X8_best_L42 Γ sh v0 v1 v2 x8 (fin_ Γ 0 0 (some (.inl r)) sh M')) (w_X8_best_L42 hC ) FU _ _ q27 ?_ : p_X8_best_L42 Γ sh v0 v1 v2 x8 (fin_ Γ 0 0 (some (.inl r)) sh M') ((-1), (-1), 0, M))
        obtain ⟨x28, x29, M30⟩ := tq27
        replace h := u3_s h
        show AW Γ sh M30 0 0 114 [none, none, some (.inl v2), some (.inl x28), some (.inl x29), none, none, none] [] _
        refine aw_iload_n (pc' := 115) (i := 2) hC dX8_best_114 rfl rfl rfl ?_
        by_cases c31 : v2 = 0
        · replace h := it_p c31 h
          refine aw_ls (tgt := 140) (off := 25) hC dX8_best_115 (by decide) (os_p c31) (by decide) ?_
          refine aw_iload_n (pc' := 141) (i := 3) hC dX8_best_140 rfl rfl rfl ?_
          cases h
          exact aw_iret hC dX8_best_141 (Nat.le_of_ble_eq_true rfl) (Nat.le_of_ble_eq_true rfl)
        · replace h := it_n c31 h
          by_cases c32 : v2 = 1
          · replace h := it_p c32 h
            refine aw_ls (tgt := 142) (off := 27) hC dX8_best_115 (by decide) ((os_n c31).trans (os_p c32)) (by decide) ?_
            refine aw_iload (pc' := 144) hC dX8_best_142 rfl rfl ?_
            cases h
            exact aw_iret hC dX8_best_144 (Nat.le_of_ble_eq_true rfl) (Nat.le_of_ble_eq_true rfl)
          · replace h := it_n c32 h
            refine aw_ls (tgt := 145) (off := 30) hC dX8_best_115 (by decide) ((os_n c31).trans ((os_n c32).trans rfl)) (by decide) ?_
            refine aw_iconst (pc' := 146) hC dX8_best_145 rfl (by decide) ?_
            cases h
            exact aw_iret hC dX8_best_146 (Nat.le_of_ble_eq_true rfl) (Nat.le_of_ble_eq_true rfl)
      · replace h := it_p c6 h
        refine aw_iconst (pc' := 24) hC dX8_best_23 rfl (by decide) ?_
        cases h
        exact aw_iret hC dX8_best_24 (Nat.le_of_ble_eq_true rfl) (Nat.le_of_ble_eq_true rfl)
-- CoinCircle.tellsLetters(I)Z
def fX8_tellsLetters_L21 (sh : AwS) (M : AwM) (v0 : Int) (v1 : Int) (v2 : Int) : Option ((Int) ⊕ ((Unit) ⊕ (Unit))) :=
  (if v2 < v1 then gd_ (kd_ sh v0 = (0, 8)) (pb (fX8_tapeByte sh M v0 v2) <| u1 fun (x7 : Int) => (pb (fX8_tapeByte sh M v0 (w32 (v2 + 1))) <| u1 fun (x9 : Int) => (pb (fX8_areThere sh M v0 x7 x9) <| u1 fun (x11 : Int) => ((if x11 = 0 then some (.inr (.inr ())) else some (.inl (w32 (v2 + 2)))))))) else some (.inr (.inl ())))
def p_X8_tellsLetters_L21 (Γ : AwC) (sh : AwS) (M : AwM) (v0 : Int) (v1 : Int) (Q : State → Prop) (s : Int) : Prop := AW Γ sh M 0 0 21 [some (.inr (.inr v0)), some (.inl v1), some (.inl (s))] [] Q
def x_X8_tellsLetters_L21 (Γ : AwC) (sh : AwS) (M : AwM) (v0 : Int) (v1 : Int) (Q : State → Prop) : ((Unit) ⊕ (Unit)) → Prop := (Sum.elim (fun (t : Unit) => AW Γ sh M 0 0 53 [none, none, none] [] Q) (fun (t : Unit) => AW Γ sh M 0 0 45 [none, none, none] [] Q))
def fX8_tellsLetters (sh : AwS) (M : AwM) (v0 : Int) (v1 : Int) : Option Int :=
  (if v1 < 2 then some 0 else (if 40 < v1 then some 0 else (if (v1.tmod 2) = 0 then pb (lp (u1 (fX8_tellsLetters_L21 sh M v0 v1)) FU 0) (Sum.elim (u0 (some 1)) (u0 (some 0))) else some 0)))
set_option maxRecDepth 100000 in
set_option maxHeartbeats 4000000 in
theorem w_X8_tellsLetters_L21 {Γ : AwC} (hC : AOK Γ RX8 cX8_tellsLetters 3 3 0 0 "tellsLetters" (some .boolean)) {sh : AwS} {M : AwM} {v0 : Int} {v1 : Int} {Q : State → Prop} : ∀ s r, u1 (fX8_tellsLetters_L21 sh M v0 v1) s = some r → (∀ s', r = .inl s' → p_X8_tellsLetters_L21 Γ sh M v0 v1 Q s') → (∀ t, r = .inr t → x_X8_tellsLetters_L21 Γ sh M v0 v1 Q t) → p_X8_tellsLetters_L21 Γ sh M v0 v1 Q s := by
  intro v2 r h hL hX
  replace h := u1_s h
  unfold fX8_tellsLetters_L21 at h
  show AW Γ sh M 0 0 21 [some (.inr (.inr v0)), some (.inl v1), some (.inl v2)] [] Q
  refine aw_iload_n (pc' := 22) (i := 2) hC dX8_tellsLetters_21 rfl rfl rfl ?_
  refine aw_iload_n (pc' := 23) (i := 1) hC dX8_tellsLetters_22 rfl rfl rfl ?_
  refine aw_icmp_ge (tgt := 53) (pc' := 26) hC dX8_tellsLetters_23 (by decide) rfl (fun c4 => ?_) (fun c4 => ?_)
  · replace h := it_n c4 h
    refine aw_sub hC [none, none, none] trivial (Nat.le_of_ble_eq_true rfl) ?_
    cases h
    exact hX _ rfl
  · replace h := it_p c4 h
    refine aw_aload_n (pc' := 27) (i := 0) hC dX8_tellsLetters_26 rfl rfl rfl ?_
    refine aw_aload_n (pc' := 28) (i := 0) hC dX8_tellsLetters_27 rfl rfl rfl ?_
    refine aw_iload_n (pc' := 29) (i := 2) hC dX8_tellsLetters_28 rfl rfl rfl ?_
    obtain ⟨g6, h⟩ := gd_s h
    obtain ⟨x7, q5, h⟩ := pb_s h
    replace h := u1_s h
    refine aw_cV (pc' := 32) (k2 := 0) (n2 := 0) (st := [.inr (.inr v0)]) (stN := [.inl x7, .inr (.inr v0)]) hC [.inl v2] (mX8_tapeByte q5) lk_X8_271 g6 dX8_tellsLetters_29 rfl rfl (Nat.le_of_ble_eq_true rfl) (Nat.le_of_ble_eq_true rfl) (Nat.le_of_ble_eq_true rfl) rfl (Nat.le_of_ble_eq_true rfl) rfl rfl rfl ?_
    refine aw_aload_n (pc' := 33) (i := 0) hC dX8_tellsLetters_32 rfl rfl rfl ?_
    refine aw_iload_n (pc' := 34) (i := 2) hC dX8_tellsLetters_33 rfl rfl rfl ?_
    refine aw_iconst (pc' := 35) hC dX8_tellsLetters_34 rfl (by decide) ?_
    refine aw_iadd (pc' := 36) hC dX8_tellsLetters_35 rfl  ?_
    obtain ⟨x9, q8, h⟩ := pb_s h
    replace h := u1_s h
    refine aw_cV (pc' := 39) (k2 := 0) (n2 := 0) (st := [.inl x7, .inr (.inr v0)]) (stN := [.inl x9, .inl x7, .inr (.inr v0)]) hC [.inl (w32 (v2 + 1))] (mX8_tapeByte q8) lk_X8_271 g6 dX8_tellsLetters_36 rfl rfl (Nat.le_of_ble_eq_true rfl) (Nat.le_of_ble_eq_true rfl) (Nat.le_of_ble_eq_true rfl) rfl (Nat.le_of_ble_eq_true rfl) rfl rfl rfl ?_
    obtain ⟨x11, q10, h⟩ := pb_s h
    replace h := u1_s h
    refine aw_cV (pc' := 42) (k2 := 0) (n2 := 0) (st := []) (stN := [.inl x11]) hC [.inl x7, .inl x9] (mX8_areThere q10) lk_X8_183 g6 dX8_tellsLetters_39 rfl rfl (Nat.le_of_ble_eq_true rfl) (Nat.le_of_ble_eq_true rfl) (Nat.le_of_ble_eq_true rfl) rfl (Nat.le_of_ble_eq_true rfl) rfl rfl rfl ?_
    refine aw_if_ne (tgt := 47) (pc' := 45) hC dX8_tellsLetters_42 (by decide) rfl (fun c12 => ?_) (fun c12 => ?_)
    · replace h := it_n c12 h
      refine aw_iinc (pc' := 50) (ls' := [some (.inr (.inr v0)), some (.inl v1), some (.inl (w32 (v2 + 2)))]) hC dX8_tellsLetters_47 rfl rfl rfl rfl ?_
      refine aw_goto (tgt := 21) hC dX8_tellsLetters_50 (by decide) ?_
      refine aw_sub hC [some (.inr (.inr v0)), some (.inl v1), some (.inl (w32 (v2 + 2)))] ⟨rfl, ⟨rfl, ⟨rfl, trivial⟩⟩⟩ (Nat.le_of_ble_eq_true rfl) ?_
      cases h
      exact hL _ rfl
    · replace h := it_p c12 h
      refine aw_sub hC [none, none, none] trivial (Nat.le_of_ble_eq_true rfl) ?_
      cases h
      exact hX _ rfl
set_option maxRecDepth 100000 in
set_option maxHeartbeats 4000000 in
theorem mX8_tellsLetters {sh : AwS} {M : AwM} {v0 : Int} {v1 : Int} {r : Int} (h : fX8_tellsLetters sh M v0 v1 = some r) : AMet yX8_tellsLetters cX8_tellsLetters 3 (some .boolean) 3 0 0 [.inr (.inr v0), .inl v1] sh M (some (.inl r)) sh M := by
  refine amet_of (by decide +kernel) (Nat.le_of_ble_eq_true rfl) (fun Γ hC => ?_)
  replace hC : AOK Γ RX8 cX8_tellsLetters 3 3 0 0 "tellsLetters" (some .boolean) := hC
  unfold fX8_tellsLetters at h
  refine aw_sub hC [some (.inr (.inr v0)), some (.inl v1), none] ⟨rfl, ⟨rfl, trivial⟩⟩ (Nat.le_of_ble_eq_true rfl) ?_
  refine aw_iload_n (pc' := 1) (i := 1) hC dX8_tellsLetters_0 rfl rfl rfl ?_
  refine aw_iconst (pc' := 2) hC dX8_tellsLetters_1 rfl (by decide) ?_
  refine aw_icmp_lt (tgt := 17) (pc' := 5) hC dX8_tellsLetters_2 (by decide) rfl (fun c1 => ?_) (fun c1 => ?_)
  · replace h := it_p c1 h
    refine aw_iconst (pc' := 18) hC dX8_tellsLetters_17 rfl (by decide) ?_
    cases h
    exact aw_zret hC (Or.inl rfl) dX8_tellsLetters_18 (Nat.le_of_ble_eq_true rfl) (Nat.le_of_ble_eq_true rfl)
  · replace h := it_n c1 h
    refine aw_iload_n (pc' := 6) (i := 1) hC dX8_tellsLetters_5 rfl rfl rfl ?_
    refine aw_bipush (pc' := 8) hC dX8_tellsLetters_6 rfl (by decide) ?_
    refine aw_icmp_gt (tgt := 17) (pc' := 11) hC dX8_tellsLetters_8 (by decide) rfl (fun c2 => ?_) (fun c2 => ?_)
    · replace h := it_p c2 h
      refine aw_iconst (pc' := 18) hC dX8_tellsLetters_17 rfl (by decide) ?_
      cases h
      exact aw_zret hC (Or.inl rfl) dX8_tellsLetters_18 (Nat.le_of_ble_eq_true rfl) (Nat.le_of_ble_eq_true rfl)
    · replace h := it_n c2 h
      refine aw_iload_n (pc' := 12) (i := 1) hC dX8_tellsLetters_11 rfl rfl rfl ?_
      refine aw_iconst (pc' := 13) hC dX8_tellsLetters_12 rfl (by decide) ?_
      refine aw_irem (pc' := 14) hC dX8_tellsLetters_13 rfl (by decide) ?_
      refine aw_if_eq (tgt := 19) (pc' := 17) hC dX8_tellsLetters_14 (by decide) rfl (fun c3 => ?_) (fun c3 => ?_)
      · replace h := it_p c3 h
        refine aw_iconst (pc' := 20) hC dX8_tellsLetters_19 rfl (by decide) ?_
        refine aw_istore_n (pc' := 21) (i := 2) (ls' := [some (.inr (.inr v0)), some (.inl v1), some (.inl 0)]) hC dX8_tellsLetters_20 rfl rfl (Nat.le_of_ble_eq_true rfl) rfl rfl ?_
        obtain ⟨tq13, q13, h⟩ := pb_s h
        refine aw_sub hC [some (.inr (.inr v0)), some (.inl v1), some (.inl 0)] ⟨rfl, ⟨rfl, ⟨rfl, trivial⟩⟩⟩ (Nat.le_of_ble_eq_true rfl) ?_
        refine (lp_aw (p_X8_tellsLetters_L21 Γ sh M v0 v1 (fin_ Γ 0 0 (some (.inl r)) sh M)) (x_X8_tellsLetters_L21 Γ sh M v0 v1 (fin_ Γ 0 0 (some (.inl r)) sh M)) (w_X8_tellsLetters_L21 hC ) FU _ _ q13 ?_ : p_X8_tellsLetters_L21 Γ sh M v0 v1 (fin_ Γ 0 0 (some (.inl r)) sh M) 0)
        rcases tq13 with tq13 | tq13
        · replace h := se_l h
          cases tq13
          replace h := u0_s h
          show AW Γ sh M 0 0 53 [none, none, none] [] _
          refine aw_iconst (pc' := 54) hC dX8_tellsLetters_53 rfl (by decide) ?_
          cases h
          exact aw_zret hC (Or.inr rfl) dX8_tellsLetters_54 (Nat.le_of_ble_eq_true rfl) (Nat.le_of_ble_eq_true rfl)
        · replace h := se_r h
          cases tq13
          replace h := u0_s h
          show AW Γ sh M 0 0 45 [none, none, none] [] _
          refine aw_iconst (pc' := 46) hC dX8_tellsLetters_45 rfl (by decide) ?_
          cases h
          exact aw_zret hC (Or.inl rfl) dX8_tellsLetters_46 (Nat.le_of_ble_eq_true rfl) (Nat.le_of_ble_eq_true rfl)
      · replace h := it_n c3 h
        refine aw_iconst (pc' := 18) hC dX8_tellsLetters_17 rfl (by decide) ?_
        cases h
        exact aw_zret hC (Or.inl rfl) dX8_tellsLetters_18 (Nat.le_of_ble_eq_true rfl) (Nat.le_of_ble_eq_true rfl)
-- CoinCircle$Circle.letterVerdict(II)I
def fX0_letterVerdict (sh : AwS) (M : AwM) (v0 : Int) (v1 : Int) (v2 : Int) : Option (Int × AwM) :=
  gd_ (kd_ sh v0 = (0, 0)) (pb (fX0_knows sh M v0 v1 v2) <| u1 fun (x3 : Int) => ((if x3 = 0 then gd_ (kd_ sh (M v0 0) = (0, 3)) (gd_ ((kd_ sh (M (M v0 0) 3)).1 = 1 ∧ (0 : Int) ≤ v1 ∧ v1 < ((kd_ sh (M (M v0 0) 3)).2 : Int)) (pb (fX8_isIn sh M (M (M (M v0 0) 3) v1) v2) <| u1 fun (x8 : Int) => ((if x8 = 0 then pb (fX0_testHolds sh M v0 v1 v2) <| u2 fun (x11 : Int) (M12 : AwM) => ((if x11 = 0 then some (3, M12) else some (0, M12))) else some (2, M))))) else some (1, M))))
set_option maxRecDepth 100000 in
set_option maxHeartbeats 4000000 in
theorem mX0_letterVerdict {sh : AwS} {M : AwM} {v0 : Int} {v1 : Int} {v2 : Int} {r : Int} {M' : AwM} (h : fX0_letterVerdict sh M v0 v1 v2 = some (r, M')) : AMet yX0_letterVerdict cX0_letterVerdict 3 (some .int) 6 0 0 [.inr (.inr v0), .inl v1, .inl v2] sh M (some (.inl r)) sh M' := by
  refine amet_of (by decide +kernel) (Nat.le_of_ble_eq_true rfl) (fun Γ hC => ?_)
  replace hC : AOK Γ RX0 cX0_letterVerdict 3 6 0 0 "letterVerdict" (some .int) := hC
  unfold fX0_letterVerdict at h
  refine aw_sub hC [some (.inr (.inr v0)), some (.inl v1), some (.inl v2)] ⟨rfl, ⟨rfl, ⟨rfl, trivial⟩⟩⟩ (Nat.le_of_ble_eq_true rfl) ?_
  refine aw_aload_n (pc' := 1) (i := 0) hC dX0_letterVerdict_0 rfl rfl rfl ?_
  refine aw_iload_n (pc' := 2) (i := 1) hC dX0_letterVerdict_1 rfl rfl rfl ?_
  refine aw_iload_n (pc' := 3) (i := 2) hC dX0_letterVerdict_2 rfl rfl rfl ?_
  obtain ⟨g2, h⟩ := gd_s h
  obtain ⟨x3, q1, h⟩ := pb_s h
  replace h := u1_s h
  refine aw_cV (pc' := 6) (k2 := 0) (n2 := 0) (st := []) (stN := [.inl x3]) hC [.inl v1, .inl v2] (mX0_knows q1) lk_X0_59 g2 dX0_letterVerdict_3 rfl rfl (Nat.le_of_ble_eq_true rfl) (Nat.le_of_ble_eq_true rfl) (Nat.le_of_ble_eq_true rfl) rfl (Nat.le_of_ble_eq_true rfl) rfl rfl rfl ?_
  refine aw_if_eq (tgt := 11) (pc' := 9) hC dX0_letterVerdict_6 (by decide) rfl (fun c4 => ?_) (fun c4 => ?_)
  · replace h := it_p c4 h
    refine aw_aload_n (pc' := 12) (i := 0) hC dX0_letterVerdict_11 rfl rfl rfl ?_
    refine aw_getfield (pc' := 15) (v := (.inr (.inr (M v0 0)))) hC dX0_letterVerdict_12 rfl fl_X0_12 g2 rfl ?_
    obtain ⟨g5, h⟩ := gd_s h
    refine aw_getfield (pc' := 18) (v := (.inr (.inr (M (M v0 0) 3)))) hC dX0_letterVerdict_15 rfl fl_X0_40 g5 rfl ?_
    refine aw_iload_n (pc' := 19) (i := 1) hC dX0_letterVerdict_18 rfl rfl rfl ?_
    obtain ⟨g6, h⟩ := gd_s h
    refine aw_iaload (pc' := 20) hC dX0_letterVerdict_19 rfl g6 ?_
    refine aw_iload_n (pc' := 21) (i := 2) hC dX0_letterVerdict_20 rfl rfl rfl ?_
    obtain ⟨x8, q7, h⟩ := pb_s h
    replace h := u1_s h
    refine aw_cSN (pc' := 24) (k2 := 0) (n2 := 0) (st := []) (stN := [.inl x8]) hC [.inl (M (M (M v0 0) 3) v1), .inl v2] (mX8_isIn q7) lk_X0_51 dX0_letterVerdict_21 rfl rfl (Nat.le_of_ble_eq_true rfl) (Nat.le_of_ble_eq_true rfl) (Nat.le_of_ble_eq_true rfl) rfl (Nat.le_of_ble_eq_true rfl) rfl rfl rfl ?_
    refine aw_if_eq (tgt := 29) (pc' := 27) hC dX0_letterVerdict_24 (by decide) rfl (fun c9 => ?_) (fun c9 => ?_)
    · replace h := it_p c9 h
      refine aw_aload_n (pc' := 30) (i := 0) hC dX0_letterVerdict_29 rfl rfl rfl ?_
      refine aw_iload_n (pc' := 31) (i := 1) hC dX0_letterVerdict_30 rfl rfl rfl ?_
      refine aw_iload_n (pc' := 32) (i := 2) hC dX0_letterVerdict_31 rfl rfl rfl ?_
      obtain ⟨⟨x11, M12⟩, q10, h⟩ := pb_s h
      replace h := u2_s h
      refine aw_cV (pc' := 35) (k2 := 0) (n2 := 0) (st := []) (stN := [.inl x11]) hC [.inl v1, .inl v2] (mX0_testHolds q10) lk_X0_130 g2 dX0_letterVerdict_32 rfl rfl (Nat.le_of_ble_eq_true rfl) (Nat.le_of_ble_eq_true rfl) (Nat.le_of_ble_eq_true rfl) rfl (Nat.le_of_ble_eq_true rfl) rfl rfl rfl ?_
      refine aw_if_eq (tgt := 42) (pc' := 38) hC dX0_letterVerdict_35 (by decide) rfl (fun c13 => ?_) (fun c13 => ?_)
      · replace h := it_p c13 h
        refine aw_iconst (pc' := 43) hC dX0_letterVerdict_42 rfl (by decide) ?_
        cases h
        exact aw_iret hC dX0_letterVerdict_43 (Nat.le_of_ble_eq_true rfl) (Nat.le_of_ble_eq_true rfl)
      · replace h := it_n c13 h
        refine aw_iconst (pc' := 39) hC dX0_letterVerdict_38 rfl (by decide) ?_
        refine aw_goto (tgt := 43) hC dX0_letterVerdict_39 (by decide) ?_
        cases h
        exact aw_iret hC dX0_letterVerdict_43 (Nat.le_of_ble_eq_true rfl) (Nat.le_of_ble_eq_true rfl)
    · replace h := it_n c9 h
      refine aw_iconst (pc' := 28) hC dX0_letterVerdict_27 rfl (by decide) ?_
      cases h
      exact aw_iret hC dX0_letterVerdict_28 (Nat.le_of_ble_eq_true rfl) (Nat.le_of_ble_eq_true rfl)
  · replace h := it_n c4 h
    refine aw_iconst (pc' := 10) hC dX0_letterVerdict_9 rfl (by decide) ?_
    cases h
    exact aw_iret hC dX0_letterVerdict_10 (Nat.le_of_ble_eq_true rfl) (Nat.le_of_ble_eq_true rfl)
-- CoinCircle.letters()I
def fX8_letters_L35 (sh : AwS) (v0 : Int) (v2 : Int) (v3 : Int) (M : AwM) : Option ((Int × Int × AwM) ⊕ (Int × AwM)) :=
  gd_ (kd_ sh v0 = (0, 8)) ((if v3 < (M v0 10) then (if v3 < 20 then pb (fX8_tapeByte sh M v0 (w32 (2 * v3))) <| u1 fun (x13 : Int) => (pb (fX8_tapeByte sh M v0 (w32 ((w32 (2 * v3)) + 1))) <| u1 fun (x15 : Int) => (gd_ (kd_ sh (M v0 4) = (0, 0)) (pb (fX0_letterVerdict sh M (M v0 4) x13 x15) <| u2 fun (x18 : Int) (M19 : AwM) => (gd_ ((kd_ sh (M v0 9)).1 = 1 ∧ (0 : Int) ≤ v3 ∧ v3 < ((kd_ sh (M v0 9)).2 : Int)) (bd_ (up_ M19 (M v0 9) v3 x18) fun (M21 : AwM) => (gd_ ((kd_ sh (M21 v0 9)).1 = 1 ∧ (0 : Int) ≤ v3 ∧ v3 < ((kd_ sh (M21 v0 9)).2 : Int)) ((if (M21 (M21 v0 9) v3) = 0 then some (.inl (v2, (w32 (v3 + 1)), M21)) else some (.inl ((w32 (v2 + 1)), (w32 (v3 + 1)), M21)))))))))) else some (.inr (v2, M))) else some (.inr (v2, M))))
def p_X8_letters_L35 (Γ : AwC) (sh : AwS) (v0 : Int) (Q : State → Prop) (s : Int × Int × AwM) : Prop := AW Γ sh (s.2.2) 0 0 35 [some (.inr (.inr v0)), none, some (.inl (s.1)), some (.inl (s.2.1))] [] Q
def x_X8_letters_L35 (Γ : AwC) (sh : AwS) (v0 : Int) (Q : State → Prop) : (Int × AwM) → Prop := (fun (t : Int × AwM) => AW Γ sh (t.2) 0 0 96 [none, none, some (.inl (t.1)), none] [] Q)
def fX8_letters (sh : AwS) (M : AwM) (v0 : Int) : Option (Int × AwM) :=
  gd_ (kd_ sh v0 = (0, 8)) (bd_ (up_ M v0 1 0) fun (M2 : AwM) => (pb (fX8_tellsLetters sh M2 v0 (M v0 1)) <| u1 fun (x5 : Int) => ((if x5 = 0 then pb (fX8_refuse sh M2 v0 5) <| u2 fun (x29 : Int) (M30 : AwM) => (some (x29, M30)) else bd_ (up_ M2 v0 10 (w32 (((M v0 1) : Int).tdiv 2))) fun (M7 : AwM) => (pb (lp (u3 (fX8_letters_L35 sh v0)) FU (0, 0, M7)) (u2 (fun (x26 : Int) (M27 : AwM) => some (x26, M27))))))))
set_option maxRecDepth 100000 in
set_option maxHeartbeats 4000000 in
theorem w_X8_letters_L35 {Γ : AwC} (hC : AOK Γ RX8 cX8_letters 4 7 0 0 "letters" (some .int)) {sh : AwS} {v0 : Int} {Q : State → Prop} : ∀ s r, u3 (fX8_letters_L35 sh v0) s = some r → (∀ s', r = .inl s' → p_X8_letters_L35 Γ sh v0 Q s') → (∀ t, r = .inr t → x_X8_letters_L35 Γ sh v0 Q t) → p_X8_letters_L35 Γ sh v0 Q s := by
  intro s r h hL hX
  obtain ⟨v2, v3, M⟩ := s
  replace h := u3_s h
  unfold fX8_letters_L35 at h
  show AW Γ sh M 0 0 35 [some (.inr (.inr v0)), none, some (.inl v2), some (.inl v3)] [] Q
  refine aw_iload_n (pc' := 36) (i := 3) hC dX8_letters_35 rfl rfl rfl ?_
  refine aw_aload_n (pc' := 37) (i := 0) hC dX8_letters_36 rfl rfl rfl ?_
  obtain ⟨g9, h⟩ := gd_s h
  refine aw_getfield (pc' := 40) (v := (.inl (M v0 10))) hC dX8_letters_37 rfl fl_X8_92 g9 rfl ?_
  refine aw_icmp_ge (tgt := 96) (pc' := 43) hC dX8_letters_40 (by decide) rfl (fun c10 => ?_) (fun c10 => ?_)
  · replace h := it_n c10 h
    refine aw_sub hC [none, none, some (.inl v2), none] ⟨rfl, trivial⟩ (Nat.le_of_ble_eq_true rfl) ?_
    cases h
    exact hX _ rfl
  · replace h := it_p c10 h
    refine aw_iload_n (pc' := 44) (i := 3) hC dX8_letters_43 rfl rfl rfl ?_
    refine aw_bipush (pc' := 46) hC dX8_letters_44 rfl (by decide) ?_
    refine aw_icmp_ge (tgt := 96) (pc' := 49) hC dX8_letters_46 (by decide) rfl (fun c11 => ?_) (fun c11 => ?_)
    · replace h := it_n c11 h
      refine aw_sub hC [none, none, some (.inl v2), none] ⟨rfl, trivial⟩ (Nat.le_of_ble_eq_true rfl) ?_
      cases h
      exact hX _ rfl
    · replace h := it_p c11 h
      refine aw_aload_n (pc' := 50) (i := 0) hC dX8_letters_49 rfl rfl rfl ?_
      refine aw_getfield (pc' := 53) (v := (.inr (.inr (M v0 9)))) hC dX8_letters_50 rfl fl_X8_38 g9 rfl ?_
      refine aw_iload_n (pc' := 54) (i := 3) hC dX8_letters_53 rfl rfl rfl ?_
      refine aw_aload_n (pc' := 55) (i := 0) hC dX8_letters_54 rfl rfl rfl ?_
      refine aw_getfield (pc' := 58) (v := (.inr (.inr (M v0 4)))) hC dX8_letters_55 rfl fl_X8_60 g9 rfl ?_
      refine aw_aload_n (pc' := 59) (i := 0) hC dX8_letters_58 rfl rfl rfl ?_
      refine aw_iconst (pc' := 60) hC dX8_letters_59 rfl (by decide) ?_
      refine aw_iload_n (pc' := 61) (i := 3) hC dX8_letters_60 rfl rfl rfl ?_
      refine aw_imul (pc' := 62) hC dX8_letters_61 rfl  ?_
      obtain ⟨x13, q12, h⟩ := pb_s h
      replace h := u1_s h
      refine aw_cV (pc' := 65) (k2 := 0) (n2 := 0) (st := [.inr (.inr (M v0 4)), .inl v3, .inr (.inr (M v0 9))]) (stN := [.inl x13, .inr (.inr (M v0 4)), .inl v3, .inr (.inr (M v0 9))]) hC [.inl (w32 (2 * v3))] (mX8_tapeByte q12) lk_X8_271 g9 dX8_letters_62 rfl rfl (Nat.le_of_ble_eq_true rfl) (Nat.le_of_ble_eq_true rfl) (Nat.le_of_ble_eq_true rfl) rfl (Nat.le_of_ble_eq_true rfl) rfl rfl rfl ?_
      refine aw_aload_n (pc' := 66) (i := 0) hC dX8_letters_65 rfl rfl rfl ?_
      refine aw_iconst (pc' := 67) hC dX8_letters_66 rfl (by decide) ?_
      refine aw_iload_n (pc' := 68) (i := 3) hC dX8_letters_67 rfl rfl rfl ?_
      refine aw_imul (pc' := 69) hC dX8_letters_68 rfl  ?_
      refine aw_iconst (pc' := 70) hC dX8_letters_69 rfl (by decide) ?_
      refine aw_iadd (pc' := 71) hC dX8_letters_70 rfl  ?_
      obtain ⟨x15, q14, h⟩ := pb_s h
      replace h := u1_s h
      refine aw_cV (pc' := 74) (k2 := 0) (n2 := 0) (st := [.inl x13, .inr (.inr (M v0 4)), .inl v3, .inr (.inr (M v0 9))]) (stN := [.inl x15, .inl x13, .inr (.inr (M v0 4)), .inl v3, .inr (.inr (M v0 9))]) hC [.inl (w32 ((w32 (2 * v3)) + 1))] (mX8_tapeByte q14) lk_X8_271 g9 dX8_letters_71 rfl rfl (Nat.le_of_ble_eq_true rfl) (Nat.le_of_ble_eq_true rfl) (Nat.le_of_ble_eq_true rfl) rfl (Nat.le_of_ble_eq_true rfl) rfl rfl rfl ?_
      obtain ⟨g17, h⟩ := gd_s h
      obtain ⟨⟨x18, M19⟩, q16, h⟩ := pb_s h
      replace h := u2_s h
      refine aw_cV (pc' := 77) (k2 := 0) (n2 := 0) (st := [.inl v3, .inr (.inr (M v0 9))]) (stN := [.inl x18, .inl v3, .inr (.inr (M v0 9))]) hC [.inl x13, .inl x15] (mX0_letterVerdict q16) lk_X8_274 g17 dX8_letters_74 rfl rfl (Nat.le_of_ble_eq_true rfl) (Nat.le_of_ble_eq_true rfl) (Nat.le_of_ble_eq_true rfl) rfl (Nat.le_of_ble_eq_true rfl) rfl rfl rfl ?_
      obtain ⟨g20, h⟩ := gd_s h
      obtain ⟨M21, e22, h⟩ := bd_s h
      refine aw_ias (pc' := 78) hC dX8_letters_77 rfl g20 e22 ?_
      refine aw_aload_n (pc' := 79) (i := 0) hC dX8_letters_78 rfl rfl rfl ?_
      refine aw_getfield (pc' := 82) (v := (.inr (.inr (M21 v0 9)))) hC dX8_letters_79 rfl fl_X8_38 g9 rfl ?_
      refine aw_iload_n (pc' := 83) (i := 3) hC dX8_letters_82 rfl rfl rfl ?_
      obtain ⟨g23, h⟩ := gd_s h
      refine aw_iaload (pc' := 84) hC dX8_letters_83 rfl g23 ?_
      refine aw_if_eq (tgt := 90) (pc' := 87) hC dX8_letters_84 (by decide) rfl (fun c24 => ?_) (fun c24 => ?_)
      · replace h := it_p c24 h
        refine aw_iinc (pc' := 93) (ls' := [some (.inr (.inr v0)), none, some (.inl v2), some (.inl (w32 (v3 + 1)))]) hC dX8_letters_90 rfl rfl rfl rfl ?_
        refine aw_goto (tgt := 35) hC dX8_letters_93 (by decide) ?_
        refine aw_sub hC [some (.inr (.inr v0)), none, some (.inl v2), some (.inl (w32 (v3 + 1)))] ⟨rfl, ⟨rfl, ⟨rfl, trivial⟩⟩⟩ (Nat.le_of_ble_eq_true rfl) ?_
        cases h
        exact hL _ rfl
      · replace h := it_n c24 h
        refine aw_iinc (pc' := 90) (ls' := [some (.inr (.inr v0)), none, some (.inl (w32 (v2 + 1))), some (.inl v3)]) hC dX8_letters_87 rfl rfl rfl rfl ?_
        refine aw_iinc (pc' := 93) (ls' := [some (.inr (.inr v0)), none, some (.inl (w32 (v2 + 1))), some (.inl (w32 (v3 + 1)))]) hC dX8_letters_90 rfl rfl rfl rfl ?_
        refine aw_goto (tgt := 35) hC dX8_letters_93 (by decide) ?_
        refine aw_sub hC [some (.inr (.inr v0)), none, some (.inl (w32 (v2 + 1))), some (.inl (w32 (v3 + 1)))] ⟨rfl, ⟨rfl, ⟨rfl, trivial⟩⟩⟩ (Nat.le_of_ble_eq_true rfl) ?_
        cases h
        exact hL _ rfl
set_option maxRecDepth 100000 in
set_option maxHeartbeats 4000000 in
theorem mX8_letters {sh : AwS} {M : AwM} {v0 : Int} {r : Int} {M' : AwM} (h : fX8_letters sh M v0 = some (r, M')) : AMet yX8_letters cX8_letters 4 (some .int) 7 0 0 [.inr (.inr v0)] sh M (some (.inl r)) sh M' := by
  refine amet_of (by decide +kernel) (Nat.le_of_ble_eq_true rfl) (fun Γ hC => ?_)
  replace hC : AOK Γ RX8 cX8_letters 4 7 0 0 "letters" (some .int) := hC
  unfold fX8_letters at h
  refine aw_sub hC [some (.inr (.inr v0)), none, none, none] ⟨rfl, trivial⟩ (Nat.le_of_ble_eq_true rfl) ?_
  refine aw_aload_n (pc' := 1) (i := 0) hC dX8_letters_0 rfl rfl rfl ?_
  obtain ⟨g1, h⟩ := gd_s h
  refine aw_getfield (pc' := 4) (v := (.inl (M v0 1))) hC dX8_letters_1 rfl fl_X8_67 g1 rfl ?_
  refine aw_istore_n (pc' := 5) (i := 1) (ls' := [some (.inr (.inr v0)), some (.inl (M v0 1)), none, none]) hC dX8_letters_4 rfl rfl (Nat.le_of_ble_eq_true rfl) rfl rfl ?_
  refine aw_aload_n (pc' := 6) (i := 0) hC dX8_letters_5 rfl rfl rfl ?_
  refine aw_iconst (pc' := 7) hC dX8_letters_6 rfl (by decide) ?_
  obtain ⟨M2, e3, h⟩ := bd_s h
  refine aw_pf (pc' := 10) hC dX8_letters_7 rfl fp_X8_67 g1 rfl trivial e3 ?_
  refine aw_aload_n (pc' := 11) (i := 0) hC dX8_letters_10 rfl rfl rfl ?_
  refine aw_iload_n (pc' := 12) (i := 1) hC dX8_letters_11 rfl rfl rfl ?_
  obtain ⟨x5, q4, h⟩ := pb_s h
  replace h := u1_s h
  refine aw_cV (pc' := 15) (k2 := 0) (n2 := 0) (st := []) (stN := [.inl x5]) hC [.inl (M v0 1)] (mX8_tellsLetters q4) lk_X8_268 g1 dX8_letters_12 rfl rfl (Nat.le_of_ble_eq_true rfl) (Nat.le_of_ble_eq_true rfl) (Nat.le_of_ble_eq_true rfl) rfl (Nat.le_of_ble_eq_true rfl) rfl rfl rfl ?_
  refine aw_if_ne (tgt := 24) (pc' := 18) hC dX8_letters_15 (by decide) rfl (fun c6 => ?_) (fun c6 => ?_)
  · replace h := it_n c6 h
    refine aw_aload_n (pc' := 25) (i := 0) hC dX8_letters_24 rfl rfl rfl ?_
    refine aw_iload_n (pc' := 26) (i := 1) hC dX8_letters_25 rfl rfl rfl ?_
    refine aw_iconst (pc' := 27) hC dX8_letters_26 rfl (by decide) ?_
    refine aw_idiv (pc' := 28) hC dX8_letters_27 rfl (by decide) ?_
    obtain ⟨M7, e8, h⟩ := bd_s h
    refine aw_pf (pc' := 31) hC dX8_letters_28 rfl fp_X8_92 g1 rfl trivial e8 ?_
    refine aw_iconst (pc' := 32) hC dX8_letters_31 rfl (by decide) ?_
    refine aw_istore_n (pc' := 33) (i := 2) (ls' := [some (.inr (.inr v0)), some (.inl (M v0 1)), some (.inl 0), none]) hC dX8_letters_32 rfl rfl (Nat.le_of_ble_eq_true rfl) rfl rfl ?_
    refine aw_iconst (pc' := 34) hC dX8_letters_33 rfl (by decide) ?_
    refine aw_istore_n (pc' := 35) (i := 3) (ls' := [some (.inr (.inr v0)), some (.inl (M v0 1)), some (.inl 0), some (.inl 0)]) hC dX8_letters_34 rfl rfl (Nat.le_of_ble_eq_true rfl) rfl rfl ?_
    obtain ⟨tq25, q25, h⟩ := pb_s h
    refine aw_sub hC [some (.inr (.inr v0)), none, some (.inl 0), some (.inl 0)] ⟨rfl, ⟨rfl, ⟨rfl, trivial⟩⟩⟩ (Nat.le_of_ble_eq_true rfl) ?_
    refine (lp_aw (p_X8_letters_L35 Γ sh v0 (fin_ Γ 0 0 (some (.inl r)) sh M')) (x_X8_letters_L35 Γ sh v0 (fin_ Γ 0 0 (some (.inl r)) sh M')) (w_X8_letters_L35 hC ) FU _ _ q25 ?_ : p_X8_letters_L35 Γ sh v0 (fin_ Γ 0 0 (some (.inl r)) sh M') (0, 0, M7))
    obtain ⟨x26, M27⟩ := tq25
    replace h := u2_s h
    show AW Γ sh M27 0 0 96 [none, none, some (.inl x26), none] [] _
    refine aw_iload_n (pc' := 97) (i := 2) hC dX8_letters_96 rfl rfl rfl ?_
    cases h
    exact aw_iret hC dX8_letters_97 (Nat.le_of_ble_eq_true rfl) (Nat.le_of_ble_eq_true rfl)
  · replace h := it_p c6 h
    refine aw_aload_n (pc' := 19) (i := 0) hC dX8_letters_18 rfl rfl rfl ?_
    refine aw_iconst (pc' := 20) hC dX8_letters_19 rfl (by decide) ?_
    obtain ⟨⟨x29, M30⟩, q28, h⟩ := pb_s h
    replace h := u2_s h
    refine aw_cV (pc' := 23) (k2 := 0) (n2 := 0) (st := []) (stN := [.inl x29]) hC [.inl 5] (mX8_refuse q28) lk_X8_70 g1 dX8_letters_20 rfl rfl (Nat.le_of_ble_eq_true rfl) (Nat.le_of_ble_eq_true rfl) (Nat.le_of_ble_eq_true rfl) rfl (Nat.le_of_ble_eq_true rfl) rfl rfl rfl ?_
    cases h
    exact aw_iret hC dX8_letters_23 (Nat.le_of_ble_eq_true rfl) (Nat.le_of_ble_eq_true rfl)
-- CoinCircle.letterIs(I)I
def fX8_letterIs (sh : AwS) (M : AwM) (v0 : Int) (v1 : Int) : Option Int :=
  (if v1 < 0 then some (-1) else gd_ (kd_ sh v0 = (0, 8)) ((if v1 < (M v0 10) then (if v1 < 20 then gd_ ((kd_ sh (M v0 9)).1 = 1 ∧ (0 : Int) ≤ v1 ∧ v1 < ((kd_ sh (M v0 9)).2 : Int)) (some (M (M v0 9) v1)) else some (-1)) else some (-1))))
set_option maxRecDepth 100000 in
set_option maxHeartbeats 4000000 in
theorem mX8_letterIs {sh : AwS} {M : AwM} {v0 : Int} {v1 : Int} {r : Int} (h : fX8_letterIs sh M v0 v1 = some r) : AMet yX8_letterIs cX8_letterIs 2 (some .int) 1 0 0 [.inr (.inr v0), .inl v1] sh M (some (.inl r)) sh M := by
  refine amet_of (by decide +kernel) (Nat.le_of_ble_eq_true rfl) (fun Γ hC => ?_)
  replace hC : AOK Γ RX8 cX8_letterIs 2 1 0 0 "letterIs" (some .int) := hC
  unfold fX8_letterIs at h
  refine aw_sub hC [some (.inr (.inr v0)), some (.inl v1)] ⟨rfl, ⟨rfl, trivial⟩⟩ (Nat.le_of_ble_eq_true rfl) ?_
  refine aw_iload_n (pc' := 1) (i := 1) hC dX8_letterIs_0 rfl rfl rfl ?_
  refine aw_if_lt (tgt := 27) (pc' := 4) hC dX8_letterIs_1 (by decide) rfl (fun c1 => ?_) (fun c1 => ?_)
  · replace h := it_p c1 h
    refine aw_iconst (pc' := 28) hC dX8_letterIs_27 rfl (by decide) ?_
    cases h
    exact aw_iret hC dX8_letterIs_28 (Nat.le_of_ble_eq_true rfl) (Nat.le_of_ble_eq_true rfl)
  · replace h := it_n c1 h
    refine aw_iload_n (pc' := 5) (i := 1) hC dX8_letterIs_4 rfl rfl rfl ?_
    refine aw_aload_n (pc' := 6) (i := 0) hC dX8_letterIs_5 rfl rfl rfl ?_
    obtain ⟨g2, h⟩ := gd_s h
    refine aw_getfield (pc' := 9) (v := (.inl (M v0 10))) hC dX8_letterIs_6 rfl fl_X8_92 g2 rfl ?_
    refine aw_icmp_ge (tgt := 27) (pc' := 12) hC dX8_letterIs_9 (by decide) rfl (fun c3 => ?_) (fun c3 => ?_)
    · replace h := it_n c3 h
      refine aw_iconst (pc' := 28) hC dX8_letterIs_27 rfl (by decide) ?_
      cases h
      exact aw_iret hC dX8_letterIs_28 (Nat.le_of_ble_eq_true rfl) (Nat.le_of_ble_eq_true rfl)
    · replace h := it_p c3 h
      refine aw_iload_n (pc' := 13) (i := 1) hC dX8_letterIs_12 rfl rfl rfl ?_
      refine aw_bipush (pc' := 15) hC dX8_letterIs_13 rfl (by decide) ?_
      refine aw_icmp_ge (tgt := 27) (pc' := 18) hC dX8_letterIs_15 (by decide) rfl (fun c4 => ?_) (fun c4 => ?_)
      · replace h := it_n c4 h
        refine aw_iconst (pc' := 28) hC dX8_letterIs_27 rfl (by decide) ?_
        cases h
        exact aw_iret hC dX8_letterIs_28 (Nat.le_of_ble_eq_true rfl) (Nat.le_of_ble_eq_true rfl)
      · replace h := it_p c4 h
        refine aw_aload_n (pc' := 19) (i := 0) hC dX8_letterIs_18 rfl rfl rfl ?_
        refine aw_getfield (pc' := 22) (v := (.inr (.inr (M v0 9)))) hC dX8_letterIs_19 rfl fl_X8_38 g2 rfl ?_
        refine aw_iload_n (pc' := 23) (i := 1) hC dX8_letterIs_22 rfl rfl rfl ?_
        obtain ⟨g5, h⟩ := gd_s h
        refine aw_iaload (pc' := 24) hC dX8_letterIs_23 rfl g5 ?_
        refine aw_goto (tgt := 28) hC dX8_letterIs_24 (by decide) ?_
        cases h
        exact aw_iret hC dX8_letterIs_28 (Nat.le_of_ble_eq_true rfl) (Nat.le_of_ble_eq_true rfl)
-- java/lang/Math.abs(I)I
def fJ9_abs_0f7a4 (sh : AwS) (M : AwM) (v0 : Int) : Option Int :=
  (if v0 < 0 then some (w32 (-v0)) else some v0)
set_option maxRecDepth 100000 in
set_option maxHeartbeats 4000000 in
theorem mJ9_abs_0f7a4 {sh : AwS} {M : AwM} {v0 : Int} {r : Int} (h : fJ9_abs_0f7a4 sh M v0 = some r) : AMet yJ9_abs_0f7a4 cJ9_abs_0f7a4 1 (some .int) 1 0 0 [.inl v0] sh M (some (.inl r)) sh M := by
  refine amet_of (by decide +kernel) (Nat.le_of_ble_eq_true rfl) (fun Γ hC => ?_)
  replace hC : AOK Γ RJ9 cJ9_abs_0f7a4 1 1 0 0 "abs" (some .int) := hC
  unfold fJ9_abs_0f7a4 at h
  refine aw_sub hC [some (.inl v0)] ⟨rfl, trivial⟩ (Nat.le_of_ble_eq_true rfl) ?_
  refine aw_iload_n (pc' := 1) (i := 0) hC dJ9_abs_0f7a4_0 rfl rfl rfl ?_
  refine aw_if_ge (tgt := 9) (pc' := 4) hC dJ9_abs_0f7a4_1 (by decide) rfl (fun c1 => ?_) (fun c1 => ?_)
  · replace h := it_n c1 h
    refine aw_iload_n (pc' := 10) (i := 0) hC dJ9_abs_0f7a4_9 rfl rfl rfl ?_
    cases h
    exact aw_iret hC dJ9_abs_0f7a4_10 (Nat.le_of_ble_eq_true rfl) (Nat.le_of_ble_eq_true rfl)
  · replace h := it_p c1 h
    refine aw_iload_n (pc' := 5) (i := 0) hC dJ9_abs_0f7a4_4 rfl rfl rfl ?_
    refine aw_ineg (pc' := 6) hC dJ9_abs_0f7a4_5 rfl  ?_
    refine aw_goto (tgt := 10) hC dJ9_abs_0f7a4_6 (by decide) ?_
    cases h
    exact aw_iret hC dJ9_abs_0f7a4_10 (Nat.le_of_ble_eq_true rfl) (Nat.le_of_ble_eq_true rfl)
-- CoinCircle$Society.difference(II)I
def fX5_difference (sh : AwS) (M : AwM) (v0 : Int) (v1 : Int) (v2 : Int) : Option Int :=
  gd_ (kd_ sh v0 = (0, 5)) (pb (fX5_worthOf sh M v0 v2) <| u1 fun (x3 : Int) => (pb (fX5_worthOf sh M v0 v1) <| u1 fun (x5 : Int) => (pb (fJ9_abs_0f7a4 sh M (w32 (x3 - (w32 (2 * x5))))) <| u1 fun (x7 : Int) => (some x7))))
set_option maxRecDepth 100000 in
set_option maxHeartbeats 4000000 in
theorem mX5_difference {sh : AwS} {M : AwM} {v0 : Int} {v1 : Int} {v2 : Int} {r : Int} (h : fX5_difference sh M v0 v1 v2 = some r) : AMet yX5_difference cX5_difference 3 (some .int) 3 0 0 [.inr (.inr v0), .inl v1, .inl v2] sh M (some (.inl r)) sh M := by
  refine amet_of (by decide +kernel) (Nat.le_of_ble_eq_true rfl) (fun Γ hC => ?_)
  replace hC : AOK Γ RX5 cX5_difference 3 3 0 0 "difference" (some .int) := hC
  unfold fX5_difference at h
  refine aw_sub hC [some (.inr (.inr v0)), some (.inl v1), some (.inl v2)] ⟨rfl, ⟨rfl, ⟨rfl, trivial⟩⟩⟩ (Nat.le_of_ble_eq_true rfl) ?_
  refine aw_aload_n (pc' := 1) (i := 0) hC dX5_difference_0 rfl rfl rfl ?_
  refine aw_iload_n (pc' := 2) (i := 2) hC dX5_difference_1 rfl rfl rfl ?_
  obtain ⟨g2, h⟩ := gd_s h
  obtain ⟨x3, q1, h⟩ := pb_s h
  replace h := u1_s h
  refine aw_cV (pc' := 5) (k2 := 0) (n2 := 0) (st := []) (stN := [.inl x3]) hC [.inl v2] (mX5_worthOf q1) lk_X5_78 g2 dX5_difference_2 rfl rfl (Nat.le_of_ble_eq_true rfl) (Nat.le_of_ble_eq_true rfl) (Nat.le_of_ble_eq_true rfl) rfl (Nat.le_of_ble_eq_true rfl) rfl rfl rfl ?_
  refine aw_iconst (pc' := 6) hC dX5_difference_5 rfl (by decide) ?_
  refine aw_aload_n (pc' := 7) (i := 0) hC dX5_difference_6 rfl rfl rfl ?_
  refine aw_iload_n (pc' := 8) (i := 1) hC dX5_difference_7 rfl rfl rfl ?_
  obtain ⟨x5, q4, h⟩ := pb_s h
  replace h := u1_s h
  refine aw_cV (pc' := 11) (k2 := 0) (n2 := 0) (st := [.inl 2, .inl x3]) (stN := [.inl x5, .inl 2, .inl x3]) hC [.inl v1] (mX5_worthOf q4) lk_X5_78 g2 dX5_difference_8 rfl rfl (Nat.le_of_ble_eq_true rfl) (Nat.le_of_ble_eq_true rfl) (Nat.le_of_ble_eq_true rfl) rfl (Nat.le_of_ble_eq_true rfl) rfl rfl rfl ?_
  refine aw_imul (pc' := 12) hC dX5_difference_11 rfl  ?_
  refine aw_isub (pc' := 13) hC dX5_difference_12 rfl  ?_
  obtain ⟨x7, q6, h⟩ := pb_s h
  replace h := u1_s h
  refine aw_cS (pc' := 16) (k2 := 0) (n2 := 0) (st := []) (stN := [.inl x7]) hC [.inl (w32 (x3 - (w32 (2 * x5))))] (mJ9_abs_0f7a4 q6) lk_X5_81 dX5_difference_13 rfl rfl (Nat.le_of_ble_eq_true rfl) (Nat.le_of_ble_eq_true rfl) (Nat.le_of_ble_eq_true rfl) rfl (Nat.le_of_ble_eq_true rfl) rfl rfl rfl ?_
  cases h
  exact aw_iret hC dX5_difference_16 (Nat.le_of_ble_eq_true rfl) (Nat.le_of_ble_eq_true rfl)
-- CoinCircle$Society.fairPurse(I)I
def fX5_fairPurse_L15 (sh : AwS) (M : AwM) (v0 : Int) (v1 : Int) (v2 : Int) (v3 : Int) (v4 : Int) (v5 : Int) : Option ((Int × Int × Int × Int) ⊕ ((Int) ⊕ (Int))) :=
  (if v5 < 4096 then (if (an_ (w32 (v3 - v1)) v1) = 0 then some (.inr (.inr v2)) else gd_ (kd_ sh v0 = (0, 5)) (pb (fX5_difference sh M v0 (an_ (w32 (v3 - v1)) v1) v1) <| u1 fun (x8 : Int) => ((if x8 < v4 then some (.inl ((an_ (w32 (v3 - v1)) v1), (an_ (w32 (v3 - v1)) v1), x8, (w32 (v5 + 1)))) else some (.inl (v2, (an_ (w32 (v3 - v1)) v1), v4, (w32 (v5 + 1)))))))) else some (.inr (.inl v2)))
def p_X5_fairPurse_L15 (Γ : AwC) (sh : AwS) (M : AwM) (v0 : Int) (v1 : Int) (Q : State → Prop) (s : Int × Int × Int × Int) : Prop := AW Γ sh M 0 0 15 [some (.inr (.inr v0)), some (.inl v1), some (.inl (s.1)), some (.inl (s.2.1)), some (.inl (s.2.2.1)), some (.inl (s.2.2.2)), none] [] Q
def x_X5_fairPurse_L15 (Γ : AwC) (sh : AwS) (M : AwM) (v0 : Int) (v1 : Int) (Q : State → Prop) : ((Int) ⊕ (Int)) → Prop := (Sum.elim (fun (t : Int) => AW Γ sh M 0 0 62 [none, none, some (.inl (t)), none, none, none, none] [] Q) (fun (t : Int) => AW Γ sh M 0 0 33 [none, none, some (.inl (t)), none, none, none, none] [] Q))
def fX5_fairPurse (sh : AwS) (M : AwM) (v0 : Int) (v1 : Int) : Option Int :=
  gd_ (kd_ sh v0 = (0, 5)) (pb (fX5_difference sh M v0 0 v1) <| u1 fun (x3 : Int) => (pb (lp (u4 (fX5_fairPurse_L15 sh M v0 v1)) FU (0, 0, x3, 0)) (Sum.elim (u1 (fun (tq10 : Int) => some tq10)) (u1 (fun (tq10 : Int) => some tq10)))))
set_option maxRecDepth 100000 in
set_option maxHeartbeats 4000000 in
theorem w_X5_fairPurse_L15 {Γ : AwC} (hC : AOK Γ RX5 cX5_fairPurse 7 4 0 0 "fairPurse" (some .int)) {sh : AwS} {M : AwM} {v0 : Int} {v1 : Int} {Q : State → Prop} : ∀ s r, u4 (fX5_fairPurse_L15 sh M v0 v1) s = some r → (∀ s', r = .inl s' → p_X5_fairPurse_L15 Γ sh M v0 v1 Q s') → (∀ t, r = .inr t → x_X5_fairPurse_L15 Γ sh M v0 v1 Q t) → p_X5_fairPurse_L15 Γ sh M v0 v1 Q s := by
  intro s r h hL hX
  obtain ⟨v2, v3, v4, v5⟩ := s
  replace h := u4_s h
  unfold fX5_fairPurse_L15 at h
  show AW Γ sh M 0 0 15 [some (.inr (.inr v0)), some (.inl v1), some (.inl v2), some (.inl v3), some (.inl v4), some (.inl v5), none] [] Q
  refine aw_iload (pc' := 17) hC dX5_fairPurse_15 rfl rfl ?_
  refine aw_sipush (pc' := 20) hC dX5_fairPurse_17 rfl (by decide) ?_
  refine aw_icmp_ge (tgt := 62) (pc' := 23) hC dX5_fairPurse_20 (by decide) rfl (fun c4 => ?_) (fun c4 => ?_)
  · replace h := it_n c4 h
    refine aw_sub hC [none, none, some (.inl v2), none, none, none, none] ⟨rfl, trivial⟩ (Nat.le_of_ble_eq_true rfl) ?_
    cases h
    exact hX _ rfl
  · replace h := it_p c4 h
    refine aw_iload_n (pc' := 24) (i := 3) hC dX5_fairPurse_23 rfl rfl rfl ?_
    refine aw_iload_n (pc' := 25) (i := 1) hC dX5_fairPurse_24 rfl rfl rfl ?_
    refine aw_isub (pc' := 26) hC dX5_fairPurse_25 rfl  ?_
    refine aw_iload_n (pc' := 27) (i := 1) hC dX5_fairPurse_26 rfl rfl rfl ?_
    refine aw_iand (pc' := 28) hC dX5_fairPurse_27 rfl  ?_
    refine aw_istore_n (pc' := 29) (i := 3) (ls' := [some (.inr (.inr v0)), some (.inl v1), some (.inl v2), some (.inl (an_ (w32 (v3 - v1)) v1)), some (.inl v4), some (.inl v5), none]) hC dX5_fairPurse_28 rfl rfl (Nat.le_of_ble_eq_true rfl) rfl rfl ?_
    refine aw_iload_n (pc' := 30) (i := 3) hC dX5_fairPurse_29 rfl rfl rfl ?_
    refine aw_if_ne (tgt := 35) (pc' := 33) hC dX5_fairPurse_30 (by decide) rfl (fun c5 => ?_) (fun c5 => ?_)
    · replace h := it_n c5 h
      refine aw_aload_n (pc' := 36) (i := 0) hC dX5_fairPurse_35 rfl rfl rfl ?_
      refine aw_iload_n (pc' := 37) (i := 3) hC dX5_fairPurse_36 rfl rfl rfl ?_
      refine aw_iload_n (pc' := 38) (i := 1) hC dX5_fairPurse_37 rfl rfl rfl ?_
      obtain ⟨g7, h⟩ := gd_s h
      obtain ⟨x8, q6, h⟩ := pb_s h
      replace h := u1_s h
      refine aw_cV (pc' := 41) (k2 := 0) (n2 := 0) (st := []) (stN := [.inl x8]) hC [.inl (an_ (w32 (v3 - v1)) v1), .inl v1] (mX5_difference q6) lk_X5_86 g7 dX5_fairPurse_38 rfl rfl (Nat.le_of_ble_eq_true rfl) (Nat.le_of_ble_eq_true rfl) (Nat.le_of_ble_eq_true rfl) rfl (Nat.le_of_ble_eq_true rfl) rfl rfl rfl ?_
      refine aw_istore (pc' := 43) (ls' := [some (.inr (.inr v0)), some (.inl v1), some (.inl v2), some (.inl (an_ (w32 (v3 - v1)) v1)), some (.inl v4), some (.inl v5), some (.inl x8)]) hC dX5_fairPurse_41 rfl (Nat.le_of_ble_eq_true rfl) rfl rfl ?_
      refine aw_iload (pc' := 45) hC dX5_fairPurse_43 rfl rfl ?_
      refine aw_iload (pc' := 47) hC dX5_fairPurse_45 rfl rfl ?_
      refine aw_icmp_ge (tgt := 56) (pc' := 50) hC dX5_fairPurse_47 (by decide) rfl (fun c9 => ?_) (fun c9 => ?_)
      · replace h := it_n c9 h
        refine aw_iinc (pc' := 59) (ls' := [some (.inr (.inr v0)), some (.inl v1), some (.inl v2), some (.inl (an_ (w32 (v3 - v1)) v1)), some (.inl v4), some (.inl (w32 (v5 + 1))), some (.inl x8)]) hC dX5_fairPurse_56 rfl rfl rfl rfl ?_
        refine aw_goto (tgt := 15) hC dX5_fairPurse_59 (by decide) ?_
        refine aw_sub hC [some (.inr (.inr v0)), some (.inl v1), some (.inl v2), some (.inl (an_ (w32 (v3 - v1)) v1)), some (.inl v4), some (.inl (w32 (v5 + 1))), none] ⟨rfl, ⟨rfl, ⟨rfl, ⟨rfl, ⟨rfl, ⟨rfl, trivial⟩⟩⟩⟩⟩⟩ (Nat.le_of_ble_eq_true rfl) ?_
        cases h
        exact hL _ rfl
      · replace h := it_p c9 h
        refine aw_iload (pc' := 52) hC dX5_fairPurse_50 rfl rfl ?_
        refine aw_istore (pc' := 54) (ls' := [some (.inr (.inr v0)), some (.inl v1), some (.inl v2), some (.inl (an_ (w32 (v3 - v1)) v1)), some (.inl x8), some (.inl v5), some (.inl x8)]) hC dX5_fairPurse_52 rfl (Nat.le_of_ble_eq_true rfl) rfl rfl ?_
        refine aw_iload_n (pc' := 55) (i := 3) hC dX5_fairPurse_54 rfl rfl rfl ?_
        refine aw_istore_n (pc' := 56) (i := 2) (ls' := [some (.inr (.inr v0)), some (.inl v1), some (.inl (an_ (w32 (v3 - v1)) v1)), some (.inl (an_ (w32 (v3 - v1)) v1)), some (.inl x8), some (.inl v5), some (.inl x8)]) hC dX5_fairPurse_55 rfl rfl (Nat.le_of_ble_eq_true rfl) rfl rfl ?_
        refine aw_iinc (pc' := 59) (ls' := [some (.inr (.inr v0)), some (.inl v1), some (.inl (an_ (w32 (v3 - v1)) v1)), some (.inl (an_ (w32 (v3 - v1)) v1)), some (.inl x8), some (.inl (w32 (v5 + 1))), some (.inl x8)]) hC dX5_fairPurse_56 rfl rfl rfl rfl ?_
        refine aw_goto (tgt := 15) hC dX5_fairPurse_59 (by decide) ?_
        refine aw_sub hC [some (.inr (.inr v0)), some (.inl v1), some (.inl (an_ (w32 (v3 - v1)) v1)), some (.inl (an_ (w32 (v3 - v1)) v1)), some (.inl x8), some (.inl (w32 (v5 + 1))), none] ⟨rfl, ⟨rfl, ⟨rfl, ⟨rfl, ⟨rfl, ⟨rfl, trivial⟩⟩⟩⟩⟩⟩ (Nat.le_of_ble_eq_true rfl) ?_
        cases h
        exact hL _ rfl
    · replace h := it_p c5 h
      refine aw_sub hC [none, none, some (.inl v2), none, none, none, none] ⟨rfl, trivial⟩ (Nat.le_of_ble_eq_true rfl) ?_
      cases h
      exact hX _ rfl
set_option maxRecDepth 100000 in
set_option maxHeartbeats 4000000 in
theorem mX5_fairPurse {sh : AwS} {M : AwM} {v0 : Int} {v1 : Int} {r : Int} (h : fX5_fairPurse sh M v0 v1 = some r) : AMet yX5_fairPurse cX5_fairPurse 7 (some .int) 4 0 0 [.inr (.inr v0), .inl v1] sh M (some (.inl r)) sh M := by
  refine amet_of (by decide +kernel) (Nat.le_of_ble_eq_true rfl) (fun Γ hC => ?_)
  replace hC : AOK Γ RX5 cX5_fairPurse 7 4 0 0 "fairPurse" (some .int) := hC
  unfold fX5_fairPurse at h
  refine aw_sub hC [some (.inr (.inr v0)), some (.inl v1), none, none, none, none, none] ⟨rfl, ⟨rfl, trivial⟩⟩ (Nat.le_of_ble_eq_true rfl) ?_
  refine aw_iconst (pc' := 1) hC dX5_fairPurse_0 rfl (by decide) ?_
  refine aw_istore_n (pc' := 2) (i := 2) (ls' := [some (.inr (.inr v0)), some (.inl v1), some (.inl 0), none, none, none, none]) hC dX5_fairPurse_1 rfl rfl (Nat.le_of_ble_eq_true rfl) rfl rfl ?_
  refine aw_iconst (pc' := 3) hC dX5_fairPurse_2 rfl (by decide) ?_
  refine aw_istore_n (pc' := 4) (i := 3) (ls' := [some (.inr (.inr v0)), some (.inl v1), some (.inl 0), some (.inl 0), none, none, none]) hC dX5_fairPurse_3 rfl rfl (Nat.le_of_ble_eq_true rfl) rfl rfl ?_
  refine aw_aload_n (pc' := 5) (i := 0) hC dX5_fairPurse_4 rfl rfl rfl ?_
  refine aw_iconst (pc' := 6) hC dX5_fairPurse_5 rfl (by decide) ?_
  refine aw_iload_n (pc' := 7) (i := 1) hC dX5_fairPurse_6 rfl rfl rfl ?_
  obtain ⟨g2, h⟩ := gd_s h
  obtain ⟨x3, q1, h⟩ := pb_s h
  replace h := u1_s h
  refine aw_cV (pc' := 10) (k2 := 0) (n2 := 0) (st := []) (stN := [.inl x3]) hC [.inl 0, .inl v1] (mX5_difference q1) lk_X5_86 g2 dX5_fairPurse_7 rfl rfl (Nat.le_of_ble_eq_true rfl) (Nat.le_of_ble_eq_true rfl) (Nat.le_of_ble_eq_true rfl) rfl (Nat.le_of_ble_eq_true rfl) rfl rfl rfl ?_
  refine aw_istore (pc' := 12) (ls' := [some (.inr (.inr v0)), some (.inl v1), some (.inl 0), some (.inl 0), some (.inl x3), none, none]) hC dX5_fairPurse_10 rfl (Nat.le_of_ble_eq_true rfl) rfl rfl ?_
  refine aw_iconst (pc' := 13) hC dX5_fairPurse_12 rfl (by decide) ?_
  refine aw_istore (pc' := 15) (ls' := [some (.inr (.inr v0)), some (.inl v1), some (.inl 0), some (.inl 0), some (.inl x3), some (.inl 0), none]) hC dX5_fairPurse_13 rfl (Nat.le_of_ble_eq_true rfl) rfl rfl ?_
  obtain ⟨tq10, q10, h⟩ := pb_s h
  refine aw_sub hC [some (.inr (.inr v0)), some (.inl v1), some (.inl 0), some (.inl 0), some (.inl x3), some (.inl 0), none] ⟨rfl, ⟨rfl, ⟨rfl, ⟨rfl, ⟨rfl, ⟨rfl, trivial⟩⟩⟩⟩⟩⟩ (Nat.le_of_ble_eq_true rfl) ?_
  refine (lp_aw (p_X5_fairPurse_L15 Γ sh M v0 v1 (fin_ Γ 0 0 (some (.inl r)) sh M)) (x_X5_fairPurse_L15 Γ sh M v0 v1 (fin_ Γ 0 0 (some (.inl r)) sh M)) (w_X5_fairPurse_L15 hC ) FU _ _ q10 ?_ : p_X5_fairPurse_L15 Γ sh M v0 v1 (fin_ Γ 0 0 (some (.inl r)) sh M) (0, 0, x3, 0))
  rcases tq10 with tq10 | tq10
  · replace h := se_l h
    replace h := u1_s h
    show AW Γ sh M 0 0 62 [none, none, some (.inl tq10), none, none, none, none] [] _
    refine aw_iload_n (pc' := 63) (i := 2) hC dX5_fairPurse_62 rfl rfl rfl ?_
    cases h
    exact aw_iret hC dX5_fairPurse_63 (Nat.le_of_ble_eq_true rfl) (Nat.le_of_ble_eq_true rfl)
  · replace h := se_r h
    replace h := u1_s h
    show AW Γ sh M 0 0 33 [none, none, some (.inl tq10), none, none, none, none] [] _
    refine aw_iload_n (pc' := 34) (i := 2) hC dX5_fairPurse_33 rfl rfl rfl ?_
    cases h
    exact aw_iret hC dX5_fairPurse_34 (Nat.le_of_ble_eq_true rfl) (Nat.le_of_ble_eq_true rfl)
-- CoinCircle.fair(II)I
def fX8_fair (sh : AwS) (M : AwM) (v0 : Int) (v1 : Int) (v2 : Int) : Option Int :=
  gd_ (kd_ sh v0 = (0, 8)) (gd_ (kd_ sh (M v0 3) = (0, 5)) (pb (fX5_isThere sh M (M v0 3) 0 v1) <| u1 fun (x4 : Int) => ((if x4 = 0 then some (-1) else gd_ (kd_ sh (M v0 4) = (0, 0)) (pb (fX0_heldBy sh M (M v0 4) v1) <| u1 fun (x8 : Int) => (pb (fX5_fairPurse sh M (M v0 3) x8) <| u1 fun (x10 : Int) => ((if v2 = 0 then some x10 else (if v2 = 1 then pb (fX5_difference sh M (M v0 3) x10 x8) <| u1 fun (x14 : Int) => (some x14) else some (-1))))))))))
set_option maxRecDepth 100000 in
set_option maxHeartbeats 4000000 in
theorem mX8_fair {sh : AwS} {M : AwM} {v0 : Int} {v1 : Int} {v2 : Int} {r : Int} (h : fX8_fair sh M v0 v1 v2 = some r) : AMet yX8_fair cX8_fair 5 (some .int) 5 0 0 [.inr (.inr v0), .inl v1, .inl v2] sh M (some (.inl r)) sh M := by
  refine amet_of (by decide +kernel) (Nat.le_of_ble_eq_true rfl) (fun Γ hC => ?_)
  replace hC : AOK Γ RX8 cX8_fair 5 5 0 0 "fair" (some .int) := hC
  unfold fX8_fair at h
  refine aw_sub hC [some (.inr (.inr v0)), some (.inl v1), some (.inl v2), none, none] ⟨rfl, ⟨rfl, ⟨rfl, trivial⟩⟩⟩ (Nat.le_of_ble_eq_true rfl) ?_
  refine aw_aload_n (pc' := 1) (i := 0) hC dX8_fair_0 rfl rfl rfl ?_
  obtain ⟨g1, h⟩ := gd_s h
  refine aw_getfield (pc' := 4) (v := (.inr (.inr (M v0 3)))) hC dX8_fair_1 rfl fl_X8_51 g1 rfl ?_
  refine aw_iconst (pc' := 5) hC dX8_fair_4 rfl (by decide) ?_
  refine aw_iload_n (pc' := 6) (i := 1) hC dX8_fair_5 rfl rfl rfl ?_
  obtain ⟨g3, h⟩ := gd_s h
  obtain ⟨x4, q2, h⟩ := pb_s h
  replace h := u1_s h
  refine aw_cV (pc' := 9) (k2 := 0) (n2 := 0) (st := []) (stN := [.inl x4]) hC [.inl 0, .inl v1] (mX5_isThere q2) lk_X8_135 g3 dX8_fair_6 rfl rfl (Nat.le_of_ble_eq_true rfl) (Nat.le_of_ble_eq_true rfl) (Nat.le_of_ble_eq_true rfl) rfl (Nat.le_of_ble_eq_true rfl) rfl rfl rfl ?_
  refine aw_if_ne (tgt := 14) (pc' := 12) hC dX8_fair_9 (by decide) rfl (fun c5 => ?_) (fun c5 => ?_)
  · replace h := it_n c5 h
    refine aw_aload_n (pc' := 15) (i := 0) hC dX8_fair_14 rfl rfl rfl ?_
    refine aw_getfield (pc' := 18) (v := (.inr (.inr (M v0 4)))) hC dX8_fair_15 rfl fl_X8_60 g1 rfl ?_
    refine aw_iload_n (pc' := 19) (i := 1) hC dX8_fair_18 rfl rfl rfl ?_
    obtain ⟨g7, h⟩ := gd_s h
    obtain ⟨x8, q6, h⟩ := pb_s h
    replace h := u1_s h
    refine aw_cV (pc' := 22) (k2 := 0) (n2 := 0) (st := []) (stN := [.inl x8]) hC [.inl v1] (mX0_heldBy q6) lk_X8_150 g7 dX8_fair_19 rfl rfl (Nat.le_of_ble_eq_true rfl) (Nat.le_of_ble_eq_true rfl) (Nat.le_of_ble_eq_true rfl) rfl (Nat.le_of_ble_eq_true rfl) rfl rfl rfl ?_
    refine aw_istore_n (pc' := 23) (i := 3) (ls' := [some (.inr (.inr v0)), some (.inl v1), some (.inl v2), some (.inl x8), none]) hC dX8_fair_22 rfl rfl (Nat.le_of_ble_eq_true rfl) rfl rfl ?_
    refine aw_aload_n (pc' := 24) (i := 0) hC dX8_fair_23 rfl rfl rfl ?_
    refine aw_getfield (pc' := 27) (v := (.inr (.inr (M v0 3)))) hC dX8_fair_24 rfl fl_X8_51 g1 rfl ?_
    refine aw_iload_n (pc' := 28) (i := 3) hC dX8_fair_27 rfl rfl rfl ?_
    obtain ⟨x10, q9, h⟩ := pb_s h
    replace h := u1_s h
    refine aw_cV (pc' := 31) (k2 := 0) (n2 := 0) (st := []) (stN := [.inl x10]) hC [.inl x8] (mX5_fairPurse q9) lk_X8_277 g3 dX8_fair_28 rfl rfl (Nat.le_of_ble_eq_true rfl) (Nat.le_of_ble_eq_true rfl) (Nat.le_of_ble_eq_true rfl) rfl (Nat.le_of_ble_eq_true rfl) rfl rfl rfl ?_
    refine aw_istore (pc' := 33) (ls' := [some (.inr (.inr v0)), some (.inl v1), some (.inl v2), some (.inl x8), some (.inl x10)]) hC dX8_fair_31 rfl (Nat.le_of_ble_eq_true rfl) rfl rfl ?_
    refine aw_iload_n (pc' := 34) (i := 2) hC dX8_fair_33 rfl rfl rfl ?_
    by_cases c11 : v2 = 0
    · replace h := it_p c11 h
      refine aw_ls (tgt := 60) (off := 26) hC dX8_fair_34 (by decide) (os_p c11) (by decide) ?_
      refine aw_iload (pc' := 62) hC dX8_fair_60 rfl rfl ?_
      cases h
      exact aw_iret hC dX8_fair_62 (Nat.le_of_ble_eq_true rfl) (Nat.le_of_ble_eq_true rfl)
    · replace h := it_n c11 h
      by_cases c12 : v2 = 1
      · replace h := it_p c12 h
        refine aw_ls (tgt := 63) (off := 29) hC dX8_fair_34 (by decide) ((os_n c11).trans (os_p c12)) (by decide) ?_
        refine aw_aload_n (pc' := 64) (i := 0) hC dX8_fair_63 rfl rfl rfl ?_
        refine aw_getfield (pc' := 67) (v := (.inr (.inr (M v0 3)))) hC dX8_fair_64 rfl fl_X8_51 g1 rfl ?_
        refine aw_iload (pc' := 69) hC dX8_fair_67 rfl rfl ?_
        refine aw_iload_n (pc' := 70) (i := 3) hC dX8_fair_69 rfl rfl rfl ?_
        obtain ⟨x14, q13, h⟩ := pb_s h
        replace h := u1_s h
        refine aw_cV (pc' := 73) (k2 := 0) (n2 := 0) (st := []) (stN := [.inl x14]) hC [.inl x10, .inl x8] (mX5_difference q13) lk_X8_280 g3 dX8_fair_70 rfl rfl (Nat.le_of_ble_eq_true rfl) (Nat.le_of_ble_eq_true rfl) (Nat.le_of_ble_eq_true rfl) rfl (Nat.le_of_ble_eq_true rfl) rfl rfl rfl ?_
        cases h
        exact aw_iret hC dX8_fair_73 (Nat.le_of_ble_eq_true rfl) (Nat.le_of_ble_eq_true rfl)
      · replace h := it_n c12 h
        refine aw_ls (tgt := 74) (off := 40) hC dX8_fair_34 (by decide) ((os_n c11).trans ((os_n c12).trans rfl)) (by decide) ?_
        refine aw_iconst (pc' := 75) hC dX8_fair_74 rfl (by decide) ?_
        cases h
        exact aw_iret hC dX8_fair_75 (Nat.le_of_ble_eq_true rfl) (Nat.le_of_ble_eq_true rfl)
  · replace h := it_p c5 h
    refine aw_iconst (pc' := 13) hC dX8_fair_12 rfl (by decide) ?_
    cases h
    exact aw_iret hC dX8_fair_13 (Nat.le_of_ble_eq_true rfl) (Nat.le_of_ble_eq_true rfl)
-- CoinCircle.later(II)I
def fX8_later (sh : AwS) (M : AwM) (v0 : Int) (v1 : Int) (v2 : Int) : Option (Int × AwM) :=
  gd_ (kd_ sh v0 = (0, 8)) (gd_ (kd_ sh (M v0 3) = (0, 5)) (pb (fX5_isThere sh M (M v0 3) 1 v1) <| u1 fun (x4 : Int) => ((if x4 = 0 then some ((-1), M) else (if v2 < 0 then some ((-1), M) else (if 60 < v2 then some ((-1), M) else gd_ (kd_ sh (M v0 4) = (0, 0)) (gd_ (kd_ sh (M (M v0 4) 0) = (0, 3)) ((if 999 < (w32 ((M (M (M v0 4) 0) 0) + v2)) then some ((-1), M) else gd_ (kd_ sh (M v0 5) = (0, 0)) (gd_ (kd_ sh (M (M v0 5) 0) = (0, 3)) (pb (fX3_copyFrom sh M (M (M v0 5) 0) (M (M v0 4) 0)) <| u1 fun (M14 : AwM) => (gd_ (kd_ sh (M14 v0 5) = (0, 0)) (pb (fX0_passDays sh M14 (M14 v0 5) v2) <| u2 fun (x17 : Int) (M18 : AwM) => (gd_ (kd_ sh (M18 v0 5) = (0, 0)) (gd_ (kd_ sh (M18 (M18 v0 5) 0) = (0, 3)) (gd_ ((kd_ sh (M18 (M18 (M18 v0 5) 0) 2)).1 = 1 ∧ (0 : Int) ≤ v1 ∧ v1 < ((kd_ sh (M18 (M18 (M18 v0 5) 0) 2)).2 : Int)) (some ((M18 (M18 (M18 (M18 v0 5) 0) 2) v1), M18))))))))))))))))))
set_option maxRecDepth 100000 in
set_option maxHeartbeats 4000000 in
theorem mX8_later {sh : AwS} {M : AwM} {v0 : Int} {v1 : Int} {v2 : Int} {r : Int} {M' : AwM} (h : fX8_later sh M v0 v1 v2 = some (r, M')) : AMet yX8_later cX8_later 3 (some .int) 5 0 0 [.inr (.inr v0), .inl v1, .inl v2] sh M (some (.inl r)) sh M' := by
  refine amet_of (by decide +kernel) (Nat.le_of_ble_eq_true rfl) (fun Γ hC => ?_)
  replace hC : AOK Γ RX8 cX8_later 3 5 0 0 "later" (some .int) := hC
  unfold fX8_later at h
  refine aw_sub hC [some (.inr (.inr v0)), some (.inl v1), some (.inl v2)] ⟨rfl, ⟨rfl, ⟨rfl, trivial⟩⟩⟩ (Nat.le_of_ble_eq_true rfl) ?_
  refine aw_aload_n (pc' := 1) (i := 0) hC dX8_later_0 rfl rfl rfl ?_
  obtain ⟨g1, h⟩ := gd_s h
  refine aw_getfield (pc' := 4) (v := (.inr (.inr (M v0 3)))) hC dX8_later_1 rfl fl_X8_51 g1 rfl ?_
  refine aw_iconst (pc' := 5) hC dX8_later_4 rfl (by decide) ?_
  refine aw_iload_n (pc' := 6) (i := 1) hC dX8_later_5 rfl rfl rfl ?_
  obtain ⟨g3, h⟩ := gd_s h
  obtain ⟨x4, q2, h⟩ := pb_s h
  replace h := u1_s h
  refine aw_cV (pc' := 9) (k2 := 0) (n2 := 0) (st := []) (stN := [.inl x4]) hC [.inl 1, .inl v1] (mX5_isThere q2) lk_X8_135 g3 dX8_later_6 rfl rfl (Nat.le_of_ble_eq_true rfl) (Nat.le_of_ble_eq_true rfl) (Nat.le_of_ble_eq_true rfl) rfl (Nat.le_of_ble_eq_true rfl) rfl rfl rfl ?_
  refine aw_if_eq (tgt := 40) (pc' := 12) hC dX8_later_9 (by decide) rfl (fun c5 => ?_) (fun c5 => ?_)
  · replace h := it_p c5 h
    refine aw_iconst (pc' := 41) hC dX8_later_40 rfl (by decide) ?_
    cases h
    exact aw_iret hC dX8_later_41 (Nat.le_of_ble_eq_true rfl) (Nat.le_of_ble_eq_true rfl)
  · replace h := it_n c5 h
    refine aw_iload_n (pc' := 13) (i := 2) hC dX8_later_12 rfl rfl rfl ?_
    refine aw_if_lt (tgt := 40) (pc' := 16) hC dX8_later_13 (by decide) rfl (fun c6 => ?_) (fun c6 => ?_)
    · replace h := it_p c6 h
      refine aw_iconst (pc' := 41) hC dX8_later_40 rfl (by decide) ?_
      cases h
      exact aw_iret hC dX8_later_41 (Nat.le_of_ble_eq_true rfl) (Nat.le_of_ble_eq_true rfl)
    · replace h := it_n c6 h
      refine aw_iload_n (pc' := 17) (i := 2) hC dX8_later_16 rfl rfl rfl ?_
      refine aw_bipush (pc' := 19) hC dX8_later_17 rfl (by decide) ?_
      refine aw_icmp_gt (tgt := 40) (pc' := 22) hC dX8_later_19 (by decide) rfl (fun c7 => ?_) (fun c7 => ?_)
      · replace h := it_p c7 h
        refine aw_iconst (pc' := 41) hC dX8_later_40 rfl (by decide) ?_
        cases h
        exact aw_iret hC dX8_later_41 (Nat.le_of_ble_eq_true rfl) (Nat.le_of_ble_eq_true rfl)
      · replace h := it_n c7 h
        refine aw_aload_n (pc' := 23) (i := 0) hC dX8_later_22 rfl rfl rfl ?_
        refine aw_getfield (pc' := 26) (v := (.inr (.inr (M v0 4)))) hC dX8_later_23 rfl fl_X8_60 g1 rfl ?_
        obtain ⟨g8, h⟩ := gd_s h
        refine aw_getfield (pc' := 29) (v := (.inr (.inr (M (M v0 4) 0)))) hC dX8_later_26 rfl fl_X8_110 g8 rfl ?_
        obtain ⟨g9, h⟩ := gd_s h
        refine aw_getfield (pc' := 32) (v := (.inl (M (M (M v0 4) 0) 0))) hC dX8_later_29 rfl fl_X8_114 g9 rfl ?_
        refine aw_iload_n (pc' := 33) (i := 2) hC dX8_later_32 rfl rfl rfl ?_
        refine aw_iadd (pc' := 34) hC dX8_later_33 rfl  ?_
        refine aw_sipush (pc' := 37) hC dX8_later_34 rfl (by decide) ?_
        refine aw_icmp_le (tgt := 42) (pc' := 40) hC dX8_later_37 (by decide) rfl (fun c10 => ?_) (fun c10 => ?_)
        · replace h := it_n c10 h
          refine aw_aload_n (pc' := 43) (i := 0) hC dX8_later_42 rfl rfl rfl ?_
          refine aw_getfield (pc' := 46) (v := (.inr (.inr (M v0 5)))) hC dX8_later_43 rfl fl_X8_64 g1 rfl ?_
          obtain ⟨g11, h⟩ := gd_s h
          refine aw_getfield (pc' := 49) (v := (.inr (.inr (M (M v0 5) 0)))) hC dX8_later_46 rfl fl_X8_110 g11 rfl ?_
          refine aw_aload_n (pc' := 50) (i := 0) hC dX8_later_49 rfl rfl rfl ?_
          refine aw_getfield (pc' := 53) (v := (.inr (.inr (M v0 4)))) hC dX8_later_50 rfl fl_X8_60 g1 rfl ?_
          refine aw_getfield (pc' := 56) (v := (.inr (.inr (M (M v0 4) 0)))) hC dX8_later_53 rfl fl_X8_110 g8 rfl ?_
          obtain ⟨g13, h⟩ := gd_s h
          obtain ⟨M14, q12, h⟩ := pb_s h
          replace h := u1_s h
          refine aw_cV (pc' := 59) (k2 := 0) (n2 := 0) (st := []) (stN := []) hC [.inr (.inr (M (M v0 4) 0))] (mX3_copyFrom q12) lk_X8_265 g13 dX8_later_56 rfl rfl (Nat.le_of_ble_eq_true rfl) (Nat.le_of_ble_eq_true rfl) (Nat.le_of_ble_eq_true rfl) rfl (Nat.le_of_ble_eq_true rfl) rfl rfl rfl ?_
          refine aw_aload_n (pc' := 60) (i := 0) hC dX8_later_59 rfl rfl rfl ?_
          refine aw_getfield (pc' := 63) (v := (.inr (.inr (M14 v0 5)))) hC dX8_later_60 rfl fl_X8_64 g1 rfl ?_
          refine aw_iload_n (pc' := 64) (i := 2) hC dX8_later_63 rfl rfl rfl ?_
          obtain ⟨g16, h⟩ := gd_s h
          obtain ⟨⟨x17, M18⟩, q15, h⟩ := pb_s h
          replace h := u2_s h
          refine aw_cV (pc' := 67) (k2 := 0) (n2 := 0) (st := []) (stN := [.inl x17]) hC [.inl v2] (mX0_passDays q15) lk_X8_236 g16 dX8_later_64 rfl rfl (Nat.le_of_ble_eq_true rfl) (Nat.le_of_ble_eq_true rfl) (Nat.le_of_ble_eq_true rfl) rfl (Nat.le_of_ble_eq_true rfl) rfl rfl rfl ?_
          refine aw_pop (pc' := 68) hC dX8_later_67 rfl rfl ?_
          refine aw_aload_n (pc' := 69) (i := 0) hC dX8_later_68 rfl rfl rfl ?_
          refine aw_getfield (pc' := 72) (v := (.inr (.inr (M18 v0 5)))) hC dX8_later_69 rfl fl_X8_64 g1 rfl ?_
          obtain ⟨g19, h⟩ := gd_s h
          refine aw_getfield (pc' := 75) (v := (.inr (.inr (M18 (M18 v0 5) 0)))) hC dX8_later_72 rfl fl_X8_110 g19 rfl ?_
          obtain ⟨g20, h⟩ := gd_s h
          refine aw_getfield (pc' := 78) (v := (.inr (.inr (M18 (M18 (M18 v0 5) 0) 2)))) hC dX8_later_75 rfl fl_X8_172 g20 rfl ?_
          refine aw_iload_n (pc' := 79) (i := 1) hC dX8_later_78 rfl rfl rfl ?_
          obtain ⟨g21, h⟩ := gd_s h
          refine aw_iaload (pc' := 80) hC dX8_later_79 rfl g21 ?_
          cases h
          exact aw_iret hC dX8_later_80 (Nat.le_of_ble_eq_true rfl) (Nat.le_of_ble_eq_true rfl)
        · replace h := it_p c10 h
          refine aw_iconst (pc' := 41) hC dX8_later_40 rfl (by decide) ?_
          cases h
          exact aw_iret hC dX8_later_41 (Nat.le_of_ble_eq_true rfl) (Nat.le_of_ble_eq_true rfl)
-- java/lang/Integer.numberOfTrailingZeros(I)I
def fJ6_numberOfTrailingZeros_0f7a4_J62 (sh : AwS) (M : AwM) (v0 : Int) (v1 : Int) : Option Int :=
  (if 4 < v0 then some (w32 ((w32 (v1 + 2)) + (us_ (us_ v0 2) 1))) else some (w32 (v1 + (us_ v0 1))))
def fJ6_numberOfTrailingZeros_0f7a4_J49 (sh : AwS) (M : AwM) (v0 : Int) (v1 : Int) : Option Int :=
  (if 16 < v0 then fJ6_numberOfTrailingZeros_0f7a4_J62 sh M (us_ v0 4) (w32 (v1 + 4)) else fJ6_numberOfTrailingZeros_0f7a4_J62 sh M v0 v1)
def fJ6_numberOfTrailingZeros_0f7a4_J34 (sh : AwS) (M : AwM) (v0 : Int) (v1 : Int) : Option Int :=
  (if 256 < v0 then fJ6_numberOfTrailingZeros_0f7a4_J49 sh M (us_ v0 8) (w32 (v1 + 8)) else fJ6_numberOfTrailingZeros_0f7a4_J49 sh M v0 v1)
def fJ6_numberOfTrailingZeros_0f7a4 (sh : AwS) (M : AwM) (v0 : Int) : Option Int :=
  (if 0 < (an_ (xo_ v0 (-1)) (w32 (v0 - 1))) then (if 65536 < (an_ (xo_ v0 (-1)) (w32 (v0 - 1))) then fJ6_numberOfTrailingZeros_0f7a4_J34 sh M (us_ (an_ (xo_ v0 (-1)) (w32 (v0 - 1))) 16) (w32 (1 + 16)) else fJ6_numberOfTrailingZeros_0f7a4_J34 sh M (an_ (xo_ v0 (-1)) (w32 (v0 - 1))) 1) else some (an_ (an_ (xo_ v0 (-1)) (w32 (v0 - 1))) 32))
set_option maxRecDepth 100000 in
set_option maxHeartbeats 4000000 in
theorem w_J6_numberOfTrailingZeros_0f7a4_J62 {Γ : AwC} (hC : AOK Γ RJ6 cJ6_numberOfTrailingZeros_0f7a4 2 1 0 0 "numberOfTrailingZeros" (some .int)) {sh : AwS} {M : AwM} {v0 : Int} {v1 : Int} {r : Int} (h : fJ6_numberOfTrailingZeros_0f7a4_J62 sh M v0 v1 = some r) {Q : State → Prop} (hQ : Q = (fin_ Γ 0 0 (some (.inl r)) sh M)) : AW Γ sh M 0 0 62 [some (.inl v0), some (.inl v1)] [] Q := by
  unfold fJ6_numberOfTrailingZeros_0f7a4_J62 at h
  refine aw_iload_n (pc' := 63) (i := 0) hC dJ6_numberOfTrailingZeros_0f7a4_62 rfl rfl rfl ?_
  refine aw_iconst (pc' := 64) hC dJ6_numberOfTrailingZeros_0f7a4_63 rfl (by decide) ?_
  refine aw_icmp_le (tgt := 74) (pc' := 67) hC dJ6_numberOfTrailingZeros_0f7a4_64 (by decide) rfl (fun c5 => ?_) (fun c5 => ?_)
  · replace h := it_n c5 h
    refine aw_iload_n (pc' := 75) (i := 1) hC dJ6_numberOfTrailingZeros_0f7a4_74 rfl rfl rfl ?_
    refine aw_iload_n (pc' := 76) (i := 0) hC dJ6_numberOfTrailingZeros_0f7a4_75 rfl rfl rfl ?_
    refine aw_iconst (pc' := 77) hC dJ6_numberOfTrailingZeros_0f7a4_76 rfl (by decide) ?_
    refine aw_iushr (pc' := 78) hC dJ6_numberOfTrailingZeros_0f7a4_77 rfl  ?_
    refine aw_iadd (pc' := 79) hC dJ6_numberOfTrailingZeros_0f7a4_78 rfl  ?_
    cases h
    subst hQ
    exact aw_iret hC dJ6_numberOfTrailingZeros_0f7a4_79 (Nat.le_of_ble_eq_true rfl) (Nat.le_of_ble_eq_true rfl)
  · replace h := it_p c5 h
    refine aw_iinc (pc' := 70) (ls' := [some (.inl v0), some (.inl (w32 (v1 + 2)))]) hC dJ6_numberOfTrailingZeros_0f7a4_67 rfl rfl rfl rfl ?_
    refine aw_iload_n (pc' := 71) (i := 0) hC dJ6_numberOfTrailingZeros_0f7a4_70 rfl rfl rfl ?_
    refine aw_iconst (pc' := 72) hC dJ6_numberOfTrailingZeros_0f7a4_71 rfl (by decide) ?_
    refine aw_iushr (pc' := 73) hC dJ6_numberOfTrailingZeros_0f7a4_72 rfl  ?_
    refine aw_istore_n (pc' := 74) (i := 0) (ls' := [some (.inl (us_ v0 2)), some (.inl (w32 (v1 + 2)))]) hC dJ6_numberOfTrailingZeros_0f7a4_73 rfl rfl (Nat.le_of_ble_eq_true rfl) rfl rfl ?_
    refine aw_iload_n (pc' := 75) (i := 1) hC dJ6_numberOfTrailingZeros_0f7a4_74 rfl rfl rfl ?_
    refine aw_iload_n (pc' := 76) (i := 0) hC dJ6_numberOfTrailingZeros_0f7a4_75 rfl rfl rfl ?_
    refine aw_iconst (pc' := 77) hC dJ6_numberOfTrailingZeros_0f7a4_76 rfl (by decide) ?_
    refine aw_iushr (pc' := 78) hC dJ6_numberOfTrailingZeros_0f7a4_77 rfl  ?_
    refine aw_iadd (pc' := 79) hC dJ6_numberOfTrailingZeros_0f7a4_78 rfl  ?_
    cases h
    subst hQ
    exact aw_iret hC dJ6_numberOfTrailingZeros_0f7a4_79 (Nat.le_of_ble_eq_true rfl) (Nat.le_of_ble_eq_true rfl)
set_option maxRecDepth 100000 in
set_option maxHeartbeats 4000000 in
theorem w_J6_numberOfTrailingZeros_0f7a4_J49 {Γ : AwC} (hC : AOK Γ RJ6 cJ6_numberOfTrailingZeros_0f7a4 2 1 0 0 "numberOfTrailingZeros" (some .int)) {sh : AwS} {M : AwM} {v0 : Int} {v1 : Int} {r : Int} (h : fJ6_numberOfTrailingZeros_0f7a4_J49 sh M v0 v1 = some r) {Q : State → Prop} (hQ : Q = (fin_ Γ 0 0 (some (.inl r)) sh M)) : AW Γ sh M 0 0 49 [some (.inl v0), some (.inl v1)] [] Q := by
  unfold fJ6_numberOfTrailingZeros_0f7a4_J49 at h
  refine aw_iload_n (pc' := 50) (i := 0) hC dJ6_numberOfTrailingZeros_0f7a4_49 rfl rfl rfl ?_
  refine aw_bipush (pc' := 52) hC dJ6_numberOfTrailingZeros_0f7a4_50 rfl (by decide) ?_
  refine aw_icmp_le (tgt := 62) (pc' := 55) hC dJ6_numberOfTrailingZeros_0f7a4_52 (by decide) rfl (fun c4 => ?_) (fun c4 => ?_)
  · replace h := it_n c4 h
    refine aw_sub hC [some (.inl v0), some (.inl v1)] ⟨rfl, ⟨rfl, trivial⟩⟩ (Nat.le_of_ble_eq_true rfl) ?_
    exact w_J6_numberOfTrailingZeros_0f7a4_J62 hC h hQ
  · replace h := it_p c4 h
    refine aw_iinc (pc' := 58) (ls' := [some (.inl v0), some (.inl (w32 (v1 + 4)))]) hC dJ6_numberOfTrailingZeros_0f7a4_55 rfl rfl rfl rfl ?_
    refine aw_iload_n (pc' := 59) (i := 0) hC dJ6_numberOfTrailingZeros_0f7a4_58 rfl rfl rfl ?_
    refine aw_iconst (pc' := 60) hC dJ6_numberOfTrailingZeros_0f7a4_59 rfl (by decide) ?_
    refine aw_iushr (pc' := 61) hC dJ6_numberOfTrailingZeros_0f7a4_60 rfl  ?_
    refine aw_istore_n (pc' := 62) (i := 0) (ls' := [some (.inl (us_ v0 4)), some (.inl (w32 (v1 + 4)))]) hC dJ6_numberOfTrailingZeros_0f7a4_61 rfl rfl (Nat.le_of_ble_eq_true rfl) rfl rfl ?_
    refine aw_sub hC [some (.inl (us_ v0 4)), some (.inl (w32 (v1 + 4)))] ⟨rfl, ⟨rfl, trivial⟩⟩ (Nat.le_of_ble_eq_true rfl) ?_
    exact w_J6_numberOfTrailingZeros_0f7a4_J62 hC h hQ
set_option maxRecDepth 100000 in
set_option maxHeartbeats 4000000 in
theorem w_J6_numberOfTrailingZeros_0f7a4_J34 {Γ : AwC} (hC : AOK Γ RJ6 cJ6_numberOfTrailingZeros_0f7a4 2 1 0 0 "numberOfTrailingZeros" (some .int)) {sh : AwS} {M : AwM} {v0 : Int} {v1 : Int} {r : Int} (h : fJ6_numberOfTrailingZeros_0f7a4_J34 sh M v0 v1 = some r) {Q : State → Prop} (hQ : Q = (fin_ Γ 0 0 (some (.inl r)) sh M)) : AW Γ sh M 0 0 34 [some (.inl v0), some (.inl v1)] [] Q := by
  unfold fJ6_numberOfTrailingZeros_0f7a4_J34 at h
  refine aw_iload_n (pc' := 35) (i := 0) hC dJ6_numberOfTrailingZeros_0f7a4_34 rfl rfl rfl ?_
  refine aw_sipush (pc' := 38) hC dJ6_numberOfTrailingZeros_0f7a4_35 rfl (by decide) ?_
  refine aw_icmp_le (tgt := 49) (pc' := 41) hC dJ6_numberOfTrailingZeros_0f7a4_38 (by decide) rfl (fun c3 => ?_) (fun c3 => ?_)
  · replace h := it_n c3 h
    refine aw_sub hC [some (.inl v0), some (.inl v1)] ⟨rfl, ⟨rfl, trivial⟩⟩ (Nat.le_of_ble_eq_true rfl) ?_
    exact w_J6_numberOfTrailingZeros_0f7a4_J49 hC h hQ
  · replace h := it_p c3 h
    refine aw_iinc (pc' := 44) (ls' := [some (.inl v0), some (.inl (w32 (v1 + 8)))]) hC dJ6_numberOfTrailingZeros_0f7a4_41 rfl rfl rfl rfl ?_
    refine aw_iload_n (pc' := 45) (i := 0) hC dJ6_numberOfTrailingZeros_0f7a4_44 rfl rfl rfl ?_
    refine aw_bipush (pc' := 47) hC dJ6_numberOfTrailingZeros_0f7a4_45 rfl (by decide) ?_
    refine aw_iushr (pc' := 48) hC dJ6_numberOfTrailingZeros_0f7a4_47 rfl  ?_
    refine aw_istore_n (pc' := 49) (i := 0) (ls' := [some (.inl (us_ v0 8)), some (.inl (w32 (v1 + 8)))]) hC dJ6_numberOfTrailingZeros_0f7a4_48 rfl rfl (Nat.le_of_ble_eq_true rfl) rfl rfl ?_
    refine aw_sub hC [some (.inl (us_ v0 8)), some (.inl (w32 (v1 + 8)))] ⟨rfl, ⟨rfl, trivial⟩⟩ (Nat.le_of_ble_eq_true rfl) ?_
    exact w_J6_numberOfTrailingZeros_0f7a4_J49 hC h hQ
set_option maxRecDepth 100000 in
set_option maxHeartbeats 4000000 in
theorem mJ6_numberOfTrailingZeros_0f7a4 {sh : AwS} {M : AwM} {v0 : Int} {r : Int} (h : fJ6_numberOfTrailingZeros_0f7a4 sh M v0 = some r) : AMet yJ6_numberOfTrailingZeros_0f7a4 cJ6_numberOfTrailingZeros_0f7a4 2 (some .int) 1 0 0 [.inl v0] sh M (some (.inl r)) sh M := by
  refine amet_of (by decide +kernel) (Nat.le_of_ble_eq_true rfl) (fun Γ hC => ?_)
  replace hC : AOK Γ RJ6 cJ6_numberOfTrailingZeros_0f7a4 2 1 0 0 "numberOfTrailingZeros" (some .int) := hC
  unfold fJ6_numberOfTrailingZeros_0f7a4 at h
  refine aw_sub hC [some (.inl v0), none] ⟨rfl, trivial⟩ (Nat.le_of_ble_eq_true rfl) ?_
  refine aw_iload_n (pc' := 1) (i := 0) hC dJ6_numberOfTrailingZeros_0f7a4_0 rfl rfl rfl ?_
  refine aw_iconst (pc' := 2) hC dJ6_numberOfTrailingZeros_0f7a4_1 rfl (by decide) ?_
  refine aw_ixor (pc' := 3) hC dJ6_numberOfTrailingZeros_0f7a4_2 rfl  ?_
  refine aw_iload_n (pc' := 4) (i := 0) hC dJ6_numberOfTrailingZeros_0f7a4_3 rfl rfl rfl ?_
  refine aw_iconst (pc' := 5) hC dJ6_numberOfTrailingZeros_0f7a4_4 rfl (by decide) ?_
  refine aw_isub (pc' := 6) hC dJ6_numberOfTrailingZeros_0f7a4_5 rfl  ?_
  refine aw_iand (pc' := 7) hC dJ6_numberOfTrailingZeros_0f7a4_6 rfl  ?_
  refine aw_istore_n (pc' := 8) (i := 0) (ls' := [some (.inl (an_ (xo_ v0 (-1)) (w32 (v0 - 1)))), none]) hC dJ6_numberOfTrailingZeros_0f7a4_7 rfl rfl (Nat.le_of_ble_eq_true rfl) rfl rfl ?_
  refine aw_iload_n (pc' := 9) (i := 0) hC dJ6_numberOfTrailingZeros_0f7a4_8 rfl rfl rfl ?_
  refine aw_if_gt (tgt := 17) (pc' := 12) hC dJ6_numberOfTrailingZeros_0f7a4_9 (by decide) rfl (fun c1 => ?_) (fun c1 => ?_)
  · replace h := it_p c1 h
    refine aw_iconst (pc' := 18) hC dJ6_numberOfTrailingZeros_0f7a4_17 rfl (by decide) ?_
    refine aw_istore_n (pc' := 19) (i := 1) (ls' := [some (.inl (an_ (xo_ v0 (-1)) (w32 (v0 - 1)))), some (.inl 1)]) hC dJ6_numberOfTrailingZeros_0f7a4_18 rfl rfl (Nat.le_of_ble_eq_true rfl) rfl rfl ?_
    refine aw_iload_n (pc' := 20) (i := 0) hC dJ6_numberOfTrailingZeros_0f7a4_19 rfl rfl rfl ?_
    refine aw_ldcw (pc' := 23) (v := 65536) hC dJ6_numberOfTrailingZeros_0f7a4_20 rfl ck_J6_264 (by unfold I32; omega) ?_
    refine aw_icmp_le (tgt := 34) (pc' := 26) hC dJ6_numberOfTrailingZeros_0f7a4_23 (by decide) rfl (fun c2 => ?_) (fun c2 => ?_)
    · replace h := it_n c2 h
      refine aw_sub hC [some (.inl (an_ (xo_ v0 (-1)) (w32 (v0 - 1)))), some (.inl 1)] ⟨rfl, ⟨rfl, trivial⟩⟩ (Nat.le_of_ble_eq_true rfl) ?_
      exact w_J6_numberOfTrailingZeros_0f7a4_J34 hC h rfl
    · replace h := it_p c2 h
      refine aw_iinc (pc' := 29) (ls' := [some (.inl (an_ (xo_ v0 (-1)) (w32 (v0 - 1)))), some (.inl (w32 (1 + 16)))]) hC dJ6_numberOfTrailingZeros_0f7a4_26 rfl rfl rfl rfl ?_
      refine aw_iload_n (pc' := 30) (i := 0) hC dJ6_numberOfTrailingZeros_0f7a4_29 rfl rfl rfl ?_
      refine aw_bipush (pc' := 32) hC dJ6_numberOfTrailingZeros_0f7a4_30 rfl (by decide) ?_
      refine aw_iushr (pc' := 33) hC dJ6_numberOfTrailingZeros_0f7a4_32 rfl  ?_
      refine aw_istore_n (pc' := 34) (i := 0) (ls' := [some (.inl (us_ (an_ (xo_ v0 (-1)) (w32 (v0 - 1))) 16)), some (.inl (w32 (1 + 16)))]) hC dJ6_numberOfTrailingZeros_0f7a4_33 rfl rfl (Nat.le_of_ble_eq_true rfl) rfl rfl ?_
      refine aw_sub hC [some (.inl (us_ (an_ (xo_ v0 (-1)) (w32 (v0 - 1))) 16)), some (.inl (w32 (1 + 16)))] ⟨rfl, ⟨rfl, trivial⟩⟩ (Nat.le_of_ble_eq_true rfl) ?_
      exact w_J6_numberOfTrailingZeros_0f7a4_J34 hC h rfl
  · replace h := it_n c1 h
    refine aw_iload_n (pc' := 13) (i := 0) hC dJ6_numberOfTrailingZeros_0f7a4_12 rfl rfl rfl ?_
    refine aw_bipush (pc' := 15) hC dJ6_numberOfTrailingZeros_0f7a4_13 rfl (by decide) ?_
    refine aw_iand (pc' := 16) hC dJ6_numberOfTrailingZeros_0f7a4_15 rfl  ?_
    cases h
    exact aw_iret hC dJ6_numberOfTrailingZeros_0f7a4_16 (Nat.le_of_ble_eq_true rfl) (Nat.le_of_ble_eq_true rfl)
-- CoinCircle.useless(I)I
def fX8_useless_L19 (sh : AwS) (v0 : Int) (v1 : Int) (v2 : Int) (M : AwM) : Option ((Int × AwM) ⊕ ((AwM) ⊕ (Int × AwM))) :=
  (if 60 < v2 then some (.inr (.inl M)) else gd_ (kd_ sh v0 = (0, 8)) (gd_ (kd_ sh (M v0 4) = (0, 0)) (gd_ (kd_ sh (M (M v0 4) 0) = (0, 3)) ((if 999 < (w32 ((M (M (M v0 4) 0) 0) + v2)) then some (.inr (.inl M)) else (if 0 < v2 then gd_ (kd_ sh (M v0 5) = (0, 0)) (pb (fX0_passDays sh M (M v0 5) 1) <| u2 fun (x19 : Int) (M20 : AwM) => (gd_ (kd_ sh (M20 v0 5) = (0, 0)) (pb (fX0_uselessPurses sh M20 (M20 v0 5)) <| u1 fun (x23 : Int) => ((if x23 = 0 then some (.inl ((w32 (v2 + 1)), M20)) else some (.inr (.inr (x23, M20)))))))) else gd_ (kd_ sh (M v0 5) = (0, 0)) (pb (fX0_uselessPurses sh M (M v0 5)) <| u1 fun (x15 : Int) => ((if x15 = 0 then some (.inl ((w32 (v2 + 1)), M)) else some (.inr (.inr (x15, M))))))))))))
def p_X8_useless_L19 (Γ : AwC) (sh : AwS) (v0 : Int) (v1 : Int) (Q : State → Prop) (s : Int × AwM) : Prop := AW Γ sh (s.2) 0 0 19 [some (.inr (.inr v0)), some (.inl v1), some (.inl (s.1)), none] [] Q
def x_X8_useless_L19 (Γ : AwC) (sh : AwS) (v0 : Int) (v1 : Int) (Q : State → Prop) : ((AwM) ⊕ (Int × AwM)) → Prop := (Sum.elim (fun (t : AwM) => AW Γ sh (t) 0 0 120 [none, none, none, none] [] Q) (fun (t : Int × AwM) => AW Γ sh (t.2) 0 0 68 [some (.inr (.inr v0)), some (.inl v1), none, some (.inl (t.1))] [] Q))
def fX8_useless (sh : AwS) (M : AwM) (v0 : Int) (v1 : Int) : Option (Int × AwM) :=
  gd_ (kd_ sh v0 = (0, 8)) (gd_ (kd_ sh (M v0 5) = (0, 0)) (gd_ (kd_ sh (M v0 4) = (0, 0)) (gd_ (kd_ sh (M (M v0 5) 0) = (0, 3)) (pb (fX3_copyFrom sh M (M (M v0 5) 0) (M (M v0 4) 0)) <| u1 fun (M6 : AwM) => (pb (lp (u2 (fX8_useless_L19 sh v0 v1)) FU (0, M6)) (Sum.elim (u1 (fun (tq25 : AwM) => some ((-1), tq25))) (u2 (fun (x26 : Int) (M27 : AwM) => (if v1 = 0 then gd_ (kd_ sh (M27 v0 5) = (0, 0)) (gd_ (kd_ sh (M27 (M27 v0 5) 0) = (0, 3)) (some ((M27 (M27 (M27 v0 5) 0) 0), M27))) else (if v1 = 1 then pb (fJ6_numberOfTrailingZeros_0f7a4 sh M27 x26) <| u1 fun (x33 : Int) => (some (x33, M27)) else some ((-1), M27)))))))))))
set_option maxRecDepth 100000 in
set_option maxHeartbeats 4000000 in
theorem w_X8_useless_L19 {Γ : AwC} (hC : AOK Γ RX8 cX8_useless 4 5 0 0 "useless" (some .int)) {sh : AwS} {v0 : Int} {v1 : Int} {Q : State → Prop} : ∀ s r, u2 (fX8_useless_L19 sh v0 v1) s = some r → (∀ s', r = .inl s' → p_X8_useless_L19 Γ sh v0 v1 Q s') → (∀ t, r = .inr t → x_X8_useless_L19 Γ sh v0 v1 Q t) → p_X8_useless_L19 Γ sh v0 v1 Q s := by
  intro s r h hL hX
  obtain ⟨v2, M⟩ := s
  replace h := u2_s h
  unfold fX8_useless_L19 at h
  show AW Γ sh M 0 0 19 [some (.inr (.inr v0)), some (.inl v1), some (.inl v2), none] [] Q
  refine aw_iload_n (pc' := 20) (i := 2) hC dX8_useless_19 rfl rfl rfl ?_
  refine aw_bipush (pc' := 22) hC dX8_useless_20 rfl (by decide) ?_
  refine aw_icmp_gt (tgt := 120) (pc' := 25) hC dX8_useless_22 (by decide) rfl (fun c7 => ?_) (fun c7 => ?_)
  · replace h := it_p c7 h
    refine aw_sub hC [none, none, none, none] trivial (Nat.le_of_ble_eq_true rfl) ?_
    cases h
    exact hX _ rfl
  · replace h := it_n c7 h
    refine aw_aload_n (pc' := 26) (i := 0) hC dX8_useless_25 rfl rfl rfl ?_
    obtain ⟨g8, h⟩ := gd_s h
    refine aw_getfield (pc' := 29) (v := (.inr (.inr (M v0 4)))) hC dX8_useless_26 rfl fl_X8_60 g8 rfl ?_
    obtain ⟨g9, h⟩ := gd_s h
    refine aw_getfield (pc' := 32) (v := (.inr (.inr (M (M v0 4) 0)))) hC dX8_useless_29 rfl fl_X8_110 g9 rfl ?_
    obtain ⟨g10, h⟩ := gd_s h
    refine aw_getfield (pc' := 35) (v := (.inl (M (M (M v0 4) 0) 0))) hC dX8_useless_32 rfl fl_X8_114 g10 rfl ?_
    refine aw_iload_n (pc' := 36) (i := 2) hC dX8_useless_35 rfl rfl rfl ?_
    refine aw_iadd (pc' := 37) hC dX8_useless_36 rfl  ?_
    refine aw_sipush (pc' := 40) hC dX8_useless_37 rfl (by decide) ?_
    refine aw_icmp_gt (tgt := 120) (pc' := 43) hC dX8_useless_40 (by decide) rfl (fun c11 => ?_) (fun c11 => ?_)
    · replace h := it_p c11 h
      refine aw_sub hC [none, none, none, none] trivial (Nat.le_of_ble_eq_true rfl) ?_
      cases h
      exact hX _ rfl
    · replace h := it_n c11 h
      refine aw_iload_n (pc' := 44) (i := 2) hC dX8_useless_43 rfl rfl rfl ?_
      refine aw_if_le (tgt := 56) (pc' := 47) hC dX8_useless_44 (by decide) rfl (fun c12 => ?_) (fun c12 => ?_)
      · replace h := it_n c12 h
        refine aw_aload_n (pc' := 57) (i := 0) hC dX8_useless_56 rfl rfl rfl ?_
        refine aw_getfield (pc' := 60) (v := (.inr (.inr (M v0 5)))) hC dX8_useless_57 rfl fl_X8_64 g8 rfl ?_
        obtain ⟨g14, h⟩ := gd_s h
        obtain ⟨x15, q13, h⟩ := pb_s h
        replace h := u1_s h
        refine aw_cV (pc' := 63) (k2 := 0) (n2 := 0) (st := []) (stN := [.inl x15]) hC [] (mX0_uselessPurses q13) lk_X8_129 g14 dX8_useless_60 rfl rfl (Nat.le_of_ble_eq_true rfl) (Nat.le_of_ble_eq_true rfl) (Nat.le_of_ble_eq_true rfl) rfl (Nat.le_of_ble_eq_true rfl) rfl rfl rfl ?_
        refine aw_istore_n (pc' := 64) (i := 3) (ls' := [some (.inr (.inr v0)), some (.inl v1), some (.inl v2), some (.inl x15)]) hC dX8_useless_63 rfl rfl (Nat.le_of_ble_eq_true rfl) rfl rfl ?_
        refine aw_iload_n (pc' := 65) (i := 3) hC dX8_useless_64 rfl rfl rfl ?_
        refine aw_if_eq (tgt := 114) (pc' := 68) hC dX8_useless_65 (by decide) rfl (fun c16 => ?_) (fun c16 => ?_)
        · replace h := it_p c16 h
          refine aw_iinc (pc' := 117) (ls' := [some (.inr (.inr v0)), some (.inl v1), some (.inl (w32 (v2 + 1))), some (.inl x15)]) hC dX8_useless_114 rfl rfl rfl rfl ?_
          refine aw_goto (tgt := 19) hC dX8_useless_117 (by decide) ?_
          refine aw_sub hC [some (.inr (.inr v0)), some (.inl v1), some (.inl (w32 (v2 + 1))), none] ⟨rfl, ⟨rfl, ⟨rfl, trivial⟩⟩⟩ (Nat.le_of_ble_eq_true rfl) ?_
          cases h
          exact hL _ rfl
        · replace h := it_n c16 h
          refine aw_sub hC [some (.inr (.inr v0)), some (.inl v1), none, some (.inl x15)] ⟨rfl, ⟨rfl, ⟨rfl, trivial⟩⟩⟩ (Nat.le_of_ble_eq_true rfl) ?_
          cases h
          exact hX _ rfl
      · replace h := it_p c12 h
        refine aw_aload_n (pc' := 48) (i := 0) hC dX8_useless_47 rfl rfl rfl ?_
        refine aw_getfield (pc' := 51) (v := (.inr (.inr (M v0 5)))) hC dX8_useless_48 rfl fl_X8_64 g8 rfl ?_
        refine aw_iconst (pc' := 52) hC dX8_useless_51 rfl (by decide) ?_
        obtain ⟨g18, h⟩ := gd_s h
        obtain ⟨⟨x19, M20⟩, q17, h⟩ := pb_s h
        replace h := u2_s h
        refine aw_cV (pc' := 55) (k2 := 0) (n2 := 0) (st := []) (stN := [.inl x19]) hC [.inl 1] (mX0_passDays q17) lk_X8_236 g18 dX8_useless_52 rfl rfl (Nat.le_of_ble_eq_true rfl) (Nat.le_of_ble_eq_true rfl) (Nat.le_of_ble_eq_true rfl) rfl (Nat.le_of_ble_eq_true rfl) rfl rfl rfl ?_
        refine aw_pop (pc' := 56) hC dX8_useless_55 rfl rfl ?_
        refine aw_aload_n (pc' := 57) (i := 0) hC dX8_useless_56 rfl rfl rfl ?_
        refine aw_getfield (pc' := 60) (v := (.inr (.inr (M20 v0 5)))) hC dX8_useless_57 rfl fl_X8_64 g8 rfl ?_
        obtain ⟨g22, h⟩ := gd_s h
        obtain ⟨x23, q21, h⟩ := pb_s h
        replace h := u1_s h
        refine aw_cV (pc' := 63) (k2 := 0) (n2 := 0) (st := []) (stN := [.inl x23]) hC [] (mX0_uselessPurses q21) lk_X8_129 g22 dX8_useless_60 rfl rfl (Nat.le_of_ble_eq_true rfl) (Nat.le_of_ble_eq_true rfl) (Nat.le_of_ble_eq_true rfl) rfl (Nat.le_of_ble_eq_true rfl) rfl rfl rfl ?_
        refine aw_istore_n (pc' := 64) (i := 3) (ls' := [some (.inr (.inr v0)), some (.inl v1), some (.inl v2), some (.inl x23)]) hC dX8_useless_63 rfl rfl (Nat.le_of_ble_eq_true rfl) rfl rfl ?_
        refine aw_iload_n (pc' := 65) (i := 3) hC dX8_useless_64 rfl rfl rfl ?_
        refine aw_if_eq (tgt := 114) (pc' := 68) hC dX8_useless_65 (by decide) rfl (fun c24 => ?_) (fun c24 => ?_)
        · replace h := it_p c24 h
          refine aw_iinc (pc' := 117) (ls' := [some (.inr (.inr v0)), some (.inl v1), some (.inl (w32 (v2 + 1))), some (.inl x23)]) hC dX8_useless_114 rfl rfl rfl rfl ?_
          refine aw_goto (tgt := 19) hC dX8_useless_117 (by decide) ?_
          refine aw_sub hC [some (.inr (.inr v0)), some (.inl v1), some (.inl (w32 (v2 + 1))), none] ⟨rfl, ⟨rfl, ⟨rfl, trivial⟩⟩⟩ (Nat.le_of_ble_eq_true rfl) ?_
          cases h
          exact hL _ rfl
        · replace h := it_n c24 h
          refine aw_sub hC [some (.inr (.inr v0)), some (.inl v1), none, some (.inl x23)] ⟨rfl, ⟨rfl, ⟨rfl, trivial⟩⟩⟩ (Nat.le_of_ble_eq_true rfl) ?_
          cases h
          exact hX _ rfl
set_option maxRecDepth 100000 in
set_option maxHeartbeats 4000000 in
theorem mX8_useless {sh : AwS} {M : AwM} {v0 : Int} {v1 : Int} {r : Int} {M' : AwM} (h : fX8_useless sh M v0 v1 = some (r, M')) : AMet yX8_useless cX8_useless 4 (some .int) 5 0 0 [.inr (.inr v0), .inl v1] sh M (some (.inl r)) sh M' := by
  refine amet_of (by decide +kernel) (Nat.le_of_ble_eq_true rfl) (fun Γ hC => ?_)
  replace hC : AOK Γ RX8 cX8_useless 4 5 0 0 "useless" (some .int) := hC
  unfold fX8_useless at h
  refine aw_sub hC [some (.inr (.inr v0)), some (.inl v1), none, none] ⟨rfl, ⟨rfl, trivial⟩⟩ (Nat.le_of_ble_eq_true rfl) ?_
  refine aw_aload_n (pc' := 1) (i := 0) hC dX8_useless_0 rfl rfl rfl ?_
  obtain ⟨g1, h⟩ := gd_s h
  refine aw_getfield (pc' := 4) (v := (.inr (.inr (M v0 5)))) hC dX8_useless_1 rfl fl_X8_64 g1 rfl ?_
  obtain ⟨g2, h⟩ := gd_s h
  refine aw_getfield (pc' := 7) (v := (.inr (.inr (M (M v0 5) 0)))) hC dX8_useless_4 rfl fl_X8_110 g2 rfl ?_
  refine aw_aload_n (pc' := 8) (i := 0) hC dX8_useless_7 rfl rfl rfl ?_
  refine aw_getfield (pc' := 11) (v := (.inr (.inr (M v0 4)))) hC dX8_useless_8 rfl fl_X8_60 g1 rfl ?_
  obtain ⟨g3, h⟩ := gd_s h
  refine aw_getfield (pc' := 14) (v := (.inr (.inr (M (M v0 4) 0)))) hC dX8_useless_11 rfl fl_X8_110 g3 rfl ?_
  obtain ⟨g5, h⟩ := gd_s h
  obtain ⟨M6, q4, h⟩ := pb_s h
  replace h := u1_s h
  refine aw_cV (pc' := 17) (k2 := 0) (n2 := 0) (st := []) (stN := []) hC [.inr (.inr (M (M v0 4) 0))] (mX3_copyFrom q4) lk_X8_265 g5 dX8_useless_14 rfl rfl (Nat.le_of_ble_eq_true rfl) (Nat.le_of_ble_eq_true rfl) (Nat.le_of_ble_eq_true rfl) rfl (Nat.le_of_ble_eq_true rfl) rfl rfl rfl ?_
  refine aw_iconst (pc' := 18) hC dX8_useless_17 rfl (by decide) ?_
  refine aw_istore_n (pc' := 19) (i := 2) (ls' := [some (.inr (.inr v0)), some (.inl v1), some (.inl 0), none]) hC dX8_useless_18 rfl rfl (Nat.le_of_ble_eq_true rfl) rfl rfl ?_
  obtain ⟨tq25, q25, h⟩ := pb_s h
  refine aw_sub hC [some (.inr (.inr v0)), some (.inl v1), some (.inl 0), none] ⟨rfl, ⟨rfl, ⟨rfl, trivial⟩⟩⟩ (Nat.le_of_ble_eq_true rfl) ?_
  refine (lp_aw (p_X8_useless_L19 Γ sh v0 v1 (fin_ Γ 0 0 (some (.inl r)) sh M')) (x_X8_useless_L19 Γ sh v0 v1 (fin_ Γ 0 0 (some (.inl r)) sh M')) (w_X8_useless_L19 hC ) FU _ _ q25 ?_ : p_X8_useless_L19 Γ sh v0 v1 (fin_ Γ 0 0 (some (.inl r)) sh M') (0, M6))
  rcases tq25 with tq25 | tq25
  · replace h := se_l h
    replace h := u1_s h
    show AW Γ sh tq25 0 0 120 [none, none, none, none] [] _
    refine aw_iconst (pc' := 121) hC dX8_useless_120 rfl (by decide) ?_
    cases h
    exact aw_iret hC dX8_useless_121 (Nat.le_of_ble_eq_true rfl) (Nat.le_of_ble_eq_true rfl)
  · replace h := se_r h
    obtain ⟨x26, M27⟩ := tq25
    replace h := u2_s h
    show AW Γ sh M27 0 0 68 [some (.inr (.inr v0)), some (.inl v1), none, some (.inl x26)] [] _
    refine aw_iload_n (pc' := 69) (i := 1) hC dX8_useless_68 rfl rfl rfl ?_
    by_cases c28 : v1 = 0
    · replace h := it_p c28 h
      refine aw_ls (tgt := 96) (off := 27) hC dX8_useless_69 (by decide) (os_p c28) (by decide) ?_
      refine aw_aload_n (pc' := 97) (i := 0) hC dX8_useless_96 rfl rfl rfl ?_
      refine aw_getfield (pc' := 100) (v := (.inr (.inr (M27 v0 5)))) hC dX8_useless_97 rfl fl_X8_64 g1 rfl ?_
      obtain ⟨g30, h⟩ := gd_s h
      refine aw_getfield (pc' := 103) (v := (.inr (.inr (M27 (M27 v0 5) 0)))) hC dX8_useless_100 rfl fl_X8_110 g30 rfl ?_
      obtain ⟨g31, h⟩ := gd_s h
      refine aw_getfield (pc' := 106) (v := (.inl (M27 (M27 (M27 v0 5) 0) 0))) hC dX8_useless_103 rfl fl_X8_114 g31 rfl ?_
      cases h
      exact aw_iret hC dX8_useless_106 (Nat.le_of_ble_eq_true rfl) (Nat.le_of_ble_eq_true rfl)
    · replace h := it_n c28 h
      by_cases c29 : v1 = 1
      · replace h := it_p c29 h
        refine aw_ls (tgt := 107) (off := 38) hC dX8_useless_69 (by decide) ((os_n c28).trans (os_p c29)) (by decide) ?_
        refine aw_iload_n (pc' := 108) (i := 3) hC dX8_useless_107 rfl rfl rfl ?_
        obtain ⟨x33, q32, h⟩ := pb_s h
        replace h := u1_s h
        refine aw_cS (pc' := 111) (k2 := 0) (n2 := 0) (st := []) (stN := [.inl x33]) hC [.inl x26] (mJ6_numberOfTrailingZeros_0f7a4 q32) lk_X8_283 dX8_useless_108 rfl rfl (Nat.le_of_ble_eq_true rfl) (Nat.le_of_ble_eq_true rfl) (Nat.le_of_ble_eq_true rfl) rfl (Nat.le_of_ble_eq_true rfl) rfl rfl rfl ?_
        cases h
        exact aw_iret hC dX8_useless_111 (Nat.le_of_ble_eq_true rfl) (Nat.le_of_ble_eq_true rfl)
      · replace h := it_n c29 h
        refine aw_ls (tgt := 112) (off := 43) hC dX8_useless_69 (by decide) ((os_n c28).trans ((os_n c29).trans rfl)) (by decide) ?_
        refine aw_iconst (pc' := 113) hC dX8_useless_112 rfl (by decide) ?_
        cases h
        exact aw_iret hC dX8_useless_113 (Nat.le_of_ble_eq_true rfl) (Nat.le_of_ble_eq_true rfl)
-- CoinCircle.putImageByte(I)V
def fX8_putImageByte (sh : AwS) (M : AwM) (v0 : Int) (v1 : Int) : Option (AwM) :=
  gd_ (kd_ sh v0 = (0, 8)) ((if (M v0 12) < 135 then gd_ ((kd_ sh (M v0 11)).1 = 3 ∧ (0 : Int) ≤ (M v0 12) ∧ (M v0 12) < ((kd_ sh (M v0 11)).2 : Int)) (bd_ (up_ M (M v0 11) (M v0 12) (w8_ (w8_ v1))) fun (M4 : AwM) => (bd_ (up_ M4 v0 12 (w32 ((M4 v0 12) + 1))) fun (M6 : AwM) => (some M6))) else some M))
set_option maxRecDepth 100000 in
set_option maxHeartbeats 4000000 in
theorem mX8_putImageByte {sh : AwS} {M : AwM} {v0 : Int} {v1 : Int} {M' : AwM} (h : fX8_putImageByte sh M v0 v1 = some M') : AMet yX8_putImageByte cX8_putImageByte 2 none 1 0 0 [.inr (.inr v0), .inl v1] sh M none sh M' := by
  refine amet_of (by decide +kernel) (Nat.le_of_ble_eq_true rfl) (fun Γ hC => ?_)
  replace hC : AOK Γ RX8 cX8_putImageByte 2 1 0 0 "putImageByte" none := hC
  unfold fX8_putImageByte at h
  refine aw_sub hC [some (.inr (.inr v0)), some (.inl v1)] ⟨rfl, ⟨rfl, trivial⟩⟩ (Nat.le_of_ble_eq_true rfl) ?_
  refine aw_aload_n (pc' := 1) (i := 0) hC dX8_putImageByte_0 rfl rfl rfl ?_
  obtain ⟨g1, h⟩ := gd_s h
  refine aw_getfield (pc' := 4) (v := (.inl (M v0 12))) hC dX8_putImageByte_1 rfl fl_X8_286 g1 rfl ?_
  refine aw_sipush (pc' := 7) hC dX8_putImageByte_4 rfl (by decide) ?_
  refine aw_icmp_ge (tgt := 31) (pc' := 10) hC dX8_putImageByte_7 (by decide) rfl (fun c2 => ?_) (fun c2 => ?_)
  · replace h := it_n c2 h
    cases h
    exact aw_vret hC dX8_putImageByte_31 (Nat.le_of_ble_eq_true rfl) (Nat.le_of_ble_eq_true rfl)
  · replace h := it_p c2 h
    refine aw_aload_n (pc' := 11) (i := 0) hC dX8_putImageByte_10 rfl rfl rfl ?_
    refine aw_getfield (pc' := 14) (v := (.inr (.inr (M v0 11)))) hC dX8_putImageByte_11 rfl fl_X8_41 g1 rfl ?_
    refine aw_aload_n (pc' := 15) (i := 0) hC dX8_putImageByte_14 rfl rfl rfl ?_
    refine aw_getfield (pc' := 18) (v := (.inl (M v0 12))) hC dX8_putImageByte_15 rfl fl_X8_286 g1 rfl ?_
    refine aw_iload_n (pc' := 19) (i := 1) hC dX8_putImageByte_18 rfl rfl rfl ?_
    refine aw_i2b (pc' := 20) hC dX8_putImageByte_19 rfl  ?_
    obtain ⟨g3, h⟩ := gd_s h
    obtain ⟨M4, e5, h⟩ := bd_s h
    refine aw_bas (pc' := 21) hC dX8_putImageByte_20 rfl g3 e5 ?_
    refine aw_aload_n (pc' := 22) (i := 0) hC dX8_putImageByte_21 rfl rfl rfl ?_
    refine aw_dup (pc' := 23) hC dX8_putImageByte_22 rfl rfl ?_
    refine aw_getfield (pc' := 26) (v := (.inl (M4 v0 12))) hC dX8_putImageByte_23 rfl fl_X8_286 g1 rfl ?_
    refine aw_iconst (pc' := 27) hC dX8_putImageByte_26 rfl (by decide) ?_
    refine aw_iadd (pc' := 28) hC dX8_putImageByte_27 rfl  ?_
    obtain ⟨M6, e7, h⟩ := bd_s h
    refine aw_pf (pc' := 31) hC dX8_putImageByte_28 rfl fp_X8_286 g1 rfl trivial e7 ?_
    cases h
    exact aw_vret hC dX8_putImageByte_31 (Nat.le_of_ble_eq_true rfl) (Nat.le_of_ble_eq_true rfl)
-- CoinCircle$Circle.standing(II)I
def fX0_standing (sh : AwS) (M : AwM) (v0 : Int) (v1 : Int) (v2 : Int) : Option Int :=
  gd_ (kd_ sh v0 = (0, 0)) (pb (fX0_knows sh M v0 v1 v2) <| u1 fun (x3 : Int) => ((if x3 = 0 then gd_ (kd_ sh (M v0 0) = (0, 3)) (gd_ ((kd_ sh (M (M v0 0) 3)).1 = 1 ∧ (0 : Int) ≤ v1 ∧ v1 < ((kd_ sh (M (M v0 0) 3)).2 : Int)) (pb (fX8_isIn sh M (M (M (M v0 0) 3) v1) v2) <| u1 fun (x8 : Int) => ((if x8 = 0 then some 0 else some 1)))) else gd_ (kd_ sh (M v0 0) = (0, 3)) (pb (fX3_metOn sh M (M v0 0) v1 v2) <| u1 fun (x12 : Int) => (pb (fJ9_min_7cf53 sh M 200 (w32 ((M (M v0 0) 0) - x12))) <| u1 fun (x14 : Int) => (some (w32 (2 + x14))))))))
set_option maxRecDepth 100000 in
set_option maxHeartbeats 4000000 in
theorem mX0_standing {sh : AwS} {M : AwM} {v0 : Int} {v1 : Int} {v2 : Int} {r : Int} (h : fX0_standing sh M v0 v1 v2 = some r) : AMet yX0_standing cX0_standing 3 (some .int) 3 0 0 [.inr (.inr v0), .inl v1, .inl v2] sh M (some (.inl r)) sh M := by
  refine amet_of (by decide +kernel) (Nat.le_of_ble_eq_true rfl) (fun Γ hC => ?_)
  replace hC : AOK Γ RX0 cX0_standing 3 3 0 0 "standing" (some .int) := hC
  unfold fX0_standing at h
  refine aw_sub hC [some (.inr (.inr v0)), some (.inl v1), some (.inl v2)] ⟨rfl, ⟨rfl, ⟨rfl, trivial⟩⟩⟩ (Nat.le_of_ble_eq_true rfl) ?_
  refine aw_aload_n (pc' := 1) (i := 0) hC dX0_standing_0 rfl rfl rfl ?_
  refine aw_iload_n (pc' := 2) (i := 1) hC dX0_standing_1 rfl rfl rfl ?_
  refine aw_iload_n (pc' := 3) (i := 2) hC dX0_standing_2 rfl rfl rfl ?_
  obtain ⟨g2, h⟩ := gd_s h
  obtain ⟨x3, q1, h⟩ := pb_s h
  replace h := u1_s h
  refine aw_cV (pc' := 6) (k2 := 0) (n2 := 0) (st := []) (stN := [.inl x3]) hC [.inl v1, .inl v2] (mX0_knows q1) lk_X0_59 g2 dX0_standing_3 rfl rfl (Nat.le_of_ble_eq_true rfl) (Nat.le_of_ble_eq_true rfl) (Nat.le_of_ble_eq_true rfl) rfl (Nat.le_of_ble_eq_true rfl) rfl rfl rfl ?_
  refine aw_if_eq (tgt := 35) (pc' := 9) hC dX0_standing_6 (by decide) rfl (fun c4 => ?_) (fun c4 => ?_)
  · replace h := it_p c4 h
    refine aw_aload_n (pc' := 36) (i := 0) hC dX0_standing_35 rfl rfl rfl ?_
    refine aw_getfield (pc' := 39) (v := (.inr (.inr (M v0 0)))) hC dX0_standing_36 rfl fl_X0_12 g2 rfl ?_
    obtain ⟨g5, h⟩ := gd_s h
    refine aw_getfield (pc' := 42) (v := (.inr (.inr (M (M v0 0) 3)))) hC dX0_standing_39 rfl fl_X0_40 g5 rfl ?_
    refine aw_iload_n (pc' := 43) (i := 1) hC dX0_standing_42 rfl rfl rfl ?_
    obtain ⟨g6, h⟩ := gd_s h
    refine aw_iaload (pc' := 44) hC dX0_standing_43 rfl g6 ?_
    refine aw_iload_n (pc' := 45) (i := 2) hC dX0_standing_44 rfl rfl rfl ?_
    obtain ⟨x8, q7, h⟩ := pb_s h
    replace h := u1_s h
    refine aw_cSN (pc' := 48) (k2 := 0) (n2 := 0) (st := []) (stN := [.inl x8]) hC [.inl (M (M (M v0 0) 3) v1), .inl v2] (mX8_isIn q7) lk_X0_51 dX0_standing_45 rfl rfl (Nat.le_of_ble_eq_true rfl) (Nat.le_of_ble_eq_true rfl) (Nat.le_of_ble_eq_true rfl) rfl (Nat.le_of_ble_eq_true rfl) rfl rfl rfl ?_
    refine aw_if_eq (tgt := 55) (pc' := 51) hC dX0_standing_48 (by decide) rfl (fun c9 => ?_) (fun c9 => ?_)
    · replace h := it_p c9 h
      refine aw_iconst (pc' := 56) hC dX0_standing_55 rfl (by decide) ?_
      cases h
      exact aw_iret hC dX0_standing_56 (Nat.le_of_ble_eq_true rfl) (Nat.le_of_ble_eq_true rfl)
    · replace h := it_n c9 h
      refine aw_iconst (pc' := 52) hC dX0_standing_51 rfl (by decide) ?_
      refine aw_goto (tgt := 56) hC dX0_standing_52 (by decide) ?_
      cases h
      exact aw_iret hC dX0_standing_56 (Nat.le_of_ble_eq_true rfl) (Nat.le_of_ble_eq_true rfl)
  · replace h := it_n c4 h
    refine aw_iconst (pc' := 10) hC dX0_standing_9 rfl (by decide) ?_
    refine aw_sipush (pc' := 13) hC dX0_standing_10 rfl (by decide) ?_
    refine aw_aload_n (pc' := 14) (i := 0) hC dX0_standing_13 rfl rfl rfl ?_
    refine aw_getfield (pc' := 17) (v := (.inr (.inr (M v0 0)))) hC dX0_standing_14 rfl fl_X0_12 g2 rfl ?_
    obtain ⟨g10, h⟩ := gd_s h
    refine aw_getfield (pc' := 20) (v := (.inl (M (M v0 0) 0))) hC dX0_standing_17 rfl fl_X0_26 g10 rfl ?_
    refine aw_aload_n (pc' := 21) (i := 0) hC dX0_standing_20 rfl rfl rfl ?_
    refine aw_getfield (pc' := 24) (v := (.inr (.inr (M v0 0)))) hC dX0_standing_21 rfl fl_X0_12 g2 rfl ?_
    refine aw_iload_n (pc' := 25) (i := 1) hC dX0_standing_24 rfl rfl rfl ?_
    refine aw_iload_n (pc' := 26) (i := 2) hC dX0_standing_25 rfl rfl rfl ?_
    obtain ⟨x12, q11, h⟩ := pb_s h
    replace h := u1_s h
    refine aw_cV (pc' := 29) (k2 := 0) (n2 := 0) (st := [.inl (M (M v0 0) 0), .inl 200, .inl 2]) (stN := [.inl x12, .inl (M (M v0 0) 0), .inl 200, .inl 2]) hC [.inl v1, .inl v2] (mX3_metOn q11) lk_X0_155 g10 dX0_standing_26 rfl rfl (Nat.le_of_ble_eq_true rfl) (Nat.le_of_ble_eq_true rfl) (Nat.le_of_ble_eq_true rfl) rfl (Nat.le_of_ble_eq_true rfl) rfl rfl rfl ?_
    refine aw_isub (pc' := 30) hC dX0_standing_29 rfl  ?_
    obtain ⟨x14, q13, h⟩ := pb_s h
    replace h := u1_s h
    refine aw_cS (pc' := 33) (k2 := 0) (n2 := 0) (st := [.inl 2]) (stN := [.inl x14, .inl 2]) hC [.inl 200, .inl (w32 ((M (M v0 0) 0) - x12))] (mJ9_min_7cf53 q13) lk_X0_121 dX0_standing_30 rfl rfl (Nat.le_of_ble_eq_true rfl) (Nat.le_of_ble_eq_true rfl) (Nat.le_of_ble_eq_true rfl) rfl (Nat.le_of_ble_eq_true rfl) rfl rfl rfl ?_
    refine aw_iadd (pc' := 34) hC dX0_standing_33 rfl  ?_
    cases h
    exact aw_iret hC dX0_standing_34 (Nat.le_of_ble_eq_true rfl) (Nat.le_of_ble_eq_true rfl)
