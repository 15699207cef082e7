-- CoinCircle$Circle.snubCount()I
def fX0_snubCount_L4 (sh : AwS) (M : AwM) (v0 : Int) (v1 : Int) (v2 : Int) : Option ((Int × Int) ⊕ (Int)) :=
  gd_ (kd_ sh v0 = (0, 0)) (pb (fX0_coins sh M v0) <| u1 fun (x3 : Int) => ((if v2 < x3 then gd_ (kd_ sh (M v0 0) = (0, 3)) (gd_ ((kd_ sh (M (M v0 0) 3)).1 = 1 ∧ (0 : Int) ≤ v2 ∧ v2 < ((kd_ sh (M (M v0 0) 3)).2 : Int)) (pb (fJ6_bitCount_0f7a4 sh M (M (M (M v0 0) 3) v2)) <| u1 fun (x8 : Int) => (some (.inl ((w32 (v1 + x8)), (w32 (v2 + 1))))))) else some (.inr v1))))
def p_X0_snubCount_L4 (Γ : AwC) (sh : AwS) (M : AwM) (v0 : Int) (Q : State → Prop) (s : Int × Int) : Prop := AW Γ sh M 0 0 4 [some (.inr (.inr v0)), some (.inl (s.1)), some (.inl (s.2))] [] Q
def x_X0_snubCount_L4 (Γ : AwC) (sh : AwS) (M : AwM) (v0 : Int) (Q : State → Prop) : (Int) → Prop := (fun (t : Int) => AW Γ sh M 0 0 33 [none, some (.inl (t)), none] [] Q)
def fX0_snubCount (sh : AwS) (M : AwM) (v0 : Int) : Option Int :=
  pb (lp (u2 (fX0_snubCount_L4 sh M v0)) FU (0, 0)) (u1 (fun (tq9 : Int) => some tq9))
set_option maxRecDepth 100000 in
set_option maxHeartbeats 4000000 in
theorem w_X0_snubCount_L4 {Γ : AwC} (hC : AOK Γ RX0 cX0_snubCount 3 2 0 0 "snubCount" (some .int)) {sh : AwS} {M : AwM} {v0 : Int} {Q : State → Prop} : ∀ s r, u2 (fX0_snubCount_L4 sh M v0) s = some r → (∀ s', r = .inl s' → p_X0_snubCount_L4 Γ sh M v0 Q s') → (∀ t, r = .inr t → x_X0_snubCount_L4 Γ sh M v0 Q t) → p_X0_snubCount_L4 Γ sh M v0 Q s := by
  intro s r h hL hX
  obtain ⟨v1, v2⟩ := s
  replace h := u2_s h
  unfold fX0_snubCount_L4 at h
  show AW Γ sh M 0 0 4 [some (.inr (.inr v0)), some (.inl v1), some (.inl v2)] [] Q
  refine aw_iload_n (pc' := 5) (i := 2) hC dX0_snubCount_4 rfl rfl rfl ?_
  refine aw_aload_n (pc' := 6) (i := 0) hC dX0_snubCount_5 rfl rfl rfl ?_
  obtain ⟨g2, h⟩ := gd_s h
  obtain ⟨x3, q1, h⟩ := pb_s h
  replace h := u1_s h
  refine aw_cV (pc' := 9) (k2 := 0) (n2 := 0) (st := [.inl v2]) (stN := [.inl x3, .inl v2]) hC [] (mX0_coins q1) lk_X0_55 g2 dX0_snubCount_6 rfl rfl (Nat.le_of_ble_eq_true rfl) (Nat.le_of_ble_eq_true rfl) (Nat.le_of_ble_eq_true rfl) rfl (Nat.le_of_ble_eq_true rfl) rfl rfl rfl ?_
  refine aw_icmp_ge (tgt := 33) (pc' := 12) hC dX0_snubCount_9 (by decide) rfl (fun c4 => ?_) (fun c4 => ?_)
  · replace h := it_n c4 h
    refine aw_sub hC [none, some (.inl v1), none] ⟨rfl, trivial⟩ (Nat.le_of_ble_eq_true rfl) ?_
    cases h
    exact hX _ rfl
  · replace h := it_p c4 h
    refine aw_iload_n (pc' := 13) (i := 1) hC dX0_snubCount_12 rfl rfl rfl ?_
    refine aw_aload_n (pc' := 14) (i := 0) hC dX0_snubCount_13 rfl rfl rfl ?_
    refine aw_getfield (pc' := 17) (v := (.inr (.inr (M v0 0)))) hC dX0_snubCount_14 rfl fl_X0_12 g2 rfl ?_
    obtain ⟨g5, h⟩ := gd_s h
    refine aw_getfield (pc' := 20) (v := (.inr (.inr (M (M v0 0) 3)))) hC dX0_snubCount_17 rfl fl_X0_40 g5 rfl ?_
    refine aw_iload_n (pc' := 21) (i := 2) hC dX0_snubCount_20 rfl rfl rfl ?_
    obtain ⟨g6, h⟩ := gd_s h
    refine aw_iaload (pc' := 22) hC dX0_snubCount_21 rfl g6 ?_
    obtain ⟨x8, q7, h⟩ := pb_s h
    replace h := u1_s h
    refine aw_cS (pc' := 25) (k2 := 0) (n2 := 0) (st := [.inl v1]) (stN := [.inl x8, .inl v1]) hC [.inl (M (M (M v0 0) 3) v2)] (mJ6_bitCount_0f7a4 q7) lk_X0_65 dX0_snubCount_22 rfl rfl (Nat.le_of_ble_eq_true rfl) (Nat.le_of_ble_eq_true rfl) (Nat.le_of_ble_eq_true rfl) rfl (Nat.le_of_ble_eq_true rfl) rfl rfl rfl ?_
    refine aw_iadd (pc' := 26) hC dX0_snubCount_25 rfl  ?_
    refine aw_istore_n (pc' := 27) (i := 1) (ls' := [some (.inr (.inr v0)), some (.inl (w32 (v1 + x8))), some (.inl v2)]) hC dX0_snubCount_26 rfl rfl (Nat.le_of_ble_eq_true rfl) rfl rfl ?_
    refine aw_iinc (pc' := 30) (ls' := [some (.inr (.inr v0)), some (.inl (w32 (v1 + x8))), some (.inl (w32 (v2 + 1)))]) hC dX0_snubCount_27 rfl rfl rfl rfl ?_
    refine aw_goto (tgt := 4) hC dX0_snubCount_30 (by decide) ?_
    refine aw_sub hC [some (.inr (.inr v0)), some (.inl (w32 (v1 + x8))), some (.inl (w32 (v2 + 1)))] ⟨rfl, ⟨rfl, ⟨rfl, trivial⟩⟩⟩ (Nat.le_of_ble_eq_true rfl) ?_
    cases h
    exact hL _ rfl
set_option maxRecDepth 100000 in
set_option maxHeartbeats 4000000 in
theorem mX0_snubCount {sh : AwS} {M : AwM} {v0 : Int} {r : Int} (h : fX0_snubCount sh M v0 = some r) : AMet yX0_snubCount cX0_snubCount 3 (some .int) 2 0 0 [.inr (.inr v0)] sh M (some (.inl r)) sh M := by
  refine amet_of (by decide +kernel) (Nat.le_of_ble_eq_true rfl) (fun Γ hC => ?_)
  replace hC : AOK Γ RX0 cX0_snubCount 3 2 0 0 "snubCount" (some .int) := hC
  unfold fX0_snubCount at h
  refine aw_sub hC [some (.inr (.inr v0)), none, none] ⟨rfl, trivial⟩ (Nat.le_of_ble_eq_true rfl) ?_
  refine aw_iconst (pc' := 1) hC dX0_snubCount_0 rfl (by decide) ?_
  refine aw_istore_n (pc' := 2) (i := 1) (ls' := [some (.inr (.inr v0)), some (.inl 0), none]) hC dX0_snubCount_1 rfl rfl (Nat.le_of_ble_eq_true rfl) rfl rfl ?_
  refine aw_iconst (pc' := 3) hC dX0_snubCount_2 rfl (by decide) ?_
  refine aw_istore_n (pc' := 4) (i := 2) (ls' := [some (.inr (.inr v0)), some (.inl 0), some (.inl 0)]) hC dX0_snubCount_3 rfl rfl (Nat.le_of_ble_eq_true rfl) rfl rfl ?_
  obtain ⟨tq9, q9, h⟩ := pb_s h
  refine aw_sub hC [some (.inr (.inr v0)), some (.inl 0), some (.inl 0)] ⟨rfl, ⟨rfl, ⟨rfl, trivial⟩⟩⟩ (Nat.le_of_ble_eq_true rfl) ?_
  refine (lp_aw (p_X0_snubCount_L4 Γ sh M v0 (fin_ Γ 0 0 (some (.inl r)) sh M)) (x_X0_snubCount_L4 Γ sh M v0 (fin_ Γ 0 0 (some (.inl r)) sh M)) (w_X0_snubCount_L4 hC ) FU _ _ q9 ?_ : p_X0_snubCount_L4 Γ sh M v0 (fin_ Γ 0 0 (some (.inl r)) sh M) (0, 0))
  replace h := u1_s h
  show AW Γ sh M 0 0 33 [none, some (.inl tq9), none] [] _
  refine aw_iload_n (pc' := 34) (i := 1) hC dX0_snubCount_33 rfl rfl rfl ?_
  cases h
  exact aw_iret hC dX0_snubCount_34 (Nat.le_of_ble_eq_true rfl) (Nat.le_of_ble_eq_true rfl)
-- CoinCircle$Society.allPeople()I
def fX5_allPeople (sh : AwS) (M : AwM) (v0 : Int) : Option Int :=
  gd_ (kd_ sh v0 = (0, 5)) (gd_ ((kd_ sh (M v0 0)).1 = 1 ∧ (0 : Int) ≤ 0 ∧ 0 < ((kd_ sh (M v0 0)).2 : Int)) (some (w32 ((sl_ 1 (M (M v0 0) 0)) - 1))))
set_option maxRecDepth 100000 in
set_option maxHeartbeats 4000000 in
theorem mX5_allPeople {sh : AwS} {M : AwM} {v0 : Int} {r : Int} (h : fX5_allPeople sh M v0 = some r) : AMet yX5_allPeople cX5_allPeople 1 (some .int) 1 0 0 [.inr (.inr v0)] sh M (some (.inl r)) sh M := by
  refine amet_of (by decide +kernel) (Nat.le_of_ble_eq_true rfl) (fun Γ hC => ?_)
  replace hC : AOK Γ RX5 cX5_allPeople 1 1 0 0 "allPeople" (some .int) := hC
  unfold fX5_allPeople at h
  refine aw_sub hC [some (.inr (.inr v0))] ⟨rfl, trivial⟩ (Nat.le_of_ble_eq_true rfl) ?_
  refine aw_iconst (pc' := 1) hC dX5_allPeople_0 rfl (by decide) ?_
  refine aw_aload_n (pc' := 2) (i := 0) hC dX5_allPeople_1 rfl rfl rfl ?_
  obtain ⟨g1, h⟩ := gd_s h
  refine aw_getfield (pc' := 5) (v := (.inr (.inr (M v0 0)))) hC dX5_allPeople_2 rfl fl_X5_9 g1 rfl ?_
  refine aw_iconst (pc' := 6) hC dX5_allPeople_5 rfl (by decide) ?_
  obtain ⟨g2, h⟩ := gd_s h
  refine aw_iaload (pc' := 7) hC dX5_allPeople_6 rfl g2 ?_
  refine aw_ishl (pc' := 8) hC dX5_allPeople_7 rfl  ?_
  refine aw_iconst (pc' := 9) hC dX5_allPeople_8 rfl (by decide) ?_
  refine aw_isub (pc' := 10) hC dX5_allPeople_9 rfl  ?_
  cases h
  exact aw_iret hC dX5_allPeople_10 (Nat.le_of_ble_eq_true rfl) (Nat.le_of_ble_eq_true rfl)
-- CoinCircle$Circle.knowingAllCount()I
def fX0_knowingAllCount_L4 (sh : AwS) (M : AwM) (v0 : Int) (v1 : Int) (v2 : Int) : Option ((Int × Int) ⊕ (Int)) :=
  gd_ (kd_ sh v0 = (0, 0)) (pb (fX0_coins sh M v0) <| u1 fun (x3 : Int) => ((if v2 < x3 then gd_ (kd_ sh (M v0 0) = (0, 3)) (gd_ ((kd_ sh (M (M v0 0) 2)).1 = 1 ∧ (0 : Int) ≤ v2 ∧ v2 < ((kd_ sh (M (M v0 0) 2)).2 : Int)) (gd_ (kd_ sh (M v0 1) = (0, 5)) (pb (fX5_allPeople sh M (M v0 1)) <| u1 fun (x9 : Int) => ((if (M (M (M v0 0) 2) v2) = x9 then some (.inl ((w32 (v1 + 1)), (w32 (v2 + 1)))) else some (.inl (v1, (w32 (v2 + 1))))))))) else some (.inr v1))))
def p_X0_knowingAllCount_L4 (Γ : AwC) (sh : AwS) (M : AwM) (v0 : Int) (Q : State → Prop) (s : Int × Int) : Prop := AW Γ sh M 0 0 4 [some (.inr (.inr v0)), some (.inl (s.1)), some (.inl (s.2))] [] Q
def x_X0_knowingAllCount_L4 (Γ : AwC) (sh : AwS) (M : AwM) (v0 : Int) (Q : State → Prop) : (Int) → Prop := (fun (t : Int) => AW Γ sh M 0 0 40 [none, some (.inl (t)), none] [] Q)
def fX0_knowingAllCount (sh : AwS) (M : AwM) (v0 : Int) : Option Int :=
  pb (lp (u2 (fX0_knowingAllCount_L4 sh M v0)) FU (0, 0)) (u1 (fun (tq11 : Int) => some tq11))
set_option maxRecDepth 100000 in
set_option maxHeartbeats 4000000 in
theorem w_X0_knowingAllCount_L4 {Γ : AwC} (hC : AOK Γ RX0 cX0_knowingAllCount 3 2 0 0 "knowingAllCount" (some .int)) {sh : AwS} {M : AwM} {v0 : Int} {Q : State → Prop} : ∀ s r, u2 (fX0_knowingAllCount_L4 sh M v0) s = some r → (∀ s', r = .inl s' → p_X0_knowingAllCount_L4 Γ sh M v0 Q s') → (∀ t, r = .inr t → x_X0_knowingAllCount_L4 Γ sh M v0 Q t) → p_X0_knowingAllCount_L4 Γ sh M v0 Q s := by
  intro s r h hL hX
  obtain ⟨v1, v2⟩ := s
  replace h := u2_s h
  unfold fX0_knowingAllCount_L4 at h
  show AW Γ sh M 0 0 4 [some (.inr (.inr v0)), some (.inl v1), some (.inl v2)] [] Q
  refine aw_iload_n (pc' := 5) (i := 2) hC dX0_knowingAllCount_4 rfl rfl rfl ?_
  refine aw_aload_n (pc' := 6) (i := 0) hC dX0_knowingAllCount_5 rfl rfl rfl ?_
  obtain ⟨g2, h⟩ := gd_s h
  obtain ⟨x3, q1, h⟩ := pb_s h
  replace h := u1_s h
  refine aw_cV (pc' := 9) (k2 := 0) (n2 := 0) (st := [.inl v2]) (stN := [.inl x3, .inl v2]) hC [] (mX0_coins q1) lk_X0_55 g2 dX0_knowingAllCount_6 rfl rfl (Nat.le_of_ble_eq_true rfl) (Nat.le_of_ble_eq_true rfl) (Nat.le_of_ble_eq_true rfl) rfl (Nat.le_of_ble_eq_true rfl) rfl rfl rfl ?_
  refine aw_icmp_ge (tgt := 40) (pc' := 12) hC dX0_knowingAllCount_9 (by decide) rfl (fun c4 => ?_) (fun c4 => ?_)
  · replace h := it_n c4 h
    refine aw_sub hC [none, some (.inl v1), none] ⟨rfl, trivial⟩ (Nat.le_of_ble_eq_true rfl) ?_
    cases h
    exact hX _ rfl
  · replace h := it_p c4 h
    refine aw_aload_n (pc' := 13) (i := 0) hC dX0_knowingAllCount_12 rfl rfl rfl ?_
    refine aw_getfield (pc' := 16) (v := (.inr (.inr (M v0 0)))) hC dX0_knowingAllCount_13 rfl fl_X0_12 g2 rfl ?_
    obtain ⟨g5, h⟩ := gd_s h
    refine aw_getfield (pc' := 19) (v := (.inr (.inr (M (M v0 0) 2)))) hC dX0_knowingAllCount_16 rfl fl_X0_36 g5 rfl ?_
    refine aw_iload_n (pc' := 20) (i := 2) hC dX0_knowingAllCount_19 rfl rfl rfl ?_
    obtain ⟨g6, h⟩ := gd_s h
    refine aw_iaload (pc' := 21) hC dX0_knowingAllCount_20 rfl g6 ?_
    refine aw_aload_n (pc' := 22) (i := 0) hC dX0_knowingAllCount_21 rfl rfl rfl ?_
    refine aw_getfield (pc' := 25) (v := (.inr (.inr (M v0 1)))) hC dX0_knowingAllCount_22 rfl fl_X0_22 g2 rfl ?_
    obtain ⟨g8, h⟩ := gd_s h
    obtain ⟨x9, q7, h⟩ := pb_s h
    replace h := u1_s h
    refine aw_cV (pc' := 28) (k2 := 0) (n2 := 0) (st := [.inl (M (M (M v0 0) 2) v2)]) (stN := [.inl x9, .inl (M (M (M v0 0) 2) v2)]) hC [] (mX5_allPeople q7) lk_X0_71 g8 dX0_knowingAllCount_25 rfl rfl (Nat.le_of_ble_eq_true rfl) (Nat.le_of_ble_eq_true rfl) (Nat.le_of_ble_eq_true rfl) rfl (Nat.le_of_ble_eq_true rfl) rfl rfl rfl ?_
    refine aw_icmp_ne (tgt := 34) (pc' := 31) hC dX0_knowingAllCount_28 (by decide) rfl (fun c10 => ?_) (fun c10 => ?_)
    · replace h := it_n c10 h
      refine aw_iinc (pc' := 37) (ls' := [some (.inr (.inr v0)), some (.inl v1), some (.inl (w32 (v2 + 1)))]) hC dX0_knowingAllCount_34 rfl rfl rfl rfl ?_
      refine aw_goto (tgt := 4) hC dX0_knowingAllCount_37 (by decide) ?_
      refine aw_sub hC [some (.inr (.inr v0)), some (.inl v1), some (.inl (w32 (v2 + 1)))] ⟨rfl, ⟨rfl, ⟨rfl, trivial⟩⟩⟩ (Nat.le_of_ble_eq_true rfl) ?_
      cases h
      exact hL _ rfl
    · replace h := it_p c10 h
      refine aw_iinc (pc' := 34) (ls' := [some (.inr (.inr v0)), some (.inl (w32 (v1 + 1))), some (.inl v2)]) hC dX0_knowingAllCount_31 rfl rfl rfl rfl ?_
      refine aw_iinc (pc' := 37) (ls' := [some (.inr (.inr v0)), some (.inl (w32 (v1 + 1))), some (.inl (w32 (v2 + 1)))]) hC dX0_knowingAllCount_34 rfl rfl rfl rfl ?_
      refine aw_goto (tgt := 4) hC dX0_knowingAllCount_37 (by decide) ?_
      refine aw_sub hC [some (.inr (.inr v0)), some (.inl (w32 (v1 + 1))), some (.inl (w32 (v2 + 1)))] ⟨rfl, ⟨rfl, ⟨rfl, trivial⟩⟩⟩ (Nat.le_of_ble_eq_true rfl) ?_
      cases h
      exact hL _ rfl
set_option maxRecDepth 100000 in
set_option maxHeartbeats 4000000 in
theorem mX0_knowingAllCount {sh : AwS} {M : AwM} {v0 : Int} {r : Int} (h : fX0_knowingAllCount sh M v0 = some r) : AMet yX0_knowingAllCount cX0_knowingAllCount 3 (some .int) 2 0 0 [.inr (.inr v0)] sh M (some (.inl r)) sh M := by
  refine amet_of (by decide +kernel) (Nat.le_of_ble_eq_true rfl) (fun Γ hC => ?_)
  replace hC : AOK Γ RX0 cX0_knowingAllCount 3 2 0 0 "knowingAllCount" (some .int) := hC
  unfold fX0_knowingAllCount at h
  refine aw_sub hC [some (.inr (.inr v0)), none, none] ⟨rfl, trivial⟩ (Nat.le_of_ble_eq_true rfl) ?_
  refine aw_iconst (pc' := 1) hC dX0_knowingAllCount_0 rfl (by decide) ?_
  refine aw_istore_n (pc' := 2) (i := 1) (ls' := [some (.inr (.inr v0)), some (.inl 0), none]) hC dX0_knowingAllCount_1 rfl rfl (Nat.le_of_ble_eq_true rfl) rfl rfl ?_
  refine aw_iconst (pc' := 3) hC dX0_knowingAllCount_2 rfl (by decide) ?_
  refine aw_istore_n (pc' := 4) (i := 2) (ls' := [some (.inr (.inr v0)), some (.inl 0), some (.inl 0)]) hC dX0_knowingAllCount_3 rfl rfl (Nat.le_of_ble_eq_true rfl) rfl rfl ?_
  obtain ⟨tq11, q11, h⟩ := pb_s h
  refine aw_sub hC [some (.inr (.inr v0)), some (.inl 0), some (.inl 0)] ⟨rfl, ⟨rfl, ⟨rfl, trivial⟩⟩⟩ (Nat.le_of_ble_eq_true rfl) ?_
  refine (lp_aw (p_X0_knowingAllCount_L4 Γ sh M v0 (fin_ Γ 0 0 (some (.inl r)) sh M)) (x_X0_knowingAllCount_L4 Γ sh M v0 (fin_ Γ 0 0 (some (.inl r)) sh M)) (w_X0_knowingAllCount_L4 hC ) FU _ _ q11 ?_ : p_X0_knowingAllCount_L4 Γ sh M v0 (fin_ Γ 0 0 (some (.inl r)) sh M) (0, 0))
  replace h := u1_s h
  show AW Γ sh M 0 0 40 [none, some (.inl tq11), none] [] _
  refine aw_iload_n (pc' := 41) (i := 1) hC dX0_knowingAllCount_40 rfl rfl rfl ?_
  cases h
  exact aw_iret hC dX0_knowingAllCount_41 (Nat.le_of_ble_eq_true rfl) (Nat.le_of_ble_eq_true rfl)
-- CoinCircle$Circle.heldBy(I)I
def fX0_heldBy_L4 (sh : AwS) (M : AwM) (v0 : Int) (v1 : Int) (v2 : Int) (v3 : Int) : Option ((Int × Int) ⊕ (Int)) :=
  gd_ (kd_ sh v0 = (0, 0)) (pb (fX0_coins sh M v0) <| u1 fun (x3 : Int) => ((if v3 < x3 then gd_ (kd_ sh (M v0 0) = (0, 3)) (gd_ ((kd_ sh (M (M v0 0) 1)).1 = 1 ∧ (0 : Int) ≤ v3 ∧ v3 < ((kd_ sh (M (M v0 0) 1)).2 : Int)) ((if (M (M (M v0 0) 1) v3) = v1 then some (.inl ((or_ v2 (sl_ 1 v3)), (w32 (v3 + 1)))) else some (.inl (v2, (w32 (v3 + 1))))))) else some (.inr v2))))
def p_X0_heldBy_L4 (Γ : AwC) (sh : AwS) (M : AwM) (v0 : Int) (v1 : Int) (Q : State → Prop) (s : Int × Int) : Prop := AW Γ sh M 0 0 4 [some (.inr (.inr v0)), some (.inl v1), some (.inl (s.1)), some (.inl (s.2))] [] Q
def x_X0_heldBy_L4 (Γ : AwC) (sh : AwS) (M : AwM) (v0 : Int) (v1 : Int) (Q : State → Prop) : (Int) → Prop := (fun (t : Int) => AW Γ sh M 0 0 37 [none, none, some (.inl (t)), none] [] Q)
def fX0_heldBy (sh : AwS) (M : AwM) (v0 : Int) (v1 : Int) : Option Int :=
  pb (lp (u2 (fX0_heldBy_L4 sh M v0 v1)) FU (0, 0)) (u1 (fun (tq8 : Int) => some tq8))
set_option maxRecDepth 100000 in
set_option maxHeartbeats 4000000 in
theorem w_X0_heldBy_L4 {Γ : AwC} (hC : AOK Γ RX0 cX0_heldBy 4 2 0 0 "heldBy" (some .int)) {sh : AwS} {M : AwM} {v0 : Int} {v1 : Int} {Q : State → Prop} : ∀ s r, u2 (fX0_heldBy_L4 sh M v0 v1) s = some r → (∀ s', r = .inl s' → p_X0_heldBy_L4 Γ sh M v0 v1 Q s') → (∀ t, r = .inr t → x_X0_heldBy_L4 Γ sh M v0 v1 Q t) → p_X0_heldBy_L4 Γ sh M v0 v1 Q s := by
  intro s r h hL hX
  obtain ⟨v2, v3⟩ := s
  replace h := u2_s h
  unfold fX0_heldBy_L4 at h
  show AW Γ sh M 0 0 4 [some (.inr (.inr v0)), some (.inl v1), some (.inl v2), some (.inl v3)] [] Q
  refine aw_iload_n (pc' := 5) (i := 3) hC dX0_heldBy_4 rfl rfl rfl ?_
  refine aw_aload_n (pc' := 6) (i := 0) hC dX0_heldBy_5 rfl rfl rfl ?_
  obtain ⟨g2, h⟩ := gd_s h
  obtain ⟨x3, q1, h⟩ := pb_s h
  replace h := u1_s h
  refine aw_cV (pc' := 9) (k2 := 0) (n2 := 0) (st := [.inl v3]) (stN := [.inl x3, .inl v3]) hC [] (mX0_coins q1) lk_X0_55 g2 dX0_heldBy_6 rfl rfl (Nat.le_of_ble_eq_true rfl) (Nat.le_of_ble_eq_true rfl) (Nat.le_of_ble_eq_true rfl) rfl (Nat.le_of_ble_eq_true rfl) rfl rfl rfl ?_
  refine aw_icmp_ge (tgt := 37) (pc' := 12) hC dX0_heldBy_9 (by decide) rfl (fun c4 => ?_) (fun c4 => ?_)
  · replace h := it_n c4 h
    refine aw_sub hC [none, none, some (.inl v2), none] ⟨rfl, trivial⟩ (Nat.le_of_ble_eq_true rfl) ?_
    cases h
    exact hX _ rfl
  · replace h := it_p c4 h
    refine aw_aload_n (pc' := 13) (i := 0) hC dX0_heldBy_12 rfl rfl rfl ?_
    refine aw_getfield (pc' := 16) (v := (.inr (.inr (M v0 0)))) hC dX0_heldBy_13 rfl fl_X0_12 g2 rfl ?_
    obtain ⟨g5, h⟩ := gd_s h
    refine aw_getfield (pc' := 19) (v := (.inr (.inr (M (M v0 0) 1)))) hC dX0_heldBy_16 rfl fl_X0_30 g5 rfl ?_
    refine aw_iload_n (pc' := 20) (i := 3) hC dX0_heldBy_19 rfl rfl rfl ?_
    obtain ⟨g6, h⟩ := gd_s h
    refine aw_iaload (pc' := 21) hC dX0_heldBy_20 rfl g6 ?_
    refine aw_iload_n (pc' := 22) (i := 1) hC dX0_heldBy_21 rfl rfl rfl ?_
    refine aw_icmp_ne (tgt := 31) (pc' := 25) hC dX0_heldBy_22 (by decide) rfl (fun c7 => ?_) (fun c7 => ?_)
    · replace h := it_n c7 h
      refine aw_iinc (pc' := 34) (ls' := [some (.inr (.inr v0)), some (.inl v1), some (.inl v2), some (.inl (w32 (v3 + 1)))]) hC dX0_heldBy_31 rfl rfl rfl rfl ?_
      refine aw_goto (tgt := 4) hC dX0_heldBy_34 (by decide) ?_
      refine aw_sub hC [some (.inr (.inr v0)), some (.inl v1), some (.inl v2), some (.inl (w32 (v3 + 1)))] ⟨rfl, ⟨rfl, ⟨rfl, ⟨rfl, trivial⟩⟩⟩⟩ (Nat.le_of_ble_eq_true rfl) ?_
      cases h
      exact hL _ rfl
    · replace h := it_p c7 h
      refine aw_iload_n (pc' := 26) (i := 2) hC dX0_heldBy_25 rfl rfl rfl ?_
      refine aw_iconst (pc' := 27) hC dX0_heldBy_26 rfl (by decide) ?_
      refine aw_iload_n (pc' := 28) (i := 3) hC dX0_heldBy_27 rfl rfl rfl ?_
      refine aw_ishl (pc' := 29) hC dX0_heldBy_28 rfl  ?_
      refine aw_ior (pc' := 30) hC dX0_heldBy_29 rfl  ?_
      refine aw_istore_n (pc' := 31) (i := 2) (ls' := [some (.inr (.inr v0)), some (.inl v1), some (.inl (or_ v2 (sl_ 1 v3))), some (.inl v3)]) hC dX0_heldBy_30 rfl rfl (Nat.le_of_ble_eq_true rfl) rfl rfl ?_
      refine aw_iinc (pc' := 34) (ls' := [some (.inr (.inr v0)), some (.inl v1), some (.inl (or_ v2 (sl_ 1 v3))), some (.inl (w32 (v3 + 1)))]) hC dX0_heldBy_31 rfl rfl rfl rfl ?_
      refine aw_goto (tgt := 4) hC dX0_heldBy_34 (by decide) ?_
      refine aw_sub hC [some (.inr (.inr v0)), some (.inl v1), some (.inl (or_ v2 (sl_ 1 v3))), some (.inl (w32 (v3 + 1)))] ⟨rfl, ⟨rfl, ⟨rfl, ⟨rfl, trivial⟩⟩⟩⟩ (Nat.le_of_ble_eq_true rfl) ?_
      cases h
      exact hL _ rfl
set_option maxRecDepth 100000 in
set_option maxHeartbeats 4000000 in
theorem mX0_heldBy {sh : AwS} {M : AwM} {v0 : Int} {v1 : Int} {r : Int} (h : fX0_heldBy sh M v0 v1 = some r) : AMet yX0_heldBy cX0_heldBy 4 (some .int) 2 0 0 [.inr (.inr v0), .inl v1] sh M (some (.inl r)) sh M := by
  refine amet_of (by decide +kernel) (Nat.le_of_ble_eq_true rfl) (fun Γ hC => ?_)
  replace hC : AOK Γ RX0 cX0_heldBy 4 2 0 0 "heldBy" (some .int) := hC
  unfold fX0_heldBy at h
  refine aw_sub hC [some (.inr (.inr v0)), some (.inl v1), none, none] ⟨rfl, ⟨rfl, trivial⟩⟩ (Nat.le_of_ble_eq_true rfl) ?_
  refine aw_iconst (pc' := 1) hC dX0_heldBy_0 rfl (by decide) ?_
  refine aw_istore_n (pc' := 2) (i := 2) (ls' := [some (.inr (.inr v0)), some (.inl v1), some (.inl 0), none]) hC dX0_heldBy_1 rfl rfl (Nat.le_of_ble_eq_true rfl) rfl rfl ?_
  refine aw_iconst (pc' := 3) hC dX0_heldBy_2 rfl (by decide) ?_
  refine aw_istore_n (pc' := 4) (i := 3) (ls' := [some (.inr (.inr v0)), some (.inl v1), some (.inl 0), some (.inl 0)]) hC dX0_heldBy_3 rfl rfl (Nat.le_of_ble_eq_true rfl) rfl rfl ?_
  obtain ⟨tq8, q8, h⟩ := pb_s h
  refine aw_sub hC [some (.inr (.inr v0)), some (.inl v1), some (.inl 0), some (.inl 0)] ⟨rfl, ⟨rfl, ⟨rfl, ⟨rfl, trivial⟩⟩⟩⟩ (Nat.le_of_ble_eq_true rfl) ?_
  refine (lp_aw (p_X0_heldBy_L4 Γ sh M v0 v1 (fin_ Γ 0 0 (some (.inl r)) sh M)) (x_X0_heldBy_L4 Γ sh M v0 v1 (fin_ Γ 0 0 (some (.inl r)) sh M)) (w_X0_heldBy_L4 hC ) FU _ _ q8 ?_ : p_X0_heldBy_L4 Γ sh M v0 v1 (fin_ Γ 0 0 (some (.inl r)) sh M) (0, 0))
  replace h := u1_s h
  show AW Γ sh M 0 0 37 [none, none, some (.inl tq8), none] [] _
  refine aw_iload_n (pc' := 38) (i := 2) hC dX0_heldBy_37 rfl rfl rfl ?_
  cases h
  exact aw_iret hC dX0_heldBy_38 (Nat.le_of_ble_eq_true rfl) (Nat.le_of_ble_eq_true rfl)
-- CoinCircle$Circle.isUseless(I)Z
def fX0_isUseless_L8 (sh : AwS) (M : AwM) (v0 : Int) (v1 : Int) (v2 : Int) (v3 : Int) : Option ((Int) ⊕ ((Unit) ⊕ (Unit))) :=
  gd_ (kd_ sh v0 = (0, 0)) (pb (fX0_coins sh M v0) <| u1 fun (x6 : Int) => ((if v3 < x6 then pb (fX8_isIn sh M v2 v3) <| u1 fun (x9 : Int) => ((if x9 = 0 then some (.inl (w32 (v3 + 1))) else gd_ (kd_ sh (M v0 0) = (0, 3)) (gd_ ((kd_ sh (M (M v0 0) 2)).1 = 1 ∧ (0 : Int) ≤ v3 ∧ v3 < ((kd_ sh (M (M v0 0) 2)).2 : Int)) ((if (M (M (M v0 0) 2) v3) = (sl_ 1 v1) then some (.inl (w32 (v3 + 1))) else some (.inr (.inr ()))))))) else some (.inr (.inl ())))))
def p_X0_isUseless_L8 (Γ : AwC) (sh : AwS) (M : AwM) (v0 : Int) (v1 : Int) (v2 : Int) (Q : State → Prop) (s : Int) : Prop := AW Γ sh M 0 0 8 [some (.inr (.inr v0)), some (.inl v1), some (.inl v2), some (.inl (s))] [] Q
def x_X0_isUseless_L8 (Γ : AwC) (sh : AwS) (M : AwM) (v0 : Int) (v1 : Int) (v2 : Int) (Q : State → Prop) : ((Unit) ⊕ (Unit)) → Prop := (Sum.elim (fun (t : Unit) => AW Γ sh M 0 0 47 [none, none, some (.inl v2), none] [] Q) (fun (t : Unit) => AW Γ sh M 0 0 39 [none, none, none, none] [] Q))
def fX0_isUseless (sh : AwS) (M : AwM) (v0 : Int) (v1 : Int) : Option Int :=
  gd_ (kd_ sh v0 = (0, 0)) (pb (fX0_heldBy sh M v0 v1) <| u1 fun (x3 : Int) => (pb (lp (u1 (fX0_isUseless_L8 sh M v0 v1 x3)) FU 0) (Sum.elim (u0 ((if x3 = 0 then some 0 else some 1))) (u0 (some 0)))))
set_option maxRecDepth 100000 in
set_option maxHeartbeats 4000000 in
theorem w_X0_isUseless_L8 {Γ : AwC} (hC : AOK Γ RX0 cX0_isUseless 4 3 0 0 "isUseless" (some .boolean)) {sh : AwS} {M : AwM} {v0 : Int} {v1 : Int} {v2 : Int} {Q : State → Prop} : ∀ s r, u1 (fX0_isUseless_L8 sh M v0 v1 v2) s = some r → (∀ s', r = .inl s' → p_X0_isUseless_L8 Γ sh M v0 v1 v2 Q s') → (∀ t, r = .inr t → x_X0_isUseless_L8 Γ sh M v0 v1 v2 Q t) → p_X0_isUseless_L8 Γ sh M v0 v1 v2 Q s := by
  intro v3 r h hL hX
  replace h := u1_s h
  unfold fX0_isUseless_L8 at h
  show AW Γ sh M 0 0 8 [some (.inr (.inr v0)), some (.inl v1), some (.inl v2), some (.inl v3)] [] Q
  refine aw_iload_n (pc' := 9) (i := 3) hC dX0_isUseless_8 rfl rfl rfl ?_
  refine aw_aload_n (pc' := 10) (i := 0) hC dX0_isUseless_9 rfl rfl rfl ?_
  obtain ⟨g5, h⟩ := gd_s h
  obtain ⟨x6, q4, h⟩ := pb_s h
  replace h := u1_s h
  refine aw_cV (pc' := 13) (k2 := 0) (n2 := 0) (st := [.inl v3]) (stN := [.inl x6, .inl v3]) hC [] (mX0_coins q4) lk_X0_55 g5 dX0_isUseless_10 rfl rfl (Nat.le_of_ble_eq_true rfl) (Nat.le_of_ble_eq_true rfl) (Nat.le_of_ble_eq_true rfl) rfl (Nat.le_of_ble_eq_true rfl) rfl rfl rfl ?_
  refine aw_icmp_ge (tgt := 47) (pc' := 16) hC dX0_isUseless_13 (by decide) rfl (fun c7 => ?_) (fun c7 => ?_)
  · replace h := it_n c7 h
    refine aw_sub hC [none, none, some (.inl v2), none] ⟨rfl, trivial⟩ (Nat.le_of_ble_eq_true rfl) ?_
    cases h
    exact hX _ rfl
  · replace h := it_p c7 h
    refine aw_iload_n (pc' := 17) (i := 2) hC dX0_isUseless_16 rfl rfl rfl ?_
    refine aw_iload_n (pc' := 18) (i := 3) hC dX0_isUseless_17 rfl rfl rfl ?_
    obtain ⟨x9, q8, h⟩ := pb_s h
    replace h := u1_s h
    refine aw_cSN (pc' := 21) (k2 := 0) (n2 := 0) (st := []) (stN := [.inl x9]) hC [.inl v2, .inl v3] (mX8_isIn q8) lk_X0_51 dX0_isUseless_18 rfl rfl (Nat.le_of_ble_eq_true rfl) (Nat.le_of_ble_eq_true rfl) (Nat.le_of_ble_eq_true rfl) rfl (Nat.le_of_ble_eq_true rfl) rfl rfl rfl ?_
    refine aw_if_eq (tgt := 41) (pc' := 24) hC dX0_isUseless_21 (by decide) rfl (fun c10 => ?_) (fun c10 => ?_)
    · replace h := it_p c10 h
      refine aw_iinc (pc' := 44) (ls' := [some (.inr (.inr v0)), some (.inl v1), some (.inl v2), some (.inl (w32 (v3 + 1)))]) hC dX0_isUseless_41 rfl rfl rfl rfl ?_
      refine aw_goto (tgt := 8) hC dX0_isUseless_44 (by decide) ?_
      refine aw_sub hC [some (.inr (.inr v0)), some (.inl v1), some (.inl v2), some (.inl (w32 (v3 + 1)))] ⟨rfl, ⟨rfl, ⟨rfl, ⟨rfl, trivial⟩⟩⟩⟩ (Nat.le_of_ble_eq_true rfl) ?_
      cases h
      exact hL _ rfl
    · replace h := it_n c10 h
      refine aw_aload_n (pc' := 25) (i := 0) hC dX0_isUseless_24 rfl rfl rfl ?_
      refine aw_getfield (pc' := 28) (v := (.inr (.inr (M v0 0)))) hC dX0_isUseless_25 rfl fl_X0_12 g5 rfl ?_
      obtain ⟨g11, h⟩ := gd_s h
      refine aw_getfield (pc' := 31) (v := (.inr (.inr (M (M v0 0) 2)))) hC dX0_isUseless_28 rfl fl_X0_36 g11 rfl ?_
      refine aw_iload_n (pc' := 32) (i := 3) hC dX0_isUseless_31 rfl rfl rfl ?_
      obtain ⟨g12, h⟩ := gd_s h
      refine aw_iaload (pc' := 33) hC dX0_isUseless_32 rfl g12 ?_
      refine aw_iconst (pc' := 34) hC dX0_isUseless_33 rfl (by decide) ?_
      refine aw_iload_n (pc' := 35) (i := 1) hC dX0_isUseless_34 rfl rfl rfl ?_
      refine aw_ishl (pc' := 36) hC dX0_isUseless_35 rfl  ?_
      refine aw_icmp_eq (tgt := 41) (pc' := 39) hC dX0_isUseless_36 (by decide) rfl (fun c13 => ?_) (fun c13 => ?_)
      · replace h := it_p c13 h
        refine aw_iinc (pc' := 44) (ls' := [some (.inr (.inr v0)), some (.inl v1), some (.inl v2), some (.inl (w32 (v3 + 1)))]) hC dX0_isUseless_41 rfl rfl rfl rfl ?_
        refine aw_goto (tgt := 8) hC dX0_isUseless_44 (by decide) ?_
        refine aw_sub hC [some (.inr (.inr v0)), some (.inl v1), some (.inl v2), some (.inl (w32 (v3 + 1)))] ⟨rfl, ⟨rfl, ⟨rfl, ⟨rfl, trivial⟩⟩⟩⟩ (Nat.le_of_ble_eq_true rfl) ?_
        cases h
        exact hL _ rfl
      · replace h := it_n c13 h
        refine aw_sub hC [none, none, none, none] trivial (Nat.le_of_ble_eq_true rfl) ?_
        cases h
        exact hX _ rfl
set_option maxRecDepth 100000 in
set_option maxHeartbeats 4000000 in
theorem mX0_isUseless {sh : AwS} {M : AwM} {v0 : Int} {v1 : Int} {r : Int} (h : fX0_isUseless sh M v0 v1 = some r) : AMet yX0_isUseless cX0_isUseless 4 (some .boolean) 3 0 0 [.inr (.inr v0), .inl v1] sh M (some (.inl r)) sh M := by
  refine amet_of (by decide +kernel) (Nat.le_of_ble_eq_true rfl) (fun Γ hC => ?_)
  replace hC : AOK Γ RX0 cX0_isUseless 4 3 0 0 "isUseless" (some .boolean) := hC
  unfold fX0_isUseless at h
  refine aw_sub hC [some (.inr (.inr v0)), some (.inl v1), none, none] ⟨rfl, ⟨rfl, trivial⟩⟩ (Nat.le_of_ble_eq_true rfl) ?_
  refine aw_aload_n (pc' := 1) (i := 0) hC dX0_isUseless_0 rfl rfl rfl ?_
  refine aw_iload_n (pc' := 2) (i := 1) hC dX0_isUseless_1 rfl rfl rfl ?_
  obtain ⟨g2, h⟩ := gd_s h
  obtain ⟨x3, q1, h⟩ := pb_s h
  replace h := u1_s h
  refine aw_cV (pc' := 5) (k2 := 0) (n2 := 0) (st := []) (stN := [.inl x3]) hC [.inl v1] (mX0_heldBy q1) lk_X0_74 g2 dX0_isUseless_2 rfl rfl (Nat.le_of_ble_eq_true rfl) (Nat.le_of_ble_eq_true rfl) (Nat.le_of_ble_eq_true rfl) rfl (Nat.le_of_ble_eq_true rfl) rfl rfl rfl ?_
  refine aw_istore_n (pc' := 6) (i := 2) (ls' := [some (.inr (.inr v0)), some (.inl v1), some (.inl x3), none]) hC dX0_isUseless_5 rfl rfl (Nat.le_of_ble_eq_true rfl) rfl rfl ?_
  refine aw_iconst (pc' := 7) hC dX0_isUseless_6 rfl (by decide) ?_
  refine aw_istore_n (pc' := 8) (i := 3) (ls' := [some (.inr (.inr v0)), some (.inl v1), some (.inl x3), some (.inl 0)]) hC dX0_isUseless_7 rfl rfl (Nat.le_of_ble_eq_true rfl) rfl rfl ?_
  obtain ⟨tq14, q14, h⟩ := pb_s h
  refine aw_sub hC [some (.inr (.inr v0)), some (.inl v1), some (.inl x3), some (.inl 0)] ⟨rfl, ⟨rfl, ⟨rfl, ⟨rfl, trivial⟩⟩⟩⟩ (Nat.le_of_ble_eq_true rfl) ?_
  refine (lp_aw (p_X0_isUseless_L8 Γ sh M v0 v1 x3 (fin_ Γ 0 0 (some (.inl r)) sh M)) (x_X0_isUseless_L8 Γ sh M v0 v1 x3 (fin_ Γ 0 0 (some (.inl r)) sh M)) (w_X0_isUseless_L8 hC ) FU _ _ q14 ?_ : p_X0_isUseless_L8 Γ sh M v0 v1 x3 (fin_ Γ 0 0 (some (.inl r)) sh M) 0)
  rcases tq14 with tq14 | tq14
  · replace h := se_l h
    cases tq14
    replace h := u0_s h
    show AW Γ sh M 0 0 47 [none, none, some (.inl x3), none] [] _
    refine aw_iload_n (pc' := 48) (i := 2) hC dX0_isUseless_47 rfl rfl rfl ?_
    refine aw_if_eq (tgt := 55) (pc' := 51) hC dX0_isUseless_48 (by decide) rfl (fun c15 => ?_) (fun c15 => ?_)
    · replace h := it_p c15 h
      refine aw_iconst (pc' := 56) hC dX0_isUseless_55 rfl (by decide) ?_
      cases h
      exact aw_zret hC (Or.inl rfl) dX0_isUseless_56 (Nat.le_of_ble_eq_true rfl) (Nat.le_of_ble_eq_true rfl)
    · replace h := it_n c15 h
      refine aw_iconst (pc' := 52) hC dX0_isUseless_51 rfl (by decide) ?_
      refine aw_goto (tgt := 56) hC dX0_isUseless_52 (by decide) ?_
      cases h
      exact aw_zret hC (Or.inr rfl) dX0_isUseless_56 (Nat.le_of_ble_eq_true rfl) (Nat.le_of_ble_eq_true rfl)
  · replace h := se_r h
    cases tq14
    replace h := u0_s h
    show AW Γ sh M 0 0 39 [none, none, none, none] [] _
    refine aw_iconst (pc' := 40) hC dX0_isUseless_39 rfl (by decide) ?_
    cases h
    exact aw_zret hC (Or.inl rfl) dX0_isUseless_40 (Nat.le_of_ble_eq_true rfl) (Nat.le_of_ble_eq_true rfl)
-- CoinCircle$Circle.uselessPurses()I
def fX0_uselessPurses_L4 (sh : AwS) (M : AwM) (v0 : Int) (v1 : Int) (v2 : Int) : Option ((Int × Int) ⊕ (Int)) :=
  gd_ (kd_ sh v0 = (0, 0)) (gd_ (kd_ sh (M v0 1) = (0, 5)) (gd_ ((kd_ sh (M (M v0 1) 0)).1 = 1 ∧ (0 : Int) ≤ 0 ∧ 0 < ((kd_ sh (M (M v0 1) 0)).2 : Int)) ((if v2 < (M (M (M v0 1) 0) 0) then pb (fX0_isUseless sh M v0 v2) <| u1 fun (x6 : Int) => ((if x6 = 0 then some (.inl (v1, (w32 (v2 + 1)))) else some (.inl ((or_ v1 (sl_ 1 v2)), (w32 (v2 + 1)))))) else some (.inr v1)))))
def p_X0_uselessPurses_L4 (Γ : AwC) (sh : AwS) (M : AwM) (v0 : Int) (Q : State → Prop) (s : Int × Int) : Prop := AW Γ sh M 0 0 4 [some (.inr (.inr v0)), some (.inl (s.1)), some (.inl (s.2))] [] Q
def x_X0_uselessPurses_L4 (Γ : AwC) (sh : AwS) (M : AwM) (v0 : Int) (Q : State → Prop) : (Int) → Prop := (fun (t : Int) => AW Γ sh M 0 0 37 [none, some (.inl (t)), none] [] Q)
def fX0_uselessPurses (sh : AwS) (M : AwM) (v0 : Int) : Option Int :=
  pb (lp (u2 (fX0_uselessPurses_L4 sh M v0)) FU (0, 0)) (u1 (fun (tq8 : Int) => some tq8))
set_option maxRecDepth 100000 in
set_option maxHeartbeats 4000000 in
theorem w_X0_uselessPurses_L4 {Γ : AwC} (hC : AOK Γ RX0 cX0_uselessPurses 3 4 0 0 "uselessPurses" (some .int)) {sh : AwS} {M : AwM} {v0 : Int} {Q : State → Prop} : ∀ s r, u2 (fX0_uselessPurses_L4 sh M v0) s = some r → (∀ s', r = .inl s' → p_X0_uselessPurses_L4 Γ sh M v0 Q s') → (∀ t, r = .inr t → x_X0_uselessPurses_L4 Γ sh M v0 Q t) → p_X0_uselessPurses_L4 Γ sh M v0 Q s := by
  intro s r h hL hX
  obtain ⟨v1, v2⟩ := s
  replace h := u2_s h
  unfold fX0_uselessPurses_L4 at h
  show AW Γ sh M 0 0 4 [some (.inr (.inr v0)), some (.inl v1), some (.inl v2)] [] Q
  refine aw_iload_n (pc' := 5) (i := 2) hC dX0_uselessPurses_4 rfl rfl rfl ?_
  refine aw_aload_n (pc' := 6) (i := 0) hC dX0_uselessPurses_5 rfl rfl rfl ?_
  obtain ⟨g1, h⟩ := gd_s h
  refine aw_getfield (pc' := 9) (v := (.inr (.inr (M v0 1)))) hC dX0_uselessPurses_6 rfl fl_X0_22 g1 rfl ?_
  obtain ⟨g2, h⟩ := gd_s h
  refine aw_getfield (pc' := 12) (v := (.inr (.inr (M (M v0 1) 0)))) hC dX0_uselessPurses_9 rfl fl_X0_48 g2 rfl ?_
  refine aw_iconst (pc' := 13) hC dX0_uselessPurses_12 rfl (by decide) ?_
  obtain ⟨g3, h⟩ := gd_s h
  refine aw_iaload (pc' := 14) hC dX0_uselessPurses_13 rfl g3 ?_
  refine aw_icmp_ge (tgt := 37) (pc' := 17) hC dX0_uselessPurses_14 (by decide) rfl (fun c4 => ?_) (fun c4 => ?_)
  · replace h := it_n c4 h
    refine aw_sub hC [none, some (.inl v1), none] ⟨rfl, trivial⟩ (Nat.le_of_ble_eq_true rfl) ?_
    cases h
    exact hX _ rfl
  · replace h := it_p c4 h
    refine aw_aload_n (pc' := 18) (i := 0) hC dX0_uselessPurses_17 rfl rfl rfl ?_
    refine aw_iload_n (pc' := 19) (i := 2) hC dX0_uselessPurses_18 rfl rfl rfl ?_
    obtain ⟨x6, q5, h⟩ := pb_s h
    replace h := u1_s h
    refine aw_cV (pc' := 22) (k2 := 0) (n2 := 0) (st := []) (stN := [.inl x6]) hC [.inl v2] (mX0_isUseless q5) lk_X0_77 g1 dX0_uselessPurses_19 rfl rfl (Nat.le_of_ble_eq_true rfl) (Nat.le_of_ble_eq_true rfl) (Nat.le_of_ble_eq_true rfl) rfl (Nat.le_of_ble_eq_true rfl) rfl rfl rfl ?_
    refine aw_if_eq (tgt := 31) (pc' := 25) hC dX0_uselessPurses_22 (by decide) rfl (fun c7 => ?_) (fun c7 => ?_)
    · replace h := it_p c7 h
      refine aw_iinc (pc' := 34) (ls' := [some (.inr (.inr v0)), some (.inl v1), some (.inl (w32 (v2 + 1)))]) hC dX0_uselessPurses_31 rfl rfl rfl rfl ?_
      refine aw_goto (tgt := 4) hC dX0_uselessPurses_34 (by decide) ?_
      refine aw_sub hC [some (.inr (.inr v0)), some (.inl v1), some (.inl (w32 (v2 + 1)))] ⟨rfl, ⟨rfl, ⟨rfl, trivial⟩⟩⟩ (Nat.le_of_ble_eq_true rfl) ?_
      cases h
      exact hL _ rfl
    · replace h := it_n c7 h
      refine aw_iload_n (pc' := 26) (i := 1) hC dX0_uselessPurses_25 rfl rfl rfl ?_
      refine aw_iconst (pc' := 27) hC dX0_uselessPurses_26 rfl (by decide) ?_
      refine aw_iload_n (pc' := 28) (i := 2) hC dX0_uselessPurses_27 rfl rfl rfl ?_
      refine aw_ishl (pc' := 29) hC dX0_uselessPurses_28 rfl  ?_
      refine aw_ior (pc' := 30) hC dX0_uselessPurses_29 rfl  ?_
      refine aw_istore_n (pc' := 31) (i := 1) (ls' := [some (.inr (.inr v0)), some (.inl (or_ v1 (sl_ 1 v2))), some (.inl v2)]) hC dX0_uselessPurses_30 rfl rfl (Nat.le_of_ble_eq_true rfl) rfl rfl ?_
      refine aw_iinc (pc' := 34) (ls' := [some (.inr (.inr v0)), some (.inl (or_ v1 (sl_ 1 v2))), some (.inl (w32 (v2 + 1)))]) hC dX0_uselessPurses_31 rfl rfl rfl rfl ?_
      refine aw_goto (tgt := 4) hC dX0_uselessPurses_34 (by decide) ?_
      refine aw_sub hC [some (.inr (.inr v0)), some (.inl (or_ v1 (sl_ 1 v2))), some (.inl (w32 (v2 + 1)))] ⟨rfl, ⟨rfl, ⟨rfl, trivial⟩⟩⟩ (Nat.le_of_ble_eq_true rfl) ?_
      cases h
      exact hL _ rfl
set_option maxRecDepth 100000 in
set_option maxHeartbeats 4000000 in
theorem mX0_uselessPurses {sh : AwS} {M : AwM} {v0 : Int} {r : Int} (h : fX0_uselessPurses sh M v0 = some r) : AMet yX0_uselessPurses cX0_uselessPurses 3 (some .int) 4 0 0 [.inr (.inr v0)] sh M (some (.inl r)) sh M := by
  refine amet_of (by decide +kernel) (Nat.le_of_ble_eq_true rfl) (fun Γ hC => ?_)
  replace hC : AOK Γ RX0 cX0_uselessPurses 3 4 0 0 "uselessPurses" (some .int) := hC
  unfold fX0_uselessPurses at h
  refine aw_sub hC [some (.inr (.inr v0)), none, none] ⟨rfl, trivial⟩ (Nat.le_of_ble_eq_true rfl) ?_
  refine aw_iconst (pc' := 1) hC dX0_uselessPurses_0 rfl (by decide) ?_
  refine aw_istore_n (pc' := 2) (i := 1) (ls' := [some (.inr (.inr v0)), some (.inl 0), none]) hC dX0_uselessPurses_1 rfl rfl (Nat.le_of_ble_eq_true rfl) rfl rfl ?_
  refine aw_iconst (pc' := 3) hC dX0_uselessPurses_2 rfl (by decide) ?_
  refine aw_istore_n (pc' := 4) (i := 2) (ls' := [some (.inr (.inr v0)), some (.inl 0), some (.inl 0)]) hC dX0_uselessPurses_3 rfl rfl (Nat.le_of_ble_eq_true rfl) rfl rfl ?_
  obtain ⟨tq8, q8, h⟩ := pb_s h
  refine aw_sub hC [some (.inr (.inr v0)), some (.inl 0), some (.inl 0)] ⟨rfl, ⟨rfl, ⟨rfl, trivial⟩⟩⟩ (Nat.le_of_ble_eq_true rfl) ?_
  refine (lp_aw (p_X0_uselessPurses_L4 Γ sh M v0 (fin_ Γ 0 0 (some (.inl r)) sh M)) (x_X0_uselessPurses_L4 Γ sh M v0 (fin_ Γ 0 0 (some (.inl r)) sh M)) (w_X0_uselessPurses_L4 hC ) FU _ _ q8 ?_ : p_X0_uselessPurses_L4 Γ sh M v0 (fin_ Γ 0 0 (some (.inl r)) sh M) (0, 0))
  replace h := u1_s h
  show AW Γ sh M 0 0 37 [none, some (.inl tq8), none] [] _
  refine aw_iload_n (pc' := 38) (i := 1) hC dX0_uselessPurses_37 rfl rfl rfl ?_
  cases h
  exact aw_iret hC dX0_uselessPurses_38 (Nat.le_of_ble_eq_true rfl) (Nat.le_of_ble_eq_true rfl)
-- CoinCircle.has(I)I
def fX8_has (sh : AwS) (M : AwM) (v0 : Int) (v1 : Int) : Option Int :=
  (if v1 = 0 then gd_ (kd_ sh v0 = (0, 8)) (gd_ (kd_ sh (M v0 3) = (0, 5)) (gd_ ((kd_ sh (M (M v0 3) 0)).1 = 1 ∧ (0 : Int) ≤ 0 ∧ 0 < ((kd_ sh (M (M v0 3) 0)).2 : Int)) (some (M (M (M v0 3) 0) 0)))) else (if v1 = 1 then gd_ (kd_ sh v0 = (0, 8)) (gd_ (kd_ sh (M v0 3) = (0, 5)) (gd_ ((kd_ sh (M (M v0 3) 0)).1 = 1 ∧ (0 : Int) ≤ 1 ∧ 1 < ((kd_ sh (M (M v0 3) 0)).2 : Int)) (some (M (M (M v0 3) 0) 1)))) else (if v1 = 2 then gd_ (kd_ sh v0 = (0, 8)) (gd_ (kd_ sh (M v0 3) = (0, 5)) (gd_ ((kd_ sh (M (M v0 3) 0)).1 = 1 ∧ (0 : Int) ≤ 2 ∧ 2 < ((kd_ sh (M (M v0 3) 0)).2 : Int)) (some (M (M (M v0 3) 0) 2)))) else (if v1 = 3 then gd_ (kd_ sh v0 = (0, 8)) (gd_ (kd_ sh (M v0 3) = (0, 5)) (some (M (M v0 3) 11))) else (if v1 = 4 then gd_ (kd_ sh v0 = (0, 8)) (gd_ (kd_ sh (M v0 3) = (0, 5)) (some (M (M v0 3) 12))) else (if v1 = 5 then gd_ (kd_ sh v0 = (0, 8)) (gd_ (kd_ sh (M v0 4) = (0, 0)) (gd_ (kd_ sh (M (M v0 4) 0) = (0, 3)) (some (M (M (M v0 4) 0) 0)))) else (if v1 = 6 then gd_ (kd_ sh v0 = (0, 8)) (gd_ (kd_ sh (M v0 4) = (0, 0)) (pb (fX0_flow sh M (M v0 4)) <| u1 fun (x32 : Int) => (some x32))) else (if v1 = 7 then gd_ (kd_ sh v0 = (0, 8)) (gd_ (kd_ sh (M v0 4) = (0, 0)) (pb (fX0_snubCount sh M (M v0 4)) <| u1 fun (x36 : Int) => (some x36))) else (if v1 = 8 then gd_ (kd_ sh v0 = (0, 8)) (gd_ (kd_ sh (M v0 4) = (0, 0)) (pb (fX0_knowingAllCount sh M (M v0 4)) <| u1 fun (x40 : Int) => (some x40))) else (if v1 = 9 then gd_ (kd_ sh v0 = (0, 8)) (gd_ (kd_ sh (M v0 4) = (0, 0)) (pb (fX0_uselessPurses sh M (M v0 4)) <| u1 fun (x44 : Int) => (some x44))) else (if v1 = 10 then gd_ (kd_ sh v0 = (0, 8)) (gd_ (kd_ sh (M v0 6) = (0, 2)) (some (M (M v0 6) 2))) else (if v1 = 11 then gd_ (kd_ sh v0 = (0, 8)) (some (M v0 13)) else some (-1)))))))))))))
set_option maxRecDepth 100000 in
set_option maxHeartbeats 4000000 in
theorem mX8_has {sh : AwS} {M : AwM} {v0 : Int} {v1 : Int} {r : Int} (h : fX8_has sh M v0 v1 = some r) : AMet yX8_has cX8_has 2 (some .int) 5 0 0 [.inr (.inr v0), .inl v1] sh M (some (.inl r)) sh M := by
  refine amet_of (by decide +kernel) (Nat.le_of_ble_eq_true rfl) (fun Γ hC => ?_)
  replace hC : AOK Γ RX8 cX8_has 2 5 0 0 "has" (some .int) := hC
  unfold fX8_has at h
  refine aw_sub hC [some (.inr (.inr v0)), some (.inl v1)] ⟨rfl, ⟨rfl, trivial⟩⟩ (Nat.le_of_ble_eq_true rfl) ?_
  refine aw_iload_n (pc' := 1) (i := 1) hC dX8_has_0 rfl rfl rfl ?_
  by_cases c1 : v1 = 0
  · replace h := it_p c1 h
    refine aw_tsIn (tgt := 64) (off := 63) hC dX8_has_1 ⟨by omega, by omega, by rw [c1]; rfl⟩ (by decide) ?_
    refine aw_aload_n (pc' := 65) (i := 0) hC dX8_has_64 rfl rfl rfl ?_
    obtain ⟨g13, h⟩ := gd_s h
    refine aw_getfield (pc' := 68) (v := (.inr (.inr (M v0 3)))) hC dX8_has_65 rfl fl_X8_51 g13 rfl ?_
    obtain ⟨g14, h⟩ := gd_s h
    refine aw_getfield (pc' := 71) (v := (.inr (.inr (M (M v0 3) 0)))) hC dX8_has_68 rfl fl_X8_101 g14 rfl ?_
    refine aw_iconst (pc' := 72) hC dX8_has_71 rfl (by decide) ?_
    obtain ⟨g15, h⟩ := gd_s h
    refine aw_iaload (pc' := 73) hC dX8_has_72 rfl g15 ?_
    cases h
    exact aw_iret hC dX8_has_73 (Nat.le_of_ble_eq_true rfl) (Nat.le_of_ble_eq_true rfl)
  · replace h := it_n c1 h
    by_cases c2 : v1 = 1
    · replace h := it_p c2 h
      refine aw_tsIn (tgt := 74) (off := 73) hC dX8_has_1 ⟨by omega, by omega, by rw [c2]; rfl⟩ (by decide) ?_
      refine aw_aload_n (pc' := 75) (i := 0) hC dX8_has_74 rfl rfl rfl ?_
      obtain ⟨g16, h⟩ := gd_s h
      refine aw_getfield (pc' := 78) (v := (.inr (.inr (M v0 3)))) hC dX8_has_75 rfl fl_X8_51 g16 rfl ?_
      obtain ⟨g17, h⟩ := gd_s h
      refine aw_getfield (pc' := 81) (v := (.inr (.inr (M (M v0 3) 0)))) hC dX8_has_78 rfl fl_X8_101 g17 rfl ?_
      refine aw_iconst (pc' := 82) hC dX8_has_81 rfl (by decide) ?_
      obtain ⟨g18, h⟩ := gd_s h
      refine aw_iaload (pc' := 83) hC dX8_has_82 rfl g18 ?_
      cases h
      exact aw_iret hC dX8_has_83 (Nat.le_of_ble_eq_true rfl) (Nat.le_of_ble_eq_true rfl)
    · replace h := it_n c2 h
      by_cases c3 : v1 = 2
      · replace h := it_p c3 h
        refine aw_tsIn (tgt := 84) (off := 83) hC dX8_has_1 ⟨by omega, by omega, by rw [c3]; rfl⟩ (by decide) ?_
        refine aw_aload_n (pc' := 85) (i := 0) hC dX8_has_84 rfl rfl rfl ?_
        obtain ⟨g19, h⟩ := gd_s h
        refine aw_getfield (pc' := 88) (v := (.inr (.inr (M v0 3)))) hC dX8_has_85 rfl fl_X8_51 g19 rfl ?_
        obtain ⟨g20, h⟩ := gd_s h
        refine aw_getfield (pc' := 91) (v := (.inr (.inr (M (M v0 3) 0)))) hC dX8_has_88 rfl fl_X8_101 g20 rfl ?_
        refine aw_iconst (pc' := 92) hC dX8_has_91 rfl (by decide) ?_
        obtain ⟨g21, h⟩ := gd_s h
        refine aw_iaload (pc' := 93) hC dX8_has_92 rfl g21 ?_
        cases h
        exact aw_iret hC dX8_has_93 (Nat.le_of_ble_eq_true rfl) (Nat.le_of_ble_eq_true rfl)
      · replace h := it_n c3 h
        by_cases c4 : v1 = 3
        · replace h := it_p c4 h
          refine aw_tsIn (tgt := 94) (off := 93) hC dX8_has_1 ⟨by omega, by omega, by rw [c4]; rfl⟩ (by decide) ?_
          refine aw_aload_n (pc' := 95) (i := 0) hC dX8_has_94 rfl rfl rfl ?_
          obtain ⟨g22, h⟩ := gd_s h
          refine aw_getfield (pc' := 98) (v := (.inr (.inr (M v0 3)))) hC dX8_has_95 rfl fl_X8_51 g22 rfl ?_
          obtain ⟨g23, h⟩ := gd_s h
          refine aw_getfield (pc' := 101) (v := (.inl (M (M v0 3) 11))) hC dX8_has_98 rfl fl_X8_104 g23 rfl ?_
          cases h
          exact aw_iret hC dX8_has_101 (Nat.le_of_ble_eq_true rfl) (Nat.le_of_ble_eq_true rfl)
        · replace h := it_n c4 h
          by_cases c5 : v1 = 4
          · replace h := it_p c5 h
            refine aw_tsIn (tgt := 102) (off := 101) hC dX8_has_1 ⟨by omega, by omega, by rw [c5]; rfl⟩ (by decide) ?_
            refine aw_aload_n (pc' := 103) (i := 0) hC dX8_has_102 rfl rfl rfl ?_
            obtain ⟨g24, h⟩ := gd_s h
            refine aw_getfield (pc' := 106) (v := (.inr (.inr (M v0 3)))) hC dX8_has_103 rfl fl_X8_51 g24 rfl ?_
            obtain ⟨g25, h⟩ := gd_s h
            refine aw_getfield (pc' := 109) (v := (.inl (M (M v0 3) 12))) hC dX8_has_106 rfl fl_X8_107 g25 rfl ?_
            cases h
            exact aw_iret hC dX8_has_109 (Nat.le_of_ble_eq_true rfl) (Nat.le_of_ble_eq_true rfl)
          · replace h := it_n c5 h
            by_cases c6 : v1 = 5
            · replace h := it_p c6 h
              refine aw_tsIn (tgt := 110) (off := 109) hC dX8_has_1 ⟨by omega, by omega, by rw [c6]; rfl⟩ (by decide) ?_
              refine aw_aload_n (pc' := 111) (i := 0) hC dX8_has_110 rfl rfl rfl ?_
              obtain ⟨g26, h⟩ := gd_s h
              refine aw_getfield (pc' := 114) (v := (.inr (.inr (M v0 4)))) hC dX8_has_111 rfl fl_X8_60 g26 rfl ?_
              obtain ⟨g27, h⟩ := gd_s h
              refine aw_getfield (pc' := 117) (v := (.inr (.inr (M (M v0 4) 0)))) hC dX8_has_114 rfl fl_X8_110 g27 rfl ?_
              obtain ⟨g28, h⟩ := gd_s h
              refine aw_getfield (pc' := 120) (v := (.inl (M (M (M v0 4) 0) 0))) hC dX8_has_117 rfl fl_X8_114 g28 rfl ?_
              cases h
              exact aw_iret hC dX8_has_120 (Nat.le_of_ble_eq_true rfl) (Nat.le_of_ble_eq_true rfl)
            · replace h := it_n c6 h
              by_cases c7 : v1 = 6
              · replace h := it_p c7 h
                refine aw_tsIn (tgt := 121) (off := 120) hC dX8_has_1 ⟨by omega, by omega, by rw [c7]; rfl⟩ (by decide) ?_
                refine aw_aload_n (pc' := 122) (i := 0) hC dX8_has_121 rfl rfl rfl ?_
                obtain ⟨g29, h⟩ := gd_s h
                refine aw_getfield (pc' := 125) (v := (.inr (.inr (M v0 4)))) hC dX8_has_122 rfl fl_X8_60 g29 rfl ?_
                obtain ⟨g31, h⟩ := gd_s h
                obtain ⟨x32, q30, h⟩ := pb_s h
                replace h := u1_s h
                refine aw_cV (pc' := 128) (k2 := 0) (n2 := 0) (st := []) (stN := [.inl x32]) hC [] (mX0_flow q30) lk_X8_119 g31 dX8_has_125 rfl rfl (Nat.le_of_ble_eq_true rfl) (Nat.le_of_ble_eq_true rfl) (Nat.le_of_ble_eq_true rfl) rfl (Nat.le_of_ble_eq_true rfl) rfl rfl rfl ?_
                cases h
                exact aw_iret hC dX8_has_128 (Nat.le_of_ble_eq_true rfl) (Nat.le_of_ble_eq_true rfl)
              · replace h := it_n c7 h
                by_cases c8 : v1 = 7
                · replace h := it_p c8 h
                  refine aw_tsIn (tgt := 129) (off := 128) hC dX8_has_1 ⟨by omega, by omega, by rw [c8]; rfl⟩ (by decide) ?_
                  refine aw_aload_n (pc' := 130) (i := 0) hC dX8_has_129 rfl rfl rfl ?_
                  obtain ⟨g33, h⟩ := gd_s h
                  refine aw_getfield (pc' := 133) (v := (.inr (.inr (M v0 4)))) hC dX8_has_130 rfl fl_X8_60 g33 rfl ?_
                  obtain ⟨g35, h⟩ := gd_s h
                  obtain ⟨x36, q34, h⟩ := pb_s h
                  replace h := u1_s h
                  refine aw_cV (pc' := 136) (k2 := 0) (n2 := 0) (st := []) (stN := [.inl x36]) hC [] (mX0_snubCount q34) lk_X8_123 g35 dX8_has_133 rfl rfl (Nat.le_of_ble_eq_true rfl) (Nat.le_of_ble_eq_true rfl) (Nat.le_of_ble_eq_true rfl) rfl (Nat.le_of_ble_eq_true rfl) rfl rfl rfl ?_
                  cases h
                  exact aw_iret hC dX8_has_136 (Nat.le_of_ble_eq_true rfl) (Nat.le_of_ble_eq_true rfl)
                · replace h := it_n c8 h
                  by_cases c9 : v1 = 8
                  · replace h := it_p c9 h
                    refine aw_tsIn (tgt := 137) (off := 136) hC dX8_has_1 ⟨by omega, by omega, by rw [c9]; rfl⟩ (by decide) ?_
                    refine aw_aload_n (pc' := 138) (i := 0) hC dX8_has_137 rfl rfl rfl ?_
                    obtain ⟨g37, h⟩ := gd_s h
                    refine aw_getfield (pc' := 141) (v := (.inr (.inr (M v0 4)))) hC dX8_has_138 rfl fl_X8_60 g37 rfl ?_
                    obtain ⟨g39, h⟩ := gd_s h
                    obtain ⟨x40, q38, h⟩ := pb_s h
                    replace h := u1_s h
                    refine aw_cV (pc' := 144) (k2 := 0) (n2 := 0) (st := []) (stN := [.inl x40]) hC [] (mX0_knowingAllCount q38) lk_X8_126 g39 dX8_has_141 rfl rfl (Nat.le_of_ble_eq_true rfl) (Nat.le_of_ble_eq_true rfl) (Nat.le_of_ble_eq_true rfl) rfl (Nat.le_of_ble_eq_true rfl) rfl rfl rfl ?_
                    cases h
                    exact aw_iret hC dX8_has_144 (Nat.le_of_ble_eq_true rfl) (Nat.le_of_ble_eq_true rfl)
                  · replace h := it_n c9 h
                    by_cases c10 : v1 = 9
                    · replace h := it_p c10 h
                      refine aw_tsIn (tgt := 145) (off := 144) hC dX8_has_1 ⟨by omega, by omega, by rw [c10]; rfl⟩ (by decide) ?_
                      refine aw_aload_n (pc' := 146) (i := 0) hC dX8_has_145 rfl rfl rfl ?_
                      obtain ⟨g41, h⟩ := gd_s h
                      refine aw_getfield (pc' := 149) (v := (.inr (.inr (M v0 4)))) hC dX8_has_146 rfl fl_X8_60 g41 rfl ?_
                      obtain ⟨g43, h⟩ := gd_s h
                      obtain ⟨x44, q42, h⟩ := pb_s h
                      replace h := u1_s h
                      refine aw_cV (pc' := 152) (k2 := 0) (n2 := 0) (st := []) (stN := [.inl x44]) hC [] (mX0_uselessPurses q42) lk_X8_129 g43 dX8_has_149 rfl rfl (Nat.le_of_ble_eq_true rfl) (Nat.le_of_ble_eq_true rfl) (Nat.le_of_ble_eq_true rfl) rfl (Nat.le_of_ble_eq_true rfl) rfl rfl rfl ?_
                      cases h
                      exact aw_iret hC dX8_has_152 (Nat.le_of_ble_eq_true rfl) (Nat.le_of_ble_eq_true rfl)
                    · replace h := it_n c10 h
                      by_cases c11 : v1 = 10
                      · replace h := it_p c11 h
                        refine aw_tsIn (tgt := 153) (off := 152) hC dX8_has_1 ⟨by omega, by omega, by rw [c11]; rfl⟩ (by decide) ?_
                        refine aw_aload_n (pc' := 154) (i := 0) hC dX8_has_153 rfl rfl rfl ?_
                        obtain ⟨g45, h⟩ := gd_s h
                        refine aw_getfield (pc' := 157) (v := (.inr (.inr (M v0 6)))) hC dX8_has_154 rfl fl_X8_23 g45 rfl ?_
                        obtain ⟨g46, h⟩ := gd_s h
                        refine aw_getfield (pc' := 160) (v := (.inl (M (M v0 6) 2))) hC dX8_has_157 rfl fl_X8_132 g46 rfl ?_
                        cases h
                        exact aw_iret hC dX8_has_160 (Nat.le_of_ble_eq_true rfl) (Nat.le_of_ble_eq_true rfl)
                      · replace h := it_n c11 h
                        by_cases c12 : v1 = 11
                        · replace h := it_p c12 h
                          refine aw_tsIn (tgt := 161) (off := 160) hC dX8_has_1 ⟨by omega, by omega, by rw [c12]; rfl⟩ (by decide) ?_
                          refine aw_aload_n (pc' := 162) (i := 0) hC dX8_has_161 rfl rfl rfl ?_
                          obtain ⟨g47, h⟩ := gd_s h
                          refine aw_getfield (pc' := 165) (v := (.inl (M v0 13))) hC dX8_has_162 rfl fl_X8_44 g47 rfl ?_
                          cases h
                          exact aw_iret hC dX8_has_165 (Nat.le_of_ble_eq_true rfl) (Nat.le_of_ble_eq_true rfl)
                        · replace h := it_n c12 h
                          refine aw_tsOut (tgt := 166) hC dX8_has_1 (by omega) (by decide) ?_
                          refine aw_iconst (pc' := 167) hC dX8_has_166 rfl (by decide) ?_
                          cases h
                          exact aw_iret hC dX8_has_167 (Nat.le_of_ble_eq_true rfl) (Nat.le_of_ble_eq_true rfl)
-- CoinCircle$Society.nameOf(II)I
def fX5_nameOf (sh : AwS) (M : AwM) (v0 : Int) (v1 : Int) (v2 : Int) : Option Int :=
  gd_ (kd_ sh v0 = (0, 5)) (pb (fX5_isThere sh M v0 v1 v2) <| u1 fun (x3 : Int) => ((if x3 = 0 then some 0 else gd_ ((kd_ sh (M v0 1)).1 = 1 ∧ (0 : Int) ≤ (w32 ((w32 (v1 * 12)) + v2)) ∧ (w32 ((w32 (v1 * 12)) + v2)) < ((kd_ sh (M v0 1)).2 : Int)) (some (M (M v0 1) (w32 ((w32 (v1 * 12)) + v2)))))))
set_option maxRecDepth 100000 in
set_option maxHeartbeats 4000000 in
theorem mX5_nameOf {sh : AwS} {M : AwM} {v0 : Int} {v1 : Int} {v2 : Int} {r : Int} (h : fX5_nameOf sh M v0 v1 v2 = some r) : AMet yX5_nameOf cX5_nameOf 3 (some .int) 2 0 0 [.inr (.inr v0), .inl v1, .inl v2] sh M (some (.inl r)) sh M := by
  refine amet_of (by decide +kernel) (Nat.le_of_ble_eq_true rfl) (fun Γ hC => ?_)
  replace hC : AOK Γ RX5 cX5_nameOf 3 2 0 0 "nameOf" (some .int) := hC
  unfold fX5_nameOf at h
  refine aw_sub hC [some (.inr (.inr v0)), some (.inl v1), some (.inl v2)] ⟨rfl, ⟨rfl, ⟨rfl, trivial⟩⟩⟩ (Nat.le_of_ble_eq_true rfl) ?_
  refine aw_aload_n (pc' := 1) (i := 0) hC dX5_nameOf_0 rfl rfl rfl ?_
  refine aw_iload_n (pc' := 2) (i := 1) hC dX5_nameOf_1 rfl rfl rfl ?_
  refine aw_iload_n (pc' := 3) (i := 2) hC dX5_nameOf_2 rfl rfl rfl ?_
  obtain ⟨g2, h⟩ := gd_s h
  obtain ⟨x3, q1, h⟩ := pb_s h
  replace h := u1_s h
  refine aw_cV (pc' := 6) (k2 := 0) (n2 := 0) (st := []) (stN := [.inl x3]) hC [.inl v1, .inl v2] (mX5_isThere q1) lk_X5_63 g2 dX5_nameOf_3 rfl rfl (Nat.le_of_ble_eq_true rfl) (Nat.le_of_ble_eq_true rfl) (Nat.le_of_ble_eq_true rfl) rfl (Nat.le_of_ble_eq_true rfl) rfl rfl rfl ?_
  refine aw_if_eq (tgt := 23) (pc' := 9) hC dX5_nameOf_6 (by decide) rfl (fun c4 => ?_) (fun c4 => ?_)
  · replace h := it_p c4 h
    refine aw_iconst (pc' := 24) hC dX5_nameOf_23 rfl (by decide) ?_
    cases h
    exact aw_iret hC dX5_nameOf_24 (Nat.le_of_ble_eq_true rfl) (Nat.le_of_ble_eq_true rfl)
  · replace h := it_n c4 h
    refine aw_aload_n (pc' := 10) (i := 0) hC dX5_nameOf_9 rfl rfl rfl ?_
    refine aw_getfield (pc' := 13) (v := (.inr (.inr (M v0 1)))) hC dX5_nameOf_10 rfl fl_X5_15 g2 rfl ?_
    refine aw_iload_n (pc' := 14) (i := 1) hC dX5_nameOf_13 rfl rfl rfl ?_
    refine aw_bipush (pc' := 16) hC dX5_nameOf_14 rfl (by decide) ?_
    refine aw_imul (pc' := 17) hC dX5_nameOf_16 rfl  ?_
    refine aw_iload_n (pc' := 18) (i := 2) hC dX5_nameOf_17 rfl rfl rfl ?_
    refine aw_iadd (pc' := 19) hC dX5_nameOf_18 rfl  ?_
    obtain ⟨g5, h⟩ := gd_s h
    refine aw_iaload (pc' := 20) hC dX5_nameOf_19 rfl g5 ?_
    refine aw_goto (tgt := 24) hC dX5_nameOf_20 (by decide) ?_
    cases h
    exact aw_iret hC dX5_nameOf_24 (Nat.le_of_ble_eq_true rfl) (Nat.le_of_ble_eq_true rfl)
-- CoinCircle.letterOf(JI)I
def fX8_letterOf (sh : AwS) (M : AwM) (v0 : Int) (v2 : Int) : Option Int :=
  some (an_ (w32 (srl_ v0 (w32 (5 * v2)))) 31)
set_option maxRecDepth 100000 in
set_option maxHeartbeats 4000000 in
theorem mX8_letterOf {sh : AwS} {M : AwM} {v0 : Int} {v2 : Int} {r : Int} (h : fX8_letterOf sh M v0 v2 = some r) : AMet yX8_letterOf cX8_letterOf 3 (some .int) 1 0 0 [.inr (.inl v0), .inl v2] sh M (some (.inl r)) sh M := by
  refine amet_of (by decide +kernel) (Nat.le_of_ble_eq_true rfl) (fun Γ hC => ?_)
  replace hC : AOK Γ RX8 cX8_letterOf 3 1 0 0 "letterOf" (some .int) := hC
  unfold fX8_letterOf at h
  refine aw_sub hC [some (.inr (.inl v0)), none, some (.inl v2)] ⟨rfl, ⟨rfl, trivial⟩⟩ (Nat.le_of_ble_eq_true rfl) ?_
  refine aw_lload_n (pc' := 1) (i := 0) hC dX8_letterOf_0 rfl rfl rfl ?_
  refine aw_iconst (pc' := 2) hC dX8_letterOf_1 rfl (by decide) ?_
  refine aw_iload_n (pc' := 3) (i := 2) hC dX8_letterOf_2 rfl rfl rfl ?_
  refine aw_imul (pc' := 4) hC dX8_letterOf_3 rfl  ?_
  refine aw_lshr (pc' := 5) hC dX8_letterOf_4 rfl  ?_
  refine aw_l2i (pc' := 6) hC dX8_letterOf_5 rfl  ?_
  refine aw_bipush (pc' := 8) hC dX8_letterOf_6 rfl (by decide) ?_
  refine aw_iand (pc' := 9) hC dX8_letterOf_8 rfl  ?_
  cases h
  exact aw_iret hC dX8_letterOf_9 (Nat.le_of_ble_eq_true rfl) (Nat.le_of_ble_eq_true rfl)
-- CoinCircle.letter(III)I
def fX8_letter (sh : AwS) (M : AwM) (v0 : Int) (v1 : Int) (v2 : Int) (v3 : Int) : Option Int :=
  gd_ (kd_ sh v0 = (0, 8)) (gd_ (kd_ sh (M v0 3) = (0, 5)) (pb (fX5_isThere sh M (M v0 3) v1 v2) <| u1 fun (x4 : Int) => ((if x4 = 0 then some (-1) else (if v3 < 0 then some (-1) else (if v3 < 6 then pb (fX5_nameOf sh M (M v0 3) v1 v2) <| u1 fun (x9 : Int) => (pb (fX8_letterOf sh M x9 v3) <| u1 fun (x11 : Int) => (some x11)) else some (-1)))))))
set_option maxRecDepth 100000 in
set_option maxHeartbeats 4000000 in
theorem mX8_letter {sh : AwS} {M : AwM} {v0 : Int} {v1 : Int} {v2 : Int} {v3 : Int} {r : Int} (h : fX8_letter sh M v0 v1 v2 v3 = some r) : AMet yX8_letter cX8_letter 4 (some .int) 3 0 0 [.inr (.inr v0), .inl v1, .inl v2, .inl v3] sh M (some (.inl r)) sh M := by
  refine amet_of (by decide +kernel) (Nat.le_of_ble_eq_true rfl) (fun Γ hC => ?_)
  replace hC : AOK Γ RX8 cX8_letter 4 3 0 0 "letter" (some .int) := hC
  unfold fX8_letter at h
  refine aw_sub hC [some (.inr (.inr v0)), some (.inl v1), some (.inl v2), some (.inl v3)] ⟨rfl, ⟨rfl, ⟨rfl, ⟨rfl, trivial⟩⟩⟩⟩ (Nat.le_of_ble_eq_true rfl) ?_
  refine aw_aload_n (pc' := 1) (i := 0) hC dX8_letter_0 rfl rfl rfl ?_
  obtain ⟨g1, h⟩ := gd_s h
  refine aw_getfield (pc' := 4) (v := (.inr (.inr (M v0 3)))) hC dX8_letter_1 rfl fl_X8_51 g1 rfl ?_
  refine aw_iload_n (pc' := 5) (i := 1) hC dX8_letter_4 rfl rfl rfl ?_
  refine aw_iload_n (pc' := 6) (i := 2) hC dX8_letter_5 rfl rfl rfl ?_
  obtain ⟨g3, h⟩ := gd_s h
  obtain ⟨x4, q2, h⟩ := pb_s h
  replace h := u1_s h
  refine aw_cV (pc' := 9) (k2 := 0) (n2 := 0) (st := []) (stN := [.inl x4]) hC [.inl v1, .inl v2] (mX5_isThere q2) lk_X8_135 g3 dX8_letter_6 rfl rfl (Nat.le_of_ble_eq_true rfl) (Nat.le_of_ble_eq_true rfl) (Nat.le_of_ble_eq_true rfl) rfl (Nat.le_of_ble_eq_true rfl) rfl rfl rfl ?_
  refine aw_if_eq (tgt := 22) (pc' := 12) hC dX8_letter_9 (by decide) rfl (fun c5 => ?_) (fun c5 => ?_)
  · replace h := it_p c5 h
    refine aw_iconst (pc' := 23) hC dX8_letter_22 rfl (by decide) ?_
    cases h
    exact aw_iret hC dX8_letter_23 (Nat.le_of_ble_eq_true rfl) (Nat.le_of_ble_eq_true rfl)
  · replace h := it_n c5 h
    refine aw_iload_n (pc' := 13) (i := 3) hC dX8_letter_12 rfl rfl rfl ?_
    refine aw_if_lt (tgt := 22) (pc' := 16) hC dX8_letter_13 (by decide) rfl (fun c6 => ?_) (fun c6 => ?_)
    · replace h := it_p c6 h
      refine aw_iconst (pc' := 23) hC dX8_letter_22 rfl (by decide) ?_
      cases h
      exact aw_iret hC dX8_letter_23 (Nat.le_of_ble_eq_true rfl) (Nat.le_of_ble_eq_true rfl)
    · replace h := it_n c6 h
      refine aw_iload_n (pc' := 17) (i := 3) hC dX8_letter_16 rfl rfl rfl ?_
      refine aw_bipush (pc' := 19) hC dX8_letter_17 rfl (by decide) ?_
      refine aw_icmp_lt (tgt := 24) (pc' := 22) hC dX8_letter_19 (by decide) rfl (fun c7 => ?_) (fun c7 => ?_)
      · replace h := it_p c7 h
        refine aw_aload_n (pc' := 25) (i := 0) hC dX8_letter_24 rfl rfl rfl ?_
        refine aw_getfield (pc' := 28) (v := (.inr (.inr (M v0 3)))) hC dX8_letter_25 rfl fl_X8_51 g1 rfl ?_
        refine aw_iload_n (pc' := 29) (i := 1) hC dX8_letter_28 rfl rfl rfl ?_
        refine aw_iload_n (pc' := 30) (i := 2) hC dX8_letter_29 rfl rfl rfl ?_
        obtain ⟨x9, q8, h⟩ := pb_s h
        replace h := u1_s h
        refine aw_cV (pc' := 33) (k2 := 0) (n2 := 0) (st := []) (stN := [.inl x9]) hC [.inl v1, .inl v2] (mX5_nameOf q8) lk_X8_139 g3 dX8_letter_30 rfl rfl (Nat.le_of_ble_eq_true rfl) (Nat.le_of_ble_eq_true rfl) (Nat.le_of_ble_eq_true rfl) rfl (Nat.le_of_ble_eq_true rfl) rfl rfl rfl ?_
        refine aw_i2l (pc' := 34) hC dX8_letter_33 rfl  ?_
        refine aw_iload_n (pc' := 35) (i := 3) hC dX8_letter_34 rfl rfl rfl ?_
        obtain ⟨x11, q10, h⟩ := pb_s h
        replace h := u1_s h
        refine aw_cS (pc' := 38) (k2 := 0) (n2 := 0) (st := []) (stN := [.inl x11]) hC [.inr (.inl x9), .inl v3] (mX8_letterOf q10) lk_X8_143 dX8_letter_35 rfl rfl (Nat.le_of_ble_eq_true rfl) (Nat.le_of_ble_eq_true rfl) (Nat.le_of_ble_eq_true rfl) rfl (Nat.le_of_ble_eq_true rfl) rfl rfl rfl ?_
        cases h
        exact aw_iret hC dX8_letter_38 (Nat.le_of_ble_eq_true rfl) (Nat.le_of_ble_eq_true rfl)
      · replace h := it_n c7 h
        refine aw_iconst (pc' := 23) hC dX8_letter_22 rfl (by decide) ?_
        cases h
        exact aw_iret hC dX8_letter_23 (Nat.le_of_ble_eq_true rfl) (Nat.le_of_ble_eq_true rfl)
-- CoinCircle$Society.worthOf(I)I
def fX5_worthOf_L4 (sh : AwS) (M : AwM) (v0 : Int) (v1 : Int) (v2 : Int) (v3 : Int) : Option ((Int × Int) ⊕ (Int)) :=
  gd_ (kd_ sh v0 = (0, 5)) (gd_ ((kd_ sh (M v0 0)).1 = 1 ∧ (0 : Int) ≤ 1 ∧ 1 < ((kd_ sh (M v0 0)).2 : Int)) ((if v3 < (M (M v0 0) 1) then pb (fX8_isIn sh M v1 v3) <| u1 fun (x5 : Int) => ((if x5 = 0 then some (.inl (v2, (w32 (v3 + 1)))) else gd_ ((kd_ sh (M v0 3)).1 = 1 ∧ (0 : Int) ≤ v3 ∧ v3 < ((kd_ sh (M v0 3)).2 : Int)) (some (.inl ((w32 (v2 + (M (M v0 3) v3))), (w32 (v3 + 1))))))) else some (.inr v2))))
def p_X5_worthOf_L4 (Γ : AwC) (sh : AwS) (M : AwM) (v0 : Int) (v1 : Int) (Q : State → Prop) (s : Int × Int) : Prop := AW Γ sh M 0 0 4 [some (.inr (.inr v0)), some (.inl v1), some (.inl (s.1)), some (.inl (s.2))] [] Q
def x_X5_worthOf_L4 (Γ : AwC) (sh : AwS) (M : AwM) (v0 : Int) (v1 : Int) (Q : State → Prop) : (Int) → Prop := (fun (t : Int) => AW Γ sh M 0 0 37 [none, none, some (.inl (t)), none] [] Q)
def fX5_worthOf (sh : AwS) (M : AwM) (v0 : Int) (v1 : Int) : Option Int :=
  pb (lp (u2 (fX5_worthOf_L4 sh M v0 v1)) FU (0, 0)) (u1 (fun (tq8 : Int) => some tq8))
set_option maxRecDepth 100000 in
set_option maxHeartbeats 4000000 in
theorem w_X5_worthOf_L4 {Γ : AwC} (hC : AOK Γ RX5 cX5_worthOf 4 2 0 0 "worthOf" (some .int)) {sh : AwS} {M : AwM} {v0 : Int} {v1 : Int} {Q : State → Prop} : ∀ s r, u2 (fX5_worthOf_L4 sh M v0 v1) s = some r → (∀ s', r = .inl s' → p_X5_worthOf_L4 Γ sh M v0 v1 Q s') → (∀ t, r = .inr t → x_X5_worthOf_L4 Γ sh M v0 v1 Q t) → p_X5_worthOf_L4 Γ sh M v0 v1 Q s := by
  intro s r h hL hX
  obtain ⟨v2, v3⟩ := s
  replace h := u2_s h
  unfold fX5_worthOf_L4 at h
  show AW Γ sh M 0 0 4 [some (.inr (.inr v0)), some (.inl v1), some (.inl v2), some (.inl v3)] [] Q
  refine aw_iload_n (pc' := 5) (i := 3) hC dX5_worthOf_4 rfl rfl rfl ?_
  refine aw_aload_n (pc' := 6) (i := 0) hC dX5_worthOf_5 rfl rfl rfl ?_
  obtain ⟨g1, h⟩ := gd_s h
  refine aw_getfield (pc' := 9) (v := (.inr (.inr (M v0 0)))) hC dX5_worthOf_6 rfl fl_X5_9 g1 rfl ?_
  refine aw_iconst (pc' := 10) hC dX5_worthOf_9 rfl (by decide) ?_
  obtain ⟨g2, h⟩ := gd_s h
  refine aw_iaload (pc' := 11) hC dX5_worthOf_10 rfl g2 ?_
  refine aw_icmp_ge (tgt := 37) (pc' := 14) hC dX5_worthOf_11 (by decide) rfl (fun c3 => ?_) (fun c3 => ?_)
  · replace h := it_n c3 h
    refine aw_sub hC [none, none, some (.inl v2), none] ⟨rfl, trivial⟩ (Nat.le_of_ble_eq_true rfl) ?_
    cases h
    exact hX _ rfl
  · replace h := it_p c3 h
    refine aw_iload_n (pc' := 15) (i := 1) hC dX5_worthOf_14 rfl rfl rfl ?_
    refine aw_iload_n (pc' := 16) (i := 3) hC dX5_worthOf_15 rfl rfl rfl ?_
    obtain ⟨x5, q4, h⟩ := pb_s h
    replace h := u1_s h
    refine aw_cSN (pc' := 19) (k2 := 0) (n2 := 0) (st := []) (stN := [.inl x5]) hC [.inl v1, .inl v3] (mX8_isIn q4) lk_X5_75 dX5_worthOf_16 rfl rfl (Nat.le_of_ble_eq_true rfl) (Nat.le_of_ble_eq_true rfl) (Nat.le_of_ble_eq_true rfl) rfl (Nat.le_of_ble_eq_true rfl) rfl rfl rfl ?_
    refine aw_if_eq (tgt := 31) (pc' := 22) hC dX5_worthOf_19 (by decide) rfl (fun c6 => ?_) (fun c6 => ?_)
    · replace h := it_p c6 h
      refine aw_iinc (pc' := 34) (ls' := [some (.inr (.inr v0)), some (.inl v1), some (.inl v2), some (.inl (w32 (v3 + 1)))]) hC dX5_worthOf_31 rfl rfl rfl rfl ?_
      refine aw_goto (tgt := 4) hC dX5_worthOf_34 (by decide) ?_
      refine aw_sub hC [some (.inr (.inr v0)), some (.inl v1), some (.inl v2), some (.inl (w32 (v3 + 1)))] ⟨rfl, ⟨rfl, ⟨rfl, ⟨rfl, trivial⟩⟩⟩⟩ (Nat.le_of_ble_eq_true rfl) ?_
      cases h
      exact hL _ rfl
    · replace h := it_n c6 h
      refine aw_iload_n (pc' := 23) (i := 2) hC dX5_worthOf_22 rfl rfl rfl ?_
      refine aw_aload_n (pc' := 24) (i := 0) hC dX5_worthOf_23 rfl rfl rfl ?_
      refine aw_getfield (pc' := 27) (v := (.inr (.inr (M v0 3)))) hC dX5_worthOf_24 rfl fl_X5_21 g1 rfl ?_
      refine aw_iload_n (pc' := 28) (i := 3) hC dX5_worthOf_27 rfl rfl rfl ?_
      obtain ⟨g7, h⟩ := gd_s h
      refine aw_iaload (pc' := 29) hC dX5_worthOf_28 rfl g7 ?_
      refine aw_iadd (pc' := 30) hC dX5_worthOf_29 rfl  ?_
      refine aw_istore_n (pc' := 31) (i := 2) (ls' := [some (.inr (.inr v0)), some (.inl v1), some (.inl (w32 (v2 + (M (M v0 3) v3)))), some (.inl v3)]) hC dX5_worthOf_30 rfl rfl (Nat.le_of_ble_eq_true rfl) rfl rfl ?_
      refine aw_iinc (pc' := 34) (ls' := [some (.inr (.inr v0)), some (.inl v1), some (.inl (w32 (v2 + (M (M v0 3) v3)))), some (.inl (w32 (v3 + 1)))]) hC dX5_worthOf_31 rfl rfl rfl rfl ?_
      refine aw_goto (tgt := 4) hC dX5_worthOf_34 (by decide) ?_
      refine aw_sub hC [some (.inr (.inr v0)), some (.inl v1), some (.inl (w32 (v2 + (M (M v0 3) v3)))), some (.inl (w32 (v3 + 1)))] ⟨rfl, ⟨rfl, ⟨rfl, ⟨rfl, trivial⟩⟩⟩⟩ (Nat.le_of_ble_eq_true rfl) ?_
      cases h
      exact hL _ rfl
set_option maxRecDepth 100000 in
set_option maxHeartbeats 4000000 in
theorem mX5_worthOf {sh : AwS} {M : AwM} {v0 : Int} {v1 : Int} {r : Int} (h : fX5_worthOf sh M v0 v1 = some r) : AMet yX5_worthOf cX5_worthOf 4 (some .int) 2 0 0 [.inr (.inr v0), .inl v1] sh M (some (.inl r)) sh M := by
  refine amet_of (by decide +kernel) (Nat.le_of_ble_eq_true rfl) (fun Γ hC => ?_)
  replace hC : AOK Γ RX5 cX5_worthOf 4 2 0 0 "worthOf" (some .int) := hC
  unfold fX5_worthOf at h
  refine aw_sub hC [some (.inr (.inr v0)), some (.inl v1), none, none] ⟨rfl, ⟨rfl, trivial⟩⟩ (Nat.le_of_ble_eq_true rfl) ?_
  refine aw_iconst (pc' := 1) hC dX5_worthOf_0 rfl (by decide) ?_
  refine aw_istore_n (pc' := 2) (i := 2) (ls' := [some (.inr (.inr v0)), some (.inl v1), some (.inl 0), none]) hC dX5_worthOf_1 rfl rfl (Nat.le_of_ble_eq_true rfl) rfl rfl ?_
  refine aw_iconst (pc' := 3) hC dX5_worthOf_2 rfl (by decide) ?_
  refine aw_istore_n (pc' := 4) (i := 3) (ls' := [some (.inr (.inr v0)), some (.inl v1), some (.inl 0), some (.inl 0)]) hC dX5_worthOf_3 rfl rfl (Nat.le_of_ble_eq_true rfl) rfl rfl ?_
  obtain ⟨tq8, q8, h⟩ := pb_s h
  refine aw_sub hC [some (.inr (.inr v0)), some (.inl v1), some (.inl 0), some (.inl 0)] ⟨rfl, ⟨rfl, ⟨rfl, ⟨rfl, trivial⟩⟩⟩⟩ (Nat.le_of_ble_eq_true rfl) ?_
  refine (lp_aw (p_X5_worthOf_L4 Γ sh M v0 v1 (fin_ Γ 0 0 (some (.inl r)) sh M)) (x_X5_worthOf_L4 Γ sh M v0 v1 (fin_ Γ 0 0 (some (.inl r)) sh M)) (w_X5_worthOf_L4 hC ) FU _ _ q8 ?_ : p_X5_worthOf_L4 Γ sh M v0 v1 (fin_ Γ 0 0 (some (.inl r)) sh M) (0, 0))
  replace h := u1_s h
  show AW Γ sh M 0 0 37 [none, none, some (.inl tq8), none] [] _
  refine aw_iload_n (pc' := 38) (i := 2) hC dX5_worthOf_37 rfl rfl rfl ?_
  cases h
  exact aw_iret hC dX5_worthOf_38 (Nat.le_of_ble_eq_true rfl) (Nat.le_of_ble_eq_true rfl)
-- CoinCircle$Circle.knows(II)Z
def fX0_knows (sh : AwS) (M : AwM) (v0 : Int) (v1 : Int) (v2 : Int) : Option Int :=
  gd_ (kd_ sh v0 = (0, 0)) (gd_ (kd_ sh (M v0 0) = (0, 3)) (gd_ ((kd_ sh (M (M v0 0) 2)).1 = 1 ∧ (0 : Int) ≤ v1 ∧ v1 < ((kd_ sh (M (M v0 0) 2)).2 : Int)) (pb (fX8_isIn sh M (M (M (M v0 0) 2) v1) v2) <| u1 fun (x5 : Int) => (gd_ (x5 = 0 ∨ x5 = 1) (some x5)))))
set_option maxRecDepth 100000 in
set_option maxHeartbeats 4000000 in
theorem mX0_knows {sh : AwS} {M : AwM} {v0 : Int} {v1 : Int} {v2 : Int} {r : Int} (h : fX0_knows sh M v0 v1 v2 = some r) : AMet yX0_knows cX0_knows 3 (some .boolean) 2 0 0 [.inr (.inr v0), .inl v1, .inl v2] sh M (some (.inl r)) sh M := by
  refine amet_of (by decide +kernel) (Nat.le_of_ble_eq_true rfl) (fun Γ hC => ?_)
  replace hC : AOK Γ RX0 cX0_knows 3 2 0 0 "knows" (some .boolean) := hC
  unfold fX0_knows at h
  refine aw_sub hC [some (.inr (.inr v0)), some (.inl v1), some (.inl v2)] ⟨rfl, ⟨rfl, ⟨rfl, trivial⟩⟩⟩ (Nat.le_of_ble_eq_true rfl) ?_
  refine aw_aload_n (pc' := 1) (i := 0) hC dX0_knows_0 rfl rfl rfl ?_
  obtain ⟨g1, h⟩ := gd_s h
  refine aw_getfield (pc' := 4) (v := (.inr (.inr (M v0 0)))) hC dX0_knows_1 rfl fl_X0_12 g1 rfl ?_
  obtain ⟨g2, h⟩ := gd_s h
  refine aw_getfield (pc' := 7) (v := (.inr (.inr (M (M v0 0) 2)))) hC dX0_knows_4 rfl fl_X0_36 g2 rfl ?_
  refine aw_iload_n (pc' := 8) (i := 1) hC dX0_knows_7 rfl rfl rfl ?_
  obtain ⟨g3, h⟩ := gd_s h
  refine aw_iaload (pc' := 9) hC dX0_knows_8 rfl g3 ?_
  refine aw_iload_n (pc' := 10) (i := 2) hC dX0_knows_9 rfl rfl rfl ?_
  obtain ⟨x5, q4, h⟩ := pb_s h
  replace h := u1_s h
  refine aw_cSN (pc' := 13) (k2 := 0) (n2 := 0) (st := []) (stN := [.inl x5]) hC [.inl (M (M (M v0 0) 2) v1), .inl v2] (mX8_isIn q4) lk_X0_51 dX0_knows_10 rfl rfl (Nat.le_of_ble_eq_true rfl) (Nat.le_of_ble_eq_true rfl) (Nat.le_of_ble_eq_true rfl) rfl (Nat.le_of_ble_eq_true rfl) rfl rfl rfl ?_
  obtain ⟨g6, h⟩ := gd_s h
  cases h
  exact aw_zret hC g6 dX0_knows_13 (Nat.le_of_ble_eq_true rfl) (Nat.le_of_ble_eq_true rfl)
-- CoinCircle$Circle.knowing(I)I
def fX0_knowing_L4 (sh : AwS) (M : AwM) (v0 : Int) (v1 : Int) (v2 : Int) (v3 : Int) : Option ((Int × Int) ⊕ (Int)) :=
  gd_ (kd_ sh v0 = (0, 0)) (pb (fX0_coins sh M v0) <| u1 fun (x3 : Int) => ((if v3 < x3 then pb (fX0_knows sh M v0 v3 v1) <| u1 fun (x6 : Int) => ((if x6 = 0 then some (.inl (v2, (w32 (v3 + 1)))) else some (.inl ((or_ v2 (sl_ 1 v3)), (w32 (v3 + 1)))))) else some (.inr v2))))
def p_X0_knowing_L4 (Γ : AwC) (sh : AwS) (M : AwM) (v0 : Int) (v1 : Int) (Q : State → Prop) (s : Int × Int) : Prop := AW Γ sh M 0 0 4 [some (.inr (.inr v0)), some (.inl v1), some (.inl (s.1)), some (.inl (s.2))] [] Q
def x_X0_knowing_L4 (Γ : AwC) (sh : AwS) (M : AwM) (v0 : Int) (v1 : Int) (Q : State → Prop) : (Int) → Prop := (fun (t : Int) => AW Γ sh M 0 0 33 [none, none, some (.inl (t)), none] [] Q)
def fX0_knowing (sh : AwS) (M : AwM) (v0 : Int) (v1 : Int) : Option Int :=
  pb (lp (u2 (fX0_knowing_L4 sh M v0 v1)) FU (0, 0)) (u1 (fun (tq8 : Int) => some tq8))
set_option maxRecDepth 100000 in
set_option maxHeartbeats 4000000 in
theorem w_X0_knowing_L4 {Γ : AwC} (hC : AOK Γ RX0 cX0_knowing 4 3 0 0 "knowing" (some .int)) {sh : AwS} {M : AwM} {v0 : Int} {v1 : Int} {Q : State → Prop} : ∀ s r, u2 (fX0_knowing_L4 sh M v0 v1) s = some r → (∀ s', r = .inl s' → p_X0_knowing_L4 Γ sh M v0 v1 Q s') → (∀ t, r = .inr t → x_X0_knowing_L4 Γ sh M v0 v1 Q t) → p_X0_knowing_L4 Γ sh M v0 v1 Q s := by
  intro s r h hL hX
  obtain ⟨v2, v3⟩ := s
  replace h := u2_s h
  unfold fX0_knowing_L4 at h
  show AW Γ sh M 0 0 4 [some (.inr (.inr v0)), some (.inl v1), some (.inl v2), some (.inl v3)] [] Q
  refine aw_iload_n (pc' := 5) (i := 3) hC dX0_knowing_4 rfl rfl rfl ?_
  refine aw_aload_n (pc' := 6) (i := 0) hC dX0_knowing_5 rfl rfl rfl ?_
  obtain ⟨g2, h⟩ := gd_s h
  obtain ⟨x3, q1, h⟩ := pb_s h
  replace h := u1_s h
  refine aw_cV (pc' := 9) (k2 := 0) (n2 := 0) (st := [.inl v3]) (stN := [.inl x3, .inl v3]) hC [] (mX0_coins q1) lk_X0_55 g2 dX0_knowing_6 rfl rfl (Nat.le_of_ble_eq_true rfl) (Nat.le_of_ble_eq_true rfl) (Nat.le_of_ble_eq_true rfl) rfl (Nat.le_of_ble_eq_true rfl) rfl rfl rfl ?_
  refine aw_icmp_ge (tgt := 33) (pc' := 12) hC dX0_knowing_9 (by decide) rfl (fun c4 => ?_) (fun c4 => ?_)
  · replace h := it_n c4 h
    refine aw_sub hC [none, none, some (.inl v2), none] ⟨rfl, trivial⟩ (Nat.le_of_ble_eq_true rfl) ?_
    cases h
    exact hX _ rfl
  · replace h := it_p c4 h
    refine aw_aload_n (pc' := 13) (i := 0) hC dX0_knowing_12 rfl rfl rfl ?_
    refine aw_iload_n (pc' := 14) (i := 3) hC dX0_knowing_13 rfl rfl rfl ?_
    refine aw_iload_n (pc' := 15) (i := 1) hC dX0_knowing_14 rfl rfl rfl ?_
    obtain ⟨x6, q5, h⟩ := pb_s h
    replace h := u1_s h
    refine aw_cV (pc' := 18) (k2 := 0) (n2 := 0) (st := []) (stN := [.inl x6]) hC [.inl v3, .inl v1] (mX0_knows q5) lk_X0_59 g2 dX0_knowing_15 rfl rfl (Nat.le_of_ble_eq_true rfl) (Nat.le_of_ble_eq_true rfl) (Nat.le_of_ble_eq_true rfl) rfl (Nat.le_of_ble_eq_true rfl) rfl rfl rfl ?_
    refine aw_if_eq (tgt := 27) (pc' := 21) hC dX0_knowing_18 (by decide) rfl (fun c7 => ?_) (fun c7 => ?_)
    · replace h := it_p c7 h
      refine aw_iinc (pc' := 30) (ls' := [some (.inr (.inr v0)), some (.inl v1), some (.inl v2), some (.inl (w32 (v3 + 1)))]) hC dX0_knowing_27 rfl rfl rfl rfl ?_
      refine aw_goto (tgt := 4) hC dX0_knowing_30 (by decide) ?_
      refine aw_sub hC [some (.inr (.inr v0)), some (.inl v1), some (.inl v2), some (.inl (w32 (v3 + 1)))] ⟨rfl, ⟨rfl, ⟨rfl, ⟨rfl, trivial⟩⟩⟩⟩ (Nat.le_of_ble_eq_true rfl) ?_
      cases h
      exact hL _ rfl
    · replace h := it_n c7 h
      refine aw_iload_n (pc' := 22) (i := 2) hC dX0_knowing_21 rfl rfl rfl ?_
      refine aw_iconst (pc' := 23) hC dX0_knowing_22 rfl (by decide) ?_
      refine aw_iload_n (pc' := 24) (i := 3) hC dX0_knowing_23 rfl rfl rfl ?_
      refine aw_ishl (pc' := 25) hC dX0_knowing_24 rfl  ?_
      refine aw_ior (pc' := 26) hC dX0_knowing_25 rfl  ?_
      refine aw_istore_n (pc' := 27) (i := 2) (ls' := [some (.inr (.inr v0)), some (.inl v1), some (.inl (or_ v2 (sl_ 1 v3))), some (.inl v3)]) hC dX0_knowing_26 rfl rfl (Nat.le_of_ble_eq_true rfl) rfl rfl ?_
      refine aw_iinc (pc' := 30) (ls' := [some (.inr (.inr v0)), some (.inl v1), some (.inl (or_ v2 (sl_ 1 v3))), some (.inl (w32 (v3 + 1)))]) hC dX0_knowing_27 rfl rfl rfl rfl ?_
      refine aw_goto (tgt := 4) hC dX0_knowing_30 (by decide) ?_
      refine aw_sub hC [some (.inr (.inr v0)), some (.inl v1), some (.inl (or_ v2 (sl_ 1 v3))), some (.inl (w32 (v3 + 1)))] ⟨rfl, ⟨rfl, ⟨rfl, ⟨rfl, trivial⟩⟩⟩⟩ (Nat.le_of_ble_eq_true rfl) ?_
      cases h
      exact hL _ rfl
set_option maxRecDepth 100000 in
set_option maxHeartbeats 4000000 in
theorem mX0_knowing {sh : AwS} {M : AwM} {v0 : Int} {v1 : Int} {r : Int} (h : fX0_knowing sh M v0 v1 = some r) : AMet yX0_knowing cX0_knowing 4 (some .int) 3 0 0 [.inr (.inr v0), .inl v1] sh M (some (.inl r)) sh M := by
  refine amet_of (by decide +kernel) (Nat.le_of_ble_eq_true rfl) (fun Γ hC => ?_)
  replace hC : AOK Γ RX0 cX0_knowing 4 3 0 0 "knowing" (some .int) := hC
  unfold fX0_knowing at h
  refine aw_sub hC [some (.inr (.inr v0)), some (.inl v1), none, none] ⟨rfl, ⟨rfl, trivial⟩⟩ (Nat.le_of_ble_eq_true rfl) ?_
  refine aw_iconst (pc' := 1) hC dX0_knowing_0 rfl (by decide) ?_
  refine aw_istore_n (pc' := 2) (i := 2) (ls' := [some (.inr (.inr v0)), some (.inl v1), some (.inl 0), none]) hC dX0_knowing_1 rfl rfl (Nat.le_of_ble_eq_true rfl) rfl rfl ?_
  refine aw_iconst (pc' := 3) hC dX0_knowing_2 rfl (by decide) ?_
  refine aw_istore_n (pc' := 4) (i := 3) (ls' := [some (.inr (.inr v0)), some (.inl v1), some (.inl 0), some (.inl 0)]) hC dX0_knowing_3 rfl rfl (Nat.le_of_ble_eq_true rfl) rfl rfl ?_
  obtain ⟨tq8, q8, h⟩ := pb_s h
  refine aw_sub hC [some (.inr (.inr v0)), some (.inl v1), some (.inl 0), some (.inl 0)] ⟨rfl, ⟨rfl, ⟨rfl, ⟨rfl, trivial⟩⟩⟩⟩ (Nat.le_of_ble_eq_true rfl) ?_
  refine (lp_aw (p_X0_knowing_L4 Γ sh M v0 v1 (fin_ Γ 0 0 (some (.inl r)) sh M)) (x_X0_knowing_L4 Γ sh M v0 v1 (fin_ Γ 0 0 (some (.inl r)) sh M)) (w_X0_knowing_L4 hC ) FU _ _ q8 ?_ : p_X0_knowing_L4 Γ sh M v0 v1 (fin_ Γ 0 0 (some (.inl r)) sh M) (0, 0))
  replace h := u1_s h
  show AW Γ sh M 0 0 33 [none, none, some (.inl tq8), none] [] _
  refine aw_iload_n (pc' := 34) (i := 2) hC dX0_knowing_33 rfl rfl rfl ?_
  cases h
  exact aw_iret hC dX0_knowing_34 (Nat.le_of_ble_eq_true rfl) (Nat.le_of_ble_eq_true rfl)
-- CoinCircle$Circle.snubbedBy(I)I
def fX0_snubbedBy_L4 (sh : AwS) (M : AwM) (v0 : Int) (v1 : Int) (v2 : Int) (v3 : Int) : Option ((Int × Int) ⊕ (Int)) :=
  gd_ (kd_ sh v0 = (0, 0)) (pb (fX0_coins sh M v0) <| u1 fun (x3 : Int) => ((if v3 < x3 then gd_ (kd_ sh (M v0 0) = (0, 3)) (gd_ ((kd_ sh (M (M v0 0) 3)).1 = 1 ∧ (0 : Int) ≤ v3 ∧ v3 < ((kd_ sh (M (M v0 0) 3)).2 : Int)) (pb (fX8_isIn sh M (M (M (M v0 0) 3) v3) v1) <| u1 fun (x8 : Int) => ((if x8 = 0 then some (.inl (v2, (w32 (v3 + 1)))) else some (.inl ((or_ v2 (sl_ 1 v3)), (w32 (v3 + 1)))))))) else some (.inr v2))))
def p_X0_snubbedBy_L4 (Γ : AwC) (sh : AwS) (M : AwM) (v0 : Int) (v1 : Int) (Q : State → Prop) (s : Int × Int) : Prop := AW Γ sh M 0 0 4 [some (.inr (.inr v0)), some (.inl v1), some (.inl (s.1)), some (.inl (s.2))] [] Q
def x_X0_snubbedBy_L4 (Γ : AwC) (sh : AwS) (M : AwM) (v0 : Int) (v1 : Int) (Q : State → Prop) : (Int) → Prop := (fun (t : Int) => AW Γ sh M 0 0 40 [none, none, some (.inl (t)), none] [] Q)
def fX0_snubbedBy (sh : AwS) (M : AwM) (v0 : Int) (v1 : Int) : Option Int :=
  pb (lp (u2 (fX0_snubbedBy_L4 sh M v0 v1)) FU (0, 0)) (u1 (fun (tq10 : Int) => some tq10))
set_option maxRecDepth 100000 in
set_option maxHeartbeats 4000000 in
theorem w_X0_snubbedBy_L4 {Γ : AwC} (hC : AOK Γ RX0 cX0_snubbedBy 4 2 0 0 "snubbedBy" (some .int)) {sh : AwS} {M : AwM} {v0 : Int} {v1 : Int} {Q : State → Prop} : ∀ s r, u2 (fX0_snubbedBy_L4 sh M v0 v1) s = some r → (∀ s', r = .inl s' → p_X0_snubbedBy_L4 Γ sh M v0 v1 Q s') → (∀ t, r = .inr t → x_X0_snubbedBy_L4 Γ sh M v0 v1 Q t) → p_X0_snubbedBy_L4 Γ sh M v0 v1 Q s := by
  intro s r h hL hX
  obtain ⟨v2, v3⟩ := s
  replace h := u2_s h
  unfold fX0_snubbedBy_L4 at h
  show AW Γ sh M 0 0 4 [some (.inr (.inr v0)), some (.inl v1), some (.inl v2), some (.inl v3)] [] Q
  refine aw_iload_n (pc' := 5) (i := 3) hC dX0_snubbedBy_4 rfl rfl rfl ?_
  refine aw_aload_n (pc' := 6) (i := 0) hC dX0_snubbedBy_5 rfl rfl rfl ?_
  obtain ⟨g2, h⟩ := gd_s h
  obtain ⟨x3, q1, h⟩ := pb_s h
  replace h := u1_s h
  refine aw_cV (pc' := 9) (k2 := 0) (n2 := 0) (st := [.inl v3]) (stN := [.inl x3, .inl v3]) hC [] (mX0_coins q1) lk_X0_55 g2 dX0_snubbedBy_6 rfl rfl (Nat.le_of_ble_eq_true rfl) (Nat.le_of_ble_eq_true rfl) (Nat.le_of_ble_eq_true rfl) rfl (Nat.le_of_ble_eq_true rfl) rfl rfl rfl ?_
  refine aw_icmp_ge (tgt := 40) (pc' := 12) hC dX0_snubbedBy_9 (by decide) rfl (fun c4 => ?_) (fun c4 => ?_)
  · replace h := it_n c4 h
    refine aw_sub hC [none, none, some (.inl v2), none] ⟨rfl, trivial⟩ (Nat.le_of_ble_eq_true rfl) ?_
    cases h
    exact hX _ rfl
  · replace h := it_p c4 h
    refine aw_aload_n (pc' := 13) (i := 0) hC dX0_snubbedBy_12 rfl rfl rfl ?_
    refine aw_getfield (pc' := 16) (v := (.inr (.inr (M v0 0)))) hC dX0_snubbedBy_13 rfl fl_X0_12 g2 rfl ?_
    obtain ⟨g5, h⟩ := gd_s h
    refine aw_getfield (pc' := 19) (v := (.inr (.inr (M (M v0 0) 3)))) hC dX0_snubbedBy_16 rfl fl_X0_40 g5 rfl ?_
    refine aw_iload_n (pc' := 20) (i := 3) hC dX0_snubbedBy_19 rfl rfl rfl ?_
    obtain ⟨g6, h⟩ := gd_s h
    refine aw_iaload (pc' := 21) hC dX0_snubbedBy_20 rfl g6 ?_
    refine aw_iload_n (pc' := 22) (i := 1) hC dX0_snubbedBy_21 rfl rfl rfl ?_
    obtain ⟨x8, q7, h⟩ := pb_s h
    replace h := u1_s h
    refine aw_cSN (pc' := 25) (k2 := 0) (n2 := 0) (st := []) (stN := [.inl x8]) hC [.inl (M (M (M v0 0) 3) v3), .inl v1] (mX8_isIn q7) lk_X0_51 dX0_snubbedBy_22 rfl rfl (Nat.le_of_ble_eq_true rfl) (Nat.le_of_ble_eq_true rfl) (Nat.le_of_ble_eq_true rfl) rfl (Nat.le_of_ble_eq_true rfl) rfl rfl rfl ?_
    refine aw_if_eq (tgt := 34) (pc' := 28) hC dX0_snubbedBy_25 (by decide) rfl (fun c9 => ?_) (fun c9 => ?_)
    · replace h := it_p c9 h
      refine aw_iinc (pc' := 37) (ls' := [some (.inr (.inr v0)), some (.inl v1), some (.inl v2), some (.inl (w32 (v3 + 1)))]) hC dX0_snubbedBy_34 rfl rfl rfl rfl ?_
      refine aw_goto (tgt := 4) hC dX0_snubbedBy_37 (by decide) ?_
      refine aw_sub hC [some (.inr (.inr v0)), some (.inl v1), some (.inl v2), some (.inl (w32 (v3 + 1)))] ⟨rfl, ⟨rfl, ⟨rfl, ⟨rfl, trivial⟩⟩⟩⟩ (Nat.le_of_ble_eq_true rfl) ?_
      cases h
      exact hL _ rfl
    · replace h := it_n c9 h
      refine aw_iload_n (pc' := 29) (i := 2) hC dX0_snubbedBy_28 rfl rfl rfl ?_
      refine aw_iconst (pc' := 30) hC dX0_snubbedBy_29 rfl (by decide) ?_
      refine aw_iload_n (pc' := 31) (i := 3) hC dX0_snubbedBy_30 rfl rfl rfl ?_
      refine aw_ishl (pc' := 32) hC dX0_snubbedBy_31 rfl  ?_
      refine aw_ior (pc' := 33) hC dX0_snubbedBy_32 rfl  ?_
      refine aw_istore_n (pc' := 34) (i := 2) (ls' := [some (.inr (.inr v0)), some (.inl v1), some (.inl (or_ v2 (sl_ 1 v3))), some (.inl v3)]) hC dX0_snubbedBy_33 rfl rfl (Nat.le_of_ble_eq_true rfl) rfl rfl ?_
      refine aw_iinc (pc' := 37) (ls' := [some (.inr (.inr v0)), some (.inl v1), some (.inl (or_ v2 (sl_ 1 v3))), some (.inl (w32 (v3 + 1)))]) hC dX0_snubbedBy_34 rfl rfl rfl rfl ?_
      refine aw_goto (tgt := 4) hC dX0_snubbedBy_37 (by decide) ?_
      refine aw_sub hC [some (.inr (.inr v0)), some (.inl v1), some (.inl (or_ v2 (sl_ 1 v3))), some (.inl (w32 (v3 + 1)))] ⟨rfl, ⟨rfl, ⟨rfl, ⟨rfl, trivial⟩⟩⟩⟩ (Nat.le_of_ble_eq_true rfl) ?_
      cases h
      exact hL _ rfl
set_option maxRecDepth 100000 in
set_option maxHeartbeats 4000000 in
theorem mX0_snubbedBy {sh : AwS} {M : AwM} {v0 : Int} {v1 : Int} {r : Int} (h : fX0_snubbedBy sh M v0 v1 = some r) : AMet yX0_snubbedBy cX0_snubbedBy 4 (some .int) 2 0 0 [.inr (.inr v0), .inl v1] sh M (some (.inl r)) sh M := by
  refine amet_of (by decide +kernel) (Nat.le_of_ble_eq_true rfl) (fun Γ hC => ?_)
  replace hC : AOK Γ RX0 cX0_snubbedBy 4 2 0 0 "snubbedBy" (some .int) := hC
  unfold fX0_snubbedBy at h
  refine aw_sub hC [some (.inr (.inr v0)), some (.inl v1), none, none] ⟨rfl, ⟨rfl, trivial⟩⟩ (Nat.le_of_ble_eq_true rfl) ?_
  refine aw_iconst (pc' := 1) hC dX0_snubbedBy_0 rfl (by decide) ?_
  refine aw_istore_n (pc' := 2) (i := 2) (ls' := [some (.inr (.inr v0)), some (.inl v1), some (.inl 0), none]) hC dX0_snubbedBy_1 rfl rfl (Nat.le_of_ble_eq_true rfl) rfl rfl ?_
  refine aw_iconst (pc' := 3) hC dX0_snubbedBy_2 rfl (by decide) ?_
  refine aw_istore_n (pc' := 4) (i := 3) (ls' := [some (.inr (.inr v0)), some (.inl v1), some (.inl 0), some (.inl 0)]) hC dX0_snubbedBy_3 rfl rfl (Nat.le_of_ble_eq_true rfl) rfl rfl ?_
  obtain ⟨tq10, q10, h⟩ := pb_s h
  refine aw_sub hC [some (.inr (.inr v0)), some (.inl v1), some (.inl 0), some (.inl 0)] ⟨rfl, ⟨rfl, ⟨rfl, ⟨rfl, trivial⟩⟩⟩⟩ (Nat.le_of_ble_eq_true rfl) ?_
  refine (lp_aw (p_X0_snubbedBy_L4 Γ sh M v0 v1 (fin_ Γ 0 0 (some (.inl r)) sh M)) (x_X0_snubbedBy_L4 Γ sh M v0 v1 (fin_ Γ 0 0 (some (.inl r)) sh M)) (w_X0_snubbedBy_L4 hC ) FU _ _ q10 ?_ : p_X0_snubbedBy_L4 Γ sh M v0 v1 (fin_ Γ 0 0 (some (.inl r)) sh M) (0, 0))
  replace h := u1_s h
  show AW Γ sh M 0 0 40 [none, none, some (.inl tq10), none] [] _
  refine aw_iload_n (pc' := 41) (i := 2) hC dX0_snubbedBy_40 rfl rfl rfl ?_
  cases h
  exact aw_iret hC dX0_snubbedBy_41 (Nat.le_of_ble_eq_true rfl) (Nat.le_of_ble_eq_true rfl)
-- CoinCircle.person(II)I
def fX8_person (sh : AwS) (M : AwM) (v0 : Int) (v1 : Int) (v2 : Int) : Option Int :=
  gd_ (kd_ sh v0 = (0, 8)) (gd_ (kd_ sh (M v0 3) = (0, 5)) (pb (fX5_isThere sh M (M v0 3) 0 v1) <| u1 fun (x4 : Int) => ((if x4 = 0 then some (-1) else (if v2 = 0 then gd_ ((kd_ sh (M (M v0 3) 2)).1 = 1 ∧ (0 : Int) ≤ v1 ∧ v1 < ((kd_ sh (M (M v0 3) 2)).2 : Int)) (some (M (M (M v0 3) 2) v1)) else (if v2 = 1 then gd_ (kd_ sh (M v0 4) = (0, 0)) (pb (fX0_heldBy sh M (M v0 4) v1) <| u1 fun (x15 : Int) => (some x15)) else (if v2 = 2 then gd_ (kd_ sh (M v0 4) = (0, 0)) (pb (fX0_heldBy sh M (M v0 4) v1) <| u1 fun (x18 : Int) => (pb (fX5_worthOf sh M (M v0 3) x18) <| u1 fun (x20 : Int) => (some x20))) else (if v2 = 3 then gd_ (kd_ sh (M v0 4) = (0, 0)) (pb (fX0_knowing sh M (M v0 4) v1) <| u1 fun (x23 : Int) => (some x23)) else (if v2 = 4 then gd_ (kd_ sh (M v0 4) = (0, 0)) (pb (fX0_snubbedBy sh M (M v0 4) v1) <| u1 fun (x26 : Int) => (some x26)) else (if v2 = 5 then gd_ (kd_ sh (M v0 4) = (0, 0)) (pb (fX0_isUseless sh M (M v0 4) v1) <| u1 fun (x29 : Int) => ((if x29 = 0 then some 0 else some 1))) else some (-1)))))))))))
set_option maxRecDepth 100000 in
set_option maxHeartbeats 4000000 in
theorem mX8_person {sh : AwS} {M : AwM} {v0 : Int} {v1 : Int} {v2 : Int} {r : Int} (h : fX8_person sh M v0 v1 v2 = some r) : AMet yX8_person cX8_person 3 (some .int) 4 0 0 [.inr (.inr v0), .inl v1, .inl v2] sh M (some (.inl r)) sh M := by
  refine amet_of (by decide +kernel) (Nat.le_of_ble_eq_true rfl) (fun Γ hC => ?_)
  replace hC : AOK Γ RX8 cX8_person 3 4 0 0 "person" (some .int) := hC
  unfold fX8_person at h
  refine aw_sub hC [some (.inr (.inr v0)), some (.inl v1), some (.inl v2)] ⟨rfl, ⟨rfl, ⟨rfl, trivial⟩⟩⟩ (Nat.le_of_ble_eq_true rfl) ?_
  refine aw_aload_n (pc' := 1) (i := 0) hC dX8_person_0 rfl rfl rfl ?_
  obtain ⟨g1, h⟩ := gd_s h
  refine aw_getfield (pc' := 4) (v := (.inr (.inr (M v0 3)))) hC dX8_person_1 rfl fl_X8_51 g1 rfl ?_
  refine aw_iconst (pc' := 5) hC dX8_person_4 rfl (by decide) ?_
  refine aw_iload_n (pc' := 6) (i := 1) hC dX8_person_5 rfl rfl rfl ?_
  obtain ⟨g3, h⟩ := gd_s h
  obtain ⟨x4, q2, h⟩ := pb_s h
  replace h := u1_s h
  refine aw_cV (pc' := 9) (k2 := 0) (n2 := 0) (st := []) (stN := [.inl x4]) hC [.inl 0, .inl v1] (mX5_isThere q2) lk_X8_135 g3 dX8_person_6 rfl rfl (Nat.le_of_ble_eq_true rfl) (Nat.le_of_ble_eq_true rfl) (Nat.le_of_ble_eq_true rfl) rfl (Nat.le_of_ble_eq_true rfl) rfl rfl rfl ?_
  refine aw_if_ne (tgt := 14) (pc' := 12) hC dX8_person_9 (by decide) rfl (fun c5 => ?_) (fun c5 => ?_)
  · replace h := it_n c5 h
    refine aw_iload_n (pc' := 15) (i := 2) hC dX8_person_14 rfl rfl rfl ?_
    by_cases c6 : v2 = 0
    · replace h := it_p c6 h
      refine aw_tsIn (tgt := 52) (off := 37) hC dX8_person_15 ⟨by omega, by omega, by rw [c6]; rfl⟩ (by decide) ?_
      refine aw_aload_n (pc' := 53) (i := 0) hC dX8_person_52 rfl rfl rfl ?_
      refine aw_getfield (pc' := 56) (v := (.inr (.inr (M v0 3)))) hC dX8_person_53 rfl fl_X8_51 g1 rfl ?_
      refine aw_getfield (pc' := 59) (v := (.inr (.inr (M (M v0 3) 2)))) hC dX8_person_56 rfl fl_X8_147 g3 rfl ?_
      refine aw_iload_n (pc' := 60) (i := 1) hC dX8_person_59 rfl rfl rfl ?_
      obtain ⟨g12, h⟩ := gd_s h
      refine aw_iaload (pc' := 61) hC dX8_person_60 rfl g12 ?_
      cases h
      exact aw_iret hC dX8_person_61 (Nat.le_of_ble_eq_true rfl) (Nat.le_of_ble_eq_true rfl)
    · replace h := it_n c6 h
      by_cases c7 : v2 = 1
      · replace h := it_p c7 h
        refine aw_tsIn (tgt := 62) (off := 47) hC dX8_person_15 ⟨by omega, by omega, by rw [c7]; rfl⟩ (by decide) ?_
        refine aw_aload_n (pc' := 63) (i := 0) hC dX8_person_62 rfl rfl rfl ?_
        refine aw_getfield (pc' := 66) (v := (.inr (.inr (M v0 4)))) hC dX8_person_63 rfl fl_X8_60 g1 rfl ?_
        refine aw_iload_n (pc' := 67) (i := 1) hC dX8_person_66 rfl rfl rfl ?_
        obtain ⟨g14, h⟩ := gd_s h
        obtain ⟨x15, q13, h⟩ := pb_s h
        replace h := u1_s h
        refine aw_cV (pc' := 70) (k2 := 0) (n2 := 0) (st := []) (stN := [.inl x15]) hC [.inl v1] (mX0_heldBy q13) lk_X8_150 g14 dX8_person_67 rfl rfl (Nat.le_of_ble_eq_true rfl) (Nat.le_of_ble_eq_true rfl) (Nat.le_of_ble_eq_true rfl) rfl (Nat.le_of_ble_eq_true rfl) rfl rfl rfl ?_
        cases h
        exact aw_iret hC dX8_person_70 (Nat.le_of_ble_eq_true rfl) (Nat.le_of_ble_eq_true rfl)
      · replace h := it_n c7 h
        by_cases c8 : v2 = 2
        · replace h := it_p c8 h
          refine aw_tsIn (tgt := 71) (off := 56) hC dX8_person_15 ⟨by omega, by omega, by rw [c8]; rfl⟩ (by decide) ?_
          refine aw_aload_n (pc' := 72) (i := 0) hC dX8_person_71 rfl rfl rfl ?_
          refine aw_getfield (pc' := 75) (v := (.inr (.inr (M v0 3)))) hC dX8_person_72 rfl fl_X8_51 g1 rfl ?_
          refine aw_aload_n (pc' := 76) (i := 0) hC dX8_person_75 rfl rfl rfl ?_
          refine aw_getfield (pc' := 79) (v := (.inr (.inr (M v0 4)))) hC dX8_person_76 rfl fl_X8_60 g1 rfl ?_
          refine aw_iload_n (pc' := 80) (i := 1) hC dX8_person_79 rfl rfl rfl ?_
          obtain ⟨g17, h⟩ := gd_s h
          obtain ⟨x18, q16, h⟩ := pb_s h
          replace h := u1_s h
          refine aw_cV (pc' := 83) (k2 := 0) (n2 := 0) (st := [.inr (.inr (M v0 3))]) (stN := [.inl x18, .inr (.inr (M v0 3))]) hC [.inl v1] (mX0_heldBy q16) lk_X8_150 g17 dX8_person_80 rfl rfl (Nat.le_of_ble_eq_true rfl) (Nat.le_of_ble_eq_true rfl) (Nat.le_of_ble_eq_true rfl) rfl (Nat.le_of_ble_eq_true rfl) rfl rfl rfl ?_
          obtain ⟨x20, q19, h⟩ := pb_s h
          replace h := u1_s h
          refine aw_cV (pc' := 86) (k2 := 0) (n2 := 0) (st := []) (stN := [.inl x20]) hC [.inl x18] (mX5_worthOf q19) lk_X8_153 g3 dX8_person_83 rfl rfl (Nat.le_of_ble_eq_true rfl) (Nat.le_of_ble_eq_true rfl) (Nat.le_of_ble_eq_true rfl) rfl (Nat.le_of_ble_eq_true rfl) rfl rfl rfl ?_
          cases h
          exact aw_iret hC dX8_person_86 (Nat.le_of_ble_eq_true rfl) (Nat.le_of_ble_eq_true rfl)
        · replace h := it_n c8 h
          by_cases c9 : v2 = 3
          · replace h := it_p c9 h
            refine aw_tsIn (tgt := 87) (off := 72) hC dX8_person_15 ⟨by omega, by omega, by rw [c9]; rfl⟩ (by decide) ?_
            refine aw_aload_n (pc' := 88) (i := 0) hC dX8_person_87 rfl rfl rfl ?_
            refine aw_getfield (pc' := 91) (v := (.inr (.inr (M v0 4)))) hC dX8_person_88 rfl fl_X8_60 g1 rfl ?_
            refine aw_iload_n (pc' := 92) (i := 1) hC dX8_person_91 rfl rfl rfl ?_
            obtain ⟨g22, h⟩ := gd_s h
            obtain ⟨x23, q21, h⟩ := pb_s h
            replace h := u1_s h
            refine aw_cV (pc' := 95) (k2 := 0) (n2 := 0) (st := []) (stN := [.inl x23]) hC [.inl v1] (mX0_knowing q21) lk_X8_156 g22 dX8_person_92 rfl rfl (Nat.le_of_ble_eq_true rfl) (Nat.le_of_ble_eq_true rfl) (Nat.le_of_ble_eq_true rfl) rfl (Nat.le_of_ble_eq_true rfl) rfl rfl rfl ?_
            cases h
            exact aw_iret hC dX8_person_95 (Nat.le_of_ble_eq_true rfl) (Nat.le_of_ble_eq_true rfl)
          · replace h := it_n c9 h
            by_cases c10 : v2 = 4
            · replace h := it_p c10 h
              refine aw_tsIn (tgt := 96) (off := 81) hC dX8_person_15 ⟨by omega, by omega, by rw [c10]; rfl⟩ (by decide) ?_
              refine aw_aload_n (pc' := 97) (i := 0) hC dX8_person_96 rfl rfl rfl ?_
              refine aw_getfield (pc' := 100) (v := (.inr (.inr (M v0 4)))) hC dX8_person_97 rfl fl_X8_60 g1 rfl ?_
              refine aw_iload_n (pc' := 101) (i := 1) hC dX8_person_100 rfl rfl rfl ?_
              obtain ⟨g25, h⟩ := gd_s h
              obtain ⟨x26, q24, h⟩ := pb_s h
              replace h := u1_s h
              refine aw_cV (pc' := 104) (k2 := 0) (n2 := 0) (st := []) (stN := [.inl x26]) hC [.inl v1] (mX0_snubbedBy q24) lk_X8_159 g25 dX8_person_101 rfl rfl (Nat.le_of_ble_eq_true rfl) (Nat.le_of_ble_eq_true rfl) (Nat.le_of_ble_eq_true rfl) rfl (Nat.le_of_ble_eq_true rfl) rfl rfl rfl ?_
              cases h
              exact aw_iret hC dX8_person_104 (Nat.le_of_ble_eq_true rfl) (Nat.le_of_ble_eq_true rfl)
            · replace h := it_n c10 h
              by_cases c11 : v2 = 5
              · replace h := it_p c11 h
                refine aw_tsIn (tgt := 105) (off := 90) hC dX8_person_15 ⟨by omega, by omega, by rw [c11]; rfl⟩ (by decide) ?_
                refine aw_aload_n (pc' := 106) (i := 0) hC dX8_person_105 rfl rfl rfl ?_
                refine aw_getfield (pc' := 109) (v := (.inr (.inr (M v0 4)))) hC dX8_person_106 rfl fl_X8_60 g1 rfl ?_
                refine aw_iload_n (pc' := 110) (i := 1) hC dX8_person_109 rfl rfl rfl ?_
                obtain ⟨g28, h⟩ := gd_s h
                obtain ⟨x29, q27, h⟩ := pb_s h
                replace h := u1_s h
                refine aw_cV (pc' := 113) (k2 := 0) (n2 := 0) (st := []) (stN := [.inl x29]) hC [.inl v1] (mX0_isUseless q27) lk_X8_162 g28 dX8_person_110 rfl rfl (Nat.le_of_ble_eq_true rfl) (Nat.le_of_ble_eq_true rfl) (Nat.le_of_ble_eq_true rfl) rfl (Nat.le_of_ble_eq_true rfl) rfl rfl rfl ?_
                refine aw_if_eq (tgt := 120) (pc' := 116) hC dX8_person_113 (by decide) rfl (fun c30 => ?_) (fun c30 => ?_)
                · replace h := it_p c30 h
                  refine aw_iconst (pc' := 121) hC dX8_person_120 rfl (by decide) ?_
                  cases h
                  exact aw_iret hC dX8_person_121 (Nat.le_of_ble_eq_true rfl) (Nat.le_of_ble_eq_true rfl)
                · replace h := it_n c30 h
                  refine aw_iconst (pc' := 117) hC dX8_person_116 rfl (by decide) ?_
                  refine aw_goto (tgt := 121) hC dX8_person_117 (by decide) ?_
                  cases h
                  exact aw_iret hC dX8_person_121 (Nat.le_of_ble_eq_true rfl) (Nat.le_of_ble_eq_true rfl)
              · replace h := it_n c11 h
                refine aw_tsOut (tgt := 122) hC dX8_person_15 (by omega) (by decide) ?_
                refine aw_iconst (pc' := 123) hC dX8_person_122 rfl (by decide) ?_
                cases h
                exact aw_iret hC dX8_person_123 (Nat.le_of_ble_eq_true rfl) (Nat.le_of_ble_eq_true rfl)
  · replace h := it_p c5 h
    refine aw_iconst (pc' := 13) hC dX8_person_12 rfl (by decide) ?_
    cases h
    exact aw_iret hC dX8_person_13 (Nat.le_of_ble_eq_true rfl) (Nat.le_of_ble_eq_true rfl)
-- CoinCircle.coin(II)I
def fX8_coin (sh : AwS) (M : AwM) (v0 : Int) (v1 : Int) (v2 : Int) : Option Int :=
  gd_ (kd_ sh v0 = (0, 8)) (gd_ (kd_ sh (M v0 3) = (0, 5)) (pb (fX5_isThere sh M (M v0 3) 1 v1) <| u1 fun (x4 : Int) => ((if x4 = 0 then some (-1) else (if v2 = 0 then gd_ ((kd_ sh (M (M v0 3) 3)).1 = 1 ∧ (0 : Int) ≤ v1 ∧ v1 < ((kd_ sh (M (M v0 3) 3)).2 : Int)) (some (M (M (M v0 3) 3) v1)) else (if v2 = 1 then gd_ (kd_ sh (M v0 4) = (0, 0)) (gd_ (kd_ sh (M (M v0 4) 0) = (0, 3)) (gd_ ((kd_ sh (M (M (M v0 4) 0) 1)).1 = 1 ∧ (0 : Int) ≤ v1 ∧ v1 < ((kd_ sh (M (M (M v0 4) 0) 1)).2 : Int)) (some (M (M (M (M v0 4) 0) 1) v1)))) else (if v2 = 2 then gd_ (kd_ sh (M v0 4) = (0, 0)) (gd_ (kd_ sh (M (M v0 4) 0) = (0, 3)) (gd_ ((kd_ sh (M (M (M v0 4) 0) 2)).1 = 1 ∧ (0 : Int) ≤ v1 ∧ v1 < ((kd_ sh (M (M (M v0 4) 0) 2)).2 : Int)) (some (M (M (M (M v0 4) 0) 2) v1)))) else (if v2 = 3 then gd_ (kd_ sh (M v0 4) = (0, 0)) (gd_ (kd_ sh (M (M v0 4) 0) = (0, 3)) (gd_ ((kd_ sh (M (M (M v0 4) 0) 3)).1 = 1 ∧ (0 : Int) ≤ v1 ∧ v1 < ((kd_ sh (M (M (M v0 4) 0) 3)).2 : Int)) (some (M (M (M (M v0 4) 0) 3) v1)))) else (if v2 = 4 then gd_ (kd_ sh (M v0 4) = (0, 0)) (gd_ (kd_ sh (M (M v0 4) 0) = (0, 3)) (gd_ ((kd_ sh (M (M (M v0 4) 0) 2)).1 = 1 ∧ (0 : Int) ≤ v1 ∧ v1 < ((kd_ sh (M (M (M v0 4) 0) 2)).2 : Int)) (pb (fJ6_bitCount_0f7a4 sh M (M (M (M (M v0 4) 0) 2) v1)) <| u1 fun (x25 : Int) => (some x25)))) else some (-1))))))))))
set_option maxRecDepth 100000 in
set_option maxHeartbeats 4000000 in
theorem mX8_coin {sh : AwS} {M : AwM} {v0 : Int} {v1 : Int} {v2 : Int} {r : Int} (h : fX8_coin sh M v0 v1 v2 = some r) : AMet yX8_coin cX8_coin 3 (some .int) 2 0 0 [.inr (.inr v0), .inl v1, .inl v2] sh M (some (.inl r)) sh M := by
  refine amet_of (by decide +kernel) (Nat.le_of_ble_eq_true rfl) (fun Γ hC => ?_)
  replace hC : AOK Γ RX8 cX8_coin 3 2 0 0 "coin" (some .int) := hC
  unfold fX8_coin at h
  refine aw_sub hC [some (.inr (.inr v0)), some (.inl v1), some (.inl v2)] ⟨rfl, ⟨rfl, ⟨rfl, trivial⟩⟩⟩ (Nat.le_of_ble_eq_true rfl) ?_
  refine aw_aload_n (pc' := 1) (i := 0) hC dX8_coin_0 rfl rfl rfl ?_
  obtain ⟨g1, h⟩ := gd_s h
  refine aw_getfield (pc' := 4) (v := (.inr (.inr (M v0 3)))) hC dX8_coin_1 rfl fl_X8_51 g1 rfl ?_
  refine aw_iconst (pc' := 5) hC dX8_coin_4 rfl (by decide) ?_
  refine aw_iload_n (pc' := 6) (i := 1) hC dX8_coin_5 rfl rfl rfl ?_
  obtain ⟨g3, h⟩ := gd_s h
  obtain ⟨x4, q2, h⟩ := pb_s h
  replace h := u1_s h
  refine aw_cV (pc' := 9) (k2 := 0) (n2 := 0) (st := []) (stN := [.inl x4]) hC [.inl 1, .inl v1] (mX5_isThere q2) lk_X8_135 g3 dX8_coin_6 rfl rfl (Nat.le_of_ble_eq_true rfl) (Nat.le_of_ble_eq_true rfl) (Nat.le_of_ble_eq_true rfl) rfl (Nat.le_of_ble_eq_true rfl) rfl rfl rfl ?_
  refine aw_if_ne (tgt := 14) (pc' := 12) hC dX8_coin_9 (by decide) rfl (fun c5 => ?_) (fun c5 => ?_)
  · replace h := it_n c5 h
    refine aw_iload_n (pc' := 15) (i := 2) hC dX8_coin_14 rfl rfl rfl ?_
    by_cases c6 : v2 = 0
    · replace h := it_p c6 h
      refine aw_tsIn (tgt := 48) (off := 33) hC dX8_coin_15 ⟨by omega, by omega, by rw [c6]; rfl⟩ (by decide) ?_
      refine aw_aload_n (pc' := 49) (i := 0) hC dX8_coin_48 rfl rfl rfl ?_
      refine aw_getfield (pc' := 52) (v := (.inr (.inr (M v0 3)))) hC dX8_coin_49 rfl fl_X8_51 g1 rfl ?_
      refine aw_getfield (pc' := 55) (v := (.inr (.inr (M (M v0 3) 3)))) hC dX8_coin_52 rfl fl_X8_166 g3 rfl ?_
      refine aw_iload_n (pc' := 56) (i := 1) hC dX8_coin_55 rfl rfl rfl ?_
      obtain ⟨g11, h⟩ := gd_s h
      refine aw_iaload (pc' := 57) hC dX8_coin_56 rfl g11 ?_
      cases h
      exact aw_iret hC dX8_coin_57 (Nat.le_of_ble_eq_true rfl) (Nat.le_of_ble_eq_true rfl)
    · replace h := it_n c6 h
      by_cases c7 : v2 = 1
      · replace h := it_p c7 h
        refine aw_tsIn (tgt := 58) (off := 43) hC dX8_coin_15 ⟨by omega, by omega, by rw [c7]; rfl⟩ (by decide) ?_
        refine aw_aload_n (pc' := 59) (i := 0) hC dX8_coin_58 rfl rfl rfl ?_
        refine aw_getfield (pc' := 62) (v := (.inr (.inr (M v0 4)))) hC dX8_coin_59 rfl fl_X8_60 g1 rfl ?_
        obtain ⟨g12, h⟩ := gd_s h
        refine aw_getfield (pc' := 65) (v := (.inr (.inr (M (M v0 4) 0)))) hC dX8_coin_62 rfl fl_X8_110 g12 rfl ?_
        obtain ⟨g13, h⟩ := gd_s h
        refine aw_getfield (pc' := 68) (v := (.inr (.inr (M (M (M v0 4) 0) 1)))) hC dX8_coin_65 rfl fl_X8_169 g13 rfl ?_
        refine aw_iload_n (pc' := 69) (i := 1) hC dX8_coin_68 rfl rfl rfl ?_
        obtain ⟨g14, h⟩ := gd_s h
        refine aw_iaload (pc' := 70) hC dX8_coin_69 rfl g14 ?_
        cases h
        exact aw_iret hC dX8_coin_70 (Nat.le_of_ble_eq_true rfl) (Nat.le_of_ble_eq_true rfl)
      · replace h := it_n c7 h
        by_cases c8 : v2 = 2
        · replace h := it_p c8 h
          refine aw_tsIn (tgt := 71) (off := 56) hC dX8_coin_15 ⟨by omega, by omega, by rw [c8]; rfl⟩ (by decide) ?_
          refine aw_aload_n (pc' := 72) (i := 0) hC dX8_coin_71 rfl rfl rfl ?_
          refine aw_getfield (pc' := 75) (v := (.inr (.inr (M v0 4)))) hC dX8_coin_72 rfl fl_X8_60 g1 rfl ?_
          obtain ⟨g15, h⟩ := gd_s h
          refine aw_getfield (pc' := 78) (v := (.inr (.inr (M (M v0 4) 0)))) hC dX8_coin_75 rfl fl_X8_110 g15 rfl ?_
          obtain ⟨g16, h⟩ := gd_s h
          refine aw_getfield (pc' := 81) (v := (.inr (.inr (M (M (M v0 4) 0) 2)))) hC dX8_coin_78 rfl fl_X8_172 g16 rfl ?_
          refine aw_iload_n (pc' := 82) (i := 1) hC dX8_coin_81 rfl rfl rfl ?_
          obtain ⟨g17, h⟩ := gd_s h
          refine aw_iaload (pc' := 83) hC dX8_coin_82 rfl g17 ?_
          cases h
          exact aw_iret hC dX8_coin_83 (Nat.le_of_ble_eq_true rfl) (Nat.le_of_ble_eq_true rfl)
        · replace h := it_n c8 h
          by_cases c9 : v2 = 3
          · replace h := it_p c9 h
            refine aw_tsIn (tgt := 84) (off := 69) hC dX8_coin_15 ⟨by omega, by omega, by rw [c9]; rfl⟩ (by decide) ?_
            refine aw_aload_n (pc' := 85) (i := 0) hC dX8_coin_84 rfl rfl rfl ?_
            refine aw_getfield (pc' := 88) (v := (.inr (.inr (M v0 4)))) hC dX8_coin_85 rfl fl_X8_60 g1 rfl ?_
            obtain ⟨g18, h⟩ := gd_s h
            refine aw_getfield (pc' := 91) (v := (.inr (.inr (M (M v0 4) 0)))) hC dX8_coin_88 rfl fl_X8_110 g18 rfl ?_
            obtain ⟨g19, h⟩ := gd_s h
            refine aw_getfield (pc' := 94) (v := (.inr (.inr (M (M (M v0 4) 0) 3)))) hC dX8_coin_91 rfl fl_X8_175 g19 rfl ?_
            refine aw_iload_n (pc' := 95) (i := 1) hC dX8_coin_94 rfl rfl rfl ?_
            obtain ⟨g20, h⟩ := gd_s h
            refine aw_iaload (pc' := 96) hC dX8_coin_95 rfl g20 ?_
            cases h
            exact aw_iret hC dX8_coin_96 (Nat.le_of_ble_eq_true rfl) (Nat.le_of_ble_eq_true rfl)
          · replace h := it_n c9 h
            by_cases c10 : v2 = 4
            · replace h := it_p c10 h
              refine aw_tsIn (tgt := 97) (off := 82) hC dX8_coin_15 ⟨by omega, by omega, by rw [c10]; rfl⟩ (by decide) ?_
              refine aw_aload_n (pc' := 98) (i := 0) hC dX8_coin_97 rfl rfl rfl ?_
              refine aw_getfield (pc' := 101) (v := (.inr (.inr (M v0 4)))) hC dX8_coin_98 rfl fl_X8_60 g1 rfl ?_
              obtain ⟨g21, h⟩ := gd_s h
              refine aw_getfield (pc' := 104) (v := (.inr (.inr (M (M v0 4) 0)))) hC dX8_coin_101 rfl fl_X8_110 g21 rfl ?_
              obtain ⟨g22, h⟩ := gd_s h
              refine aw_getfield (pc' := 107) (v := (.inr (.inr (M (M (M v0 4) 0) 2)))) hC dX8_coin_104 rfl fl_X8_172 g22 rfl ?_
              refine aw_iload_n (pc' := 108) (i := 1) hC dX8_coin_107 rfl rfl rfl ?_
              obtain ⟨g23, h⟩ := gd_s h
              refine aw_iaload (pc' := 109) hC dX8_coin_108 rfl g23 ?_
              obtain ⟨x25, q24, h⟩ := pb_s h
              replace h := u1_s h
              refine aw_cS (pc' := 112) (k2 := 0) (n2 := 0) (st := []) (stN := [.inl x25]) hC [.inl (M (M (M (M v0 4) 0) 2) v1)] (mJ6_bitCount_0f7a4 q24) lk_X8_178 dX8_coin_109 rfl rfl (Nat.le_of_ble_eq_true rfl) (Nat.le_of_ble_eq_true rfl) (Nat.le_of_ble_eq_true rfl) rfl (Nat.le_of_ble_eq_true rfl) rfl rfl rfl ?_
              cases h
              exact aw_iret hC dX8_coin_112 (Nat.le_of_ble_eq_true rfl) (Nat.le_of_ble_eq_true rfl)
            · replace h := it_n c10 h
              refine aw_tsOut (tgt := 113) hC dX8_coin_15 (by omega) (by decide) ?_
              refine aw_iconst (pc' := 114) hC dX8_coin_113 rfl (by decide) ?_
              cases h
              exact aw_iret hC dX8_coin_114 (Nat.le_of_ble_eq_true rfl) (Nat.le_of_ble_eq_true rfl)
  · replace h := it_p c5 h
    refine aw_iconst (pc' := 13) hC dX8_coin_12 rfl (by decide) ?_
    cases h
    exact aw_iret hC dX8_coin_13 (Nat.le_of_ble_eq_true rfl) (Nat.le_of_ble_eq_true rfl)
-- CoinCircle.areThere(II)Z
def fX8_areThere (sh : AwS) (M : AwM) (v0 : Int) (v1 : Int) (v2 : Int) : Option Int :=
  gd_ (kd_ sh v0 = (0, 8)) (gd_ (kd_ sh (M v0 3) = (0, 5)) (pb (fX5_isThere sh M (M v0 3) 1 v1) <| u1 fun (x4 : Int) => ((if x4 = 0 then some 0 else pb (fX5_isThere sh M (M v0 3) 0 v2) <| u1 fun (x7 : Int) => ((if x7 = 0 then some 0 else some 1))))))
set_option maxRecDepth 100000 in
set_option maxHeartbeats 4000000 in
theorem mX8_areThere {sh : AwS} {M : AwM} {v0 : Int} {v1 : Int} {v2 : Int} {r : Int} (h : fX8_areThere sh M v0 v1 v2 = some r) : AMet yX8_areThere cX8_areThere 3 (some .boolean) 2 0 0 [.inr (.inr v0), .inl v1, .inl v2] sh M (some (.inl r)) sh M := by
  refine amet_of (by decide +kernel) (Nat.le_of_ble_eq_true rfl) (fun Γ hC => ?_)
  replace hC : AOK Γ RX8 cX8_areThere 3 2 0 0 "areThere" (some .boolean) := hC
  unfold fX8_areThere at h
  refine aw_sub hC [some (.inr (.inr v0)), some (.inl v1), some (.inl v2)] ⟨rfl, ⟨rfl, ⟨rfl, trivial⟩⟩⟩ (Nat.le_of_ble_eq_true rfl) ?_
  refine aw_aload_n (pc' := 1) (i := 0) hC dX8_areThere_0 rfl rfl rfl ?_
  obtain ⟨g1, h⟩ := gd_s h
  refine aw_getfield (pc' := 4) (v := (.inr (.inr (M v0 3)))) hC dX8_areThere_1 rfl fl_X8_51 g1 rfl ?_
  refine aw_iconst (pc' := 5) hC dX8_areThere_4 rfl (by decide) ?_
  refine aw_iload_n (pc' := 6) (i := 1) hC dX8_areThere_5 rfl rfl rfl ?_
  obtain ⟨g3, h⟩ := gd_s h
  obtain ⟨x4, q2, h⟩ := pb_s h
  replace h := u1_s h
  refine aw_cV (pc' := 9) (k2 := 0) (n2 := 0) (st := []) (stN := [.inl x4]) hC [.inl 1, .inl v1] (mX5_isThere q2) lk_X8_135 g3 dX8_areThere_6 rfl rfl (Nat.le_of_ble_eq_true rfl) (Nat.le_of_ble_eq_true rfl) (Nat.le_of_ble_eq_true rfl) rfl (Nat.le_of_ble_eq_true rfl) rfl rfl rfl ?_
  refine aw_if_eq (tgt := 28) (pc' := 12) hC dX8_areThere_9 (by decide) rfl (fun c5 => ?_) (fun c5 => ?_)
  · replace h := it_p c5 h
    refine aw_iconst (pc' := 29) hC dX8_areThere_28 rfl (by decide) ?_
    cases h
    exact aw_zret hC (Or.inl rfl) dX8_areThere_29 (Nat.le_of_ble_eq_true rfl) (Nat.le_of_ble_eq_true rfl)
  · replace h := it_n c5 h
    refine aw_aload_n (pc' := 13) (i := 0) hC dX8_areThere_12 rfl rfl rfl ?_
    refine aw_getfield (pc' := 16) (v := (.inr (.inr (M v0 3)))) hC dX8_areThere_13 rfl fl_X8_51 g1 rfl ?_
    refine aw_iconst (pc' := 17) hC dX8_areThere_16 rfl (by decide) ?_
    refine aw_iload_n (pc' := 18) (i := 2) hC dX8_areThere_17 rfl rfl rfl ?_
    obtain ⟨x7, q6, h⟩ := pb_s h
    replace h := u1_s h
    refine aw_cV (pc' := 21) (k2 := 0) (n2 := 0) (st := []) (stN := [.inl x7]) hC [.inl 0, .inl v2] (mX5_isThere q6) lk_X8_135 g3 dX8_areThere_18 rfl rfl (Nat.le_of_ble_eq_true rfl) (Nat.le_of_ble_eq_true rfl) (Nat.le_of_ble_eq_true rfl) rfl (Nat.le_of_ble_eq_true rfl) rfl rfl rfl ?_
    refine aw_if_eq (tgt := 28) (pc' := 24) hC dX8_areThere_21 (by decide) rfl (fun c8 => ?_) (fun c8 => ?_)
    · replace h := it_p c8 h
      refine aw_iconst (pc' := 29) hC dX8_areThere_28 rfl (by decide) ?_
      cases h
      exact aw_zret hC (Or.inl rfl) dX8_areThere_29 (Nat.le_of_ble_eq_true rfl) (Nat.le_of_ble_eq_true rfl)
    · replace h := it_n c8 h
      refine aw_iconst (pc' := 25) hC dX8_areThere_24 rfl (by decide) ?_
      refine aw_goto (tgt := 29) hC dX8_areThere_25 (by decide) ?_
      cases h
      exact aw_zret hC (Or.inr rfl) dX8_areThere_29 (Nat.le_of_ble_eq_true rfl) (Nat.le_of_ble_eq_true rfl)
-- CoinCircle$Ledger.metOn(II)I
def fX3_metOn (sh : AwS) (M : AwM) (v0 : Int) (v1 : Int) (v2 : Int) : Option Int :=
  (if (w32 ((w32 (v1 * 10)) + v2)) < 0 then some (-1) else (if (w32 ((w32 (v1 * 10)) + v2)) < 120 then gd_ (kd_ sh v0 = (0, 3)) (gd_ ((kd_ sh (M v0 4)).1 = 1 ∧ (0 : Int) ≤ (w32 ((w32 (v1 * 10)) + v2)) ∧ (w32 ((w32 (v1 * 10)) + v2)) < ((kd_ sh (M v0 4)).2 : Int)) (some (M (M v0 4) (w32 ((w32 (v1 * 10)) + v2))))) else some (-1)))
set_option maxRecDepth 100000 in
set_option maxHeartbeats 4000000 in
theorem mX3_metOn {sh : AwS} {M : AwM} {v0 : Int} {v1 : Int} {v2 : Int} {r : Int} (h : fX3_metOn sh M v0 v1 v2 = some r) : AMet yX3_metOn cX3_metOn 4 (some .int) 1 0 0 [.inr (.inr v0), .inl v1, .inl v2] sh M (some (.inl r)) sh M := by
  refine amet_of (by decide +kernel) (Nat.le_of_ble_eq_true rfl) (fun Γ hC => ?_)
  replace hC : AOK Γ RX3 cX3_metOn 4 1 0 0 "metOn" (some .int) := hC
  unfold fX3_metOn at h
  refine aw_sub hC [some (.inr (.inr v0)), some (.inl v1), some (.inl v2), none] ⟨rfl, ⟨rfl, ⟨rfl, trivial⟩⟩⟩ (Nat.le_of_ble_eq_true rfl) ?_
  refine aw_iload_n (pc' := 1) (i := 1) hC dX3_metOn_0 rfl rfl rfl ?_
  refine aw_bipush (pc' := 3) hC dX3_metOn_1 rfl (by decide) ?_
  refine aw_imul (pc' := 4) hC dX3_metOn_3 rfl  ?_
  refine aw_iload_n (pc' := 5) (i := 2) hC dX3_metOn_4 rfl rfl rfl ?_
  refine aw_iadd (pc' := 6) hC dX3_metOn_5 rfl  ?_
  refine aw_istore_n (pc' := 7) (i := 3) (ls' := [some (.inr (.inr v0)), some (.inl v1), some (.inl v2), some (.inl (w32 ((w32 (v1 * 10)) + v2)))]) hC dX3_metOn_6 rfl rfl (Nat.le_of_ble_eq_true rfl) rfl rfl ?_
  refine aw_iload_n (pc' := 8) (i := 3) hC dX3_metOn_7 rfl rfl rfl ?_
  refine aw_if_lt (tgt := 26) (pc' := 11) hC dX3_metOn_8 (by decide) rfl (fun c1 => ?_) (fun c1 => ?_)
  · replace h := it_p c1 h
    refine aw_iconst (pc' := 27) hC dX3_metOn_26 rfl (by decide) ?_
    cases h
    exact aw_iret hC dX3_metOn_27 (Nat.le_of_ble_eq_true rfl) (Nat.le_of_ble_eq_true rfl)
  · replace h := it_n c1 h
    refine aw_iload_n (pc' := 12) (i := 3) hC dX3_metOn_11 rfl rfl rfl ?_
    refine aw_bipush (pc' := 14) hC dX3_metOn_12 rfl (by decide) ?_
    refine aw_icmp_ge (tgt := 26) (pc' := 17) hC dX3_metOn_14 (by decide) rfl (fun c2 => ?_) (fun c2 => ?_)
    · replace h := it_n c2 h
      refine aw_iconst (pc' := 27) hC dX3_metOn_26 rfl (by decide) ?_
      cases h
      exact aw_iret hC dX3_metOn_27 (Nat.le_of_ble_eq_true rfl) (Nat.le_of_ble_eq_true rfl)
    · replace h := it_p c2 h
      refine aw_aload_n (pc' := 18) (i := 0) hC dX3_metOn_17 rfl rfl rfl ?_
      obtain ⟨g3, h⟩ := gd_s h
      refine aw_getfield (pc' := 21) (v := (.inr (.inr (M v0 4)))) hC dX3_metOn_18 rfl fl_X3_21 g3 rfl ?_
      refine aw_iload_n (pc' := 22) (i := 3) hC dX3_metOn_21 rfl rfl rfl ?_
      obtain ⟨g4, h⟩ := gd_s h
      refine aw_iaload (pc' := 23) hC dX3_metOn_22 rfl g4 ?_
      refine aw_goto (tgt := 27) hC dX3_metOn_23 (by decide) ?_
      cases h
      exact aw_iret hC dX3_metOn_27 (Nat.le_of_ble_eq_true rfl) (Nat.le_of_ble_eq_true rfl)
-- CoinCircle.met(II)I
def fX8_met (sh : AwS) (M : AwM) (v0 : Int) (v1 : Int) (v2 : Int) : Option Int :=
  gd_ (kd_ sh v0 = (0, 8)) (pb (fX8_areThere sh M v0 v1 v2) <| u1 fun (x3 : Int) => ((if x3 = 0 then some (-1) else gd_ (kd_ sh (M v0 4) = (0, 0)) (pb (fX0_knows sh M (M v0 4) v1 v2) <| u1 fun (x7 : Int) => ((if x7 = 0 then some (-1) else gd_ (kd_ sh (M (M v0 4) 0) = (0, 3)) (pb (fX3_metOn sh M (M (M v0 4) 0) v1 v2) <| u1 fun (x11 : Int) => (some x11))))))))
set_option maxRecDepth 100000 in
set_option maxHeartbeats 4000000 in
theorem mX8_met {sh : AwS} {M : AwM} {v0 : Int} {v1 : Int} {v2 : Int} {r : Int} (h : fX8_met sh M v0 v1 v2 = some r) : AMet yX8_met cX8_met 3 (some .int) 3 0 0 [.inr (.inr v0), .inl v1, .inl v2] sh M (some (.inl r)) sh M := by
  refine amet_of (by decide +kernel) (Nat.le_of_ble_eq_true rfl) (fun Γ hC => ?_)
  replace hC : AOK Γ RX8 cX8_met 3 3 0 0 "met" (some .int) := hC
  unfold fX8_met at h
  refine aw_sub hC [some (.inr (.inr v0)), some (.inl v1), some (.inl v2)] ⟨rfl, ⟨rfl, ⟨rfl, trivial⟩⟩⟩ (Nat.le_of_ble_eq_true rfl) ?_
  refine aw_aload_n (pc' := 1) (i := 0) hC dX8_met_0 rfl rfl rfl ?_
  refine aw_iload_n (pc' := 2) (i := 1) hC dX8_met_1 rfl rfl rfl ?_
  refine aw_iload_n (pc' := 3) (i := 2) hC dX8_met_2 rfl rfl rfl ?_
  obtain ⟨g2, h⟩ := gd_s h
  obtain ⟨x3, q1, h⟩ := pb_s h
  replace h := u1_s h
  refine aw_cV (pc' := 6) (k2 := 0) (n2 := 0) (st := []) (stN := [.inl x3]) hC [.inl v1, .inl v2] (mX8_areThere q1) lk_X8_183 g2 dX8_met_3 rfl rfl (Nat.le_of_ble_eq_true rfl) (Nat.le_of_ble_eq_true rfl) (Nat.le_of_ble_eq_true rfl) rfl (Nat.le_of_ble_eq_true rfl) rfl rfl rfl ?_
  refine aw_if_eq (tgt := 21) (pc' := 9) hC dX8_met_6 (by decide) rfl (fun c4 => ?_) (fun c4 => ?_)
  · replace h := it_p c4 h
    refine aw_iconst (pc' := 22) hC dX8_met_21 rfl (by decide) ?_
    cases h
    exact aw_iret hC dX8_met_22 (Nat.le_of_ble_eq_true rfl) (Nat.le_of_ble_eq_true rfl)
  · replace h := it_n c4 h
    refine aw_aload_n (pc' := 10) (i := 0) hC dX8_met_9 rfl rfl rfl ?_
    refine aw_getfield (pc' := 13) (v := (.inr (.inr (M v0 4)))) hC dX8_met_10 rfl fl_X8_60 g2 rfl ?_
    refine aw_iload_n (pc' := 14) (i := 1) hC dX8_met_13 rfl rfl rfl ?_
    refine aw_iload_n (pc' := 15) (i := 2) hC dX8_met_14 rfl rfl rfl ?_
    obtain ⟨g6, h⟩ := gd_s h
    obtain ⟨x7, q5, h⟩ := pb_s h
    replace h := u1_s h
    refine aw_cV (pc' := 18) (k2 := 0) (n2 := 0) (st := []) (stN := [.inl x7]) hC [.inl v1, .inl v2] (mX0_knows q5) lk_X8_186 g6 dX8_met_15 rfl rfl (Nat.le_of_ble_eq_true rfl) (Nat.le_of_ble_eq_true rfl) (Nat.le_of_ble_eq_true rfl) rfl (Nat.le_of_ble_eq_true rfl) rfl rfl rfl ?_
    refine aw_if_ne (tgt := 23) (pc' := 21) hC dX8_met_18 (by decide) rfl (fun c8 => ?_) (fun c8 => ?_)
    · replace h := it_n c8 h
      refine aw_aload_n (pc' := 24) (i := 0) hC dX8_met_23 rfl rfl rfl ?_
      refine aw_getfield (pc' := 27) (v := (.inr (.inr (M v0 4)))) hC dX8_met_24 rfl fl_X8_60 g2 rfl ?_
      refine aw_getfield (pc' := 30) (v := (.inr (.inr (M (M v0 4) 0)))) hC dX8_met_27 rfl fl_X8_110 g6 rfl ?_
      refine aw_iload_n (pc' := 31) (i := 1) hC dX8_met_30 rfl rfl rfl ?_
      refine aw_iload_n (pc' := 32) (i := 2) hC dX8_met_31 rfl rfl rfl ?_
      obtain ⟨g10, h⟩ := gd_s h
      obtain ⟨x11, q9, h⟩ := pb_s h
      replace h := u1_s h
      refine aw_cV (pc' := 35) (k2 := 0) (n2 := 0) (st := []) (stN := [.inl x11]) hC [.inl v1, .inl v2] (mX3_metOn q9) lk_X8_189 g10 dX8_met_32 rfl rfl (Nat.le_of_ble_eq_true rfl) (Nat.le_of_ble_eq_true rfl) (Nat.le_of_ble_eq_true rfl) rfl (Nat.le_of_ble_eq_true rfl) rfl rfl rfl ?_
      cases h
      exact aw_iret hC dX8_met_35 (Nat.le_of_ble_eq_true rfl) (Nat.le_of_ble_eq_true rfl)
    · replace h := it_p c8 h
      refine aw_iconst (pc' := 22) hC dX8_met_21 rfl (by decide) ?_
      cases h
      exact aw_iret hC dX8_met_22 (Nat.le_of_ble_eq_true rfl) (Nat.le_of_ble_eq_true rfl)
-- CoinCircle$Circle.canBePresented(II)Z
def fX0_canBePresented (sh : AwS) (M : AwM) (v0 : Int) (v1 : Int) (v2 : Int) : Option Int :=
  gd_ (kd_ sh v0 = (0, 0)) (pb (fX0_knows sh M v0 v1 v2) <| u1 fun (x3 : Int) => ((if x3 = 0 then gd_ (kd_ sh (M v0 0) = (0, 3)) (gd_ ((kd_ sh (M (M v0 0) 3)).1 = 1 ∧ (0 : Int) ≤ v1 ∧ v1 < ((kd_ sh (M (M v0 0) 3)).2 : Int)) (pb (fX8_isIn sh M (M (M (M v0 0) 3) v1) v2) <| u1 fun (x8 : Int) => ((if x8 = 0 then some 1 else some 0)))) else some 0)))
set_option maxRecDepth 100000 in
set_option maxHeartbeats 4000000 in
theorem mX0_canBePresented {sh : AwS} {M : AwM} {v0 : Int} {v1 : Int} {v2 : Int} {r : Int} (h : fX0_canBePresented sh M v0 v1 v2 = some r) : AMet yX0_canBePresented cX0_canBePresented 3 (some .boolean) 3 0 0 [.inr (.inr v0), .inl v1, .inl v2] sh M (some (.inl r)) sh M := by
  refine amet_of (by decide +kernel) (Nat.le_of_ble_eq_true rfl) (fun Γ hC => ?_)
  replace hC : AOK Γ RX0 cX0_canBePresented 3 3 0 0 "canBePresented" (some .boolean) := hC
  unfold fX0_canBePresented at h
  refine aw_sub hC [some (.inr (.inr v0)), some (.inl v1), some (.inl v2)] ⟨rfl, ⟨rfl, ⟨rfl, trivial⟩⟩⟩ (Nat.le_of_ble_eq_true rfl) ?_
  refine aw_aload_n (pc' := 1) (i := 0) hC dX0_canBePresented_0 rfl rfl rfl ?_
  refine aw_iload_n (pc' := 2) (i := 1) hC dX0_canBePresented_1 rfl rfl rfl ?_
  refine aw_iload_n (pc' := 3) (i := 2) hC dX0_canBePresented_2 rfl rfl rfl ?_
  obtain ⟨g2, h⟩ := gd_s h
  obtain ⟨x3, q1, h⟩ := pb_s h
  replace h := u1_s h
  refine aw_cV (pc' := 6) (k2 := 0) (n2 := 0) (st := []) (stN := [.inl x3]) hC [.inl v1, .inl v2] (mX0_knows q1) lk_X0_59 g2 dX0_canBePresented_3 rfl rfl (Nat.le_of_ble_eq_true rfl) (Nat.le_of_ble_eq_true rfl) (Nat.le_of_ble_eq_true rfl) rfl (Nat.le_of_ble_eq_true rfl) rfl rfl rfl ?_
  refine aw_if_ne (tgt := 29) (pc' := 9) hC dX0_canBePresented_6 (by decide) rfl (fun c4 => ?_) (fun c4 => ?_)
  · replace h := it_n c4 h
    refine aw_iconst (pc' := 30) hC dX0_canBePresented_29 rfl (by decide) ?_
    cases h
    exact aw_zret hC (Or.inl rfl) dX0_canBePresented_30 (Nat.le_of_ble_eq_true rfl) (Nat.le_of_ble_eq_true rfl)
  · replace h := it_p c4 h
    refine aw_aload_n (pc' := 10) (i := 0) hC dX0_canBePresented_9 rfl rfl rfl ?_
    refine aw_getfield (pc' := 13) (v := (.inr (.inr (M v0 0)))) hC dX0_canBePresented_10 rfl fl_X0_12 g2 rfl ?_
    obtain ⟨g5, h⟩ := gd_s h
    refine aw_getfield (pc' := 16) (v := (.inr (.inr (M (M v0 0) 3)))) hC dX0_canBePresented_13 rfl fl_X0_40 g5 rfl ?_
    refine aw_iload_n (pc' := 17) (i := 1) hC dX0_canBePresented_16 rfl rfl rfl ?_
    obtain ⟨g6, h⟩ := gd_s h
    refine aw_iaload (pc' := 18) hC dX0_canBePresented_17 rfl g6 ?_
    refine aw_iload_n (pc' := 19) (i := 2) hC dX0_canBePresented_18 rfl rfl rfl ?_
    obtain ⟨x8, q7, h⟩ := pb_s h
    replace h := u1_s h
    refine aw_cSN (pc' := 22) (k2 := 0) (n2 := 0) (st := []) (stN := [.inl x8]) hC [.inl (M (M (M v0 0) 3) v1), .inl v2] (mX8_isIn q7) lk_X0_51 dX0_canBePresented_19 rfl rfl (Nat.le_of_ble_eq_true rfl) (Nat.le_of_ble_eq_true rfl) (Nat.le_of_ble_eq_true rfl) rfl (Nat.le_of_ble_eq_true rfl) rfl rfl rfl ?_
    refine aw_if_ne (tgt := 29) (pc' := 25) hC dX0_canBePresented_22 (by decide) rfl (fun c9 => ?_) (fun c9 => ?_)
    · replace h := it_n c9 h
      refine aw_iconst (pc' := 30) hC dX0_canBePresented_29 rfl (by decide) ?_
      cases h
      exact aw_zret hC (Or.inl rfl) dX0_canBePresented_30 (Nat.le_of_ble_eq_true rfl) (Nat.le_of_ble_eq_true rfl)
    · replace h := it_p c9 h
      refine aw_iconst (pc' := 26) hC dX0_canBePresented_25 rfl (by decide) ?_
      refine aw_goto (tgt := 30) hC dX0_canBePresented_26 (by decide) ?_
      cases h
      exact aw_zret hC (Or.inr rfl) dX0_canBePresented_30 (Nat.le_of_ble_eq_true rfl) (Nat.le_of_ble_eq_true rfl)
-- CoinCircle$Circle.putFacts(IIIII)V
def fX0_putFacts (sh : AwS) (M : AwM) (v0 : Int) (v1 : Int) (v2 : Int) (v3 : Int) (v4 : Int) (v5 : Int) : Option (AwM) :=
  gd_ (kd_ sh v0 = (0, 0)) (gd_ ((kd_ sh (M v0 2)).1 = 1 ∧ (0 : Int) ≤ 0 ∧ 0 < ((kd_ sh (M v0 2)).2 : Int)) (bd_ (up_ M (M v0 2) 0 v1) fun (M3 : AwM) => (gd_ (kd_ sh (M3 v0 1) = (0, 5)) (gd_ ((kd_ sh (M3 (M3 v0 1) 2)).1 = 1 ∧ (0 : Int) ≤ v2 ∧ v2 < ((kd_ sh (M3 (M3 v0 1) 2)).2 : Int)) (gd_ ((kd_ sh (M3 v0 2)).1 = 1 ∧ (0 : Int) ≤ 1 ∧ 1 < ((kd_ sh (M3 v0 2)).2 : Int)) (bd_ (up_ M3 (M3 v0 2) 1 (M3 (M3 (M3 v0 1) 2) v2)) fun (M8 : AwM) => (gd_ (kd_ sh (M8 v0 1) = (0, 5)) (gd_ ((kd_ sh (M8 (M8 v0 1) 2)).1 = 1 ∧ (0 : Int) ≤ v3 ∧ v3 < ((kd_ sh (M8 (M8 v0 1) 2)).2 : Int)) (gd_ ((kd_ sh (M8 v0 2)).1 = 1 ∧ (0 : Int) ≤ 2 ∧ 2 < ((kd_ sh (M8 v0 2)).2 : Int)) (bd_ (up_ M8 (M8 v0 2) 2 (M8 (M8 (M8 v0 1) 2) v3)) fun (M13 : AwM) => (gd_ ((kd_ sh (M13 v0 2)).1 = 1 ∧ (0 : Int) ≤ 3 ∧ 3 < ((kd_ sh (M13 v0 2)).2 : Int)) (bd_ (up_ M13 (M13 v0 2) 3 v4) fun (M16 : AwM) => (gd_ (kd_ sh (M16 v0 0) = (0, 3)) (gd_ ((kd_ sh (M16 v0 2)).1 = 1 ∧ (0 : Int) ≤ 4 ∧ 4 < ((kd_ sh (M16 v0 2)).2 : Int)) (bd_ (up_ M16 (M16 v0 2) 4 (M16 (M16 v0 0) 0)) fun (M20 : AwM) => (gd_ ((kd_ sh (M20 v0 2)).1 = 1 ∧ (0 : Int) ≤ 5 ∧ 5 < ((kd_ sh (M20 v0 2)).2 : Int)) (bd_ (up_ M20 (M20 v0 2) 5 v5) fun (M23 : AwM) => (some M23))))))))))))))))))
set_option maxRecDepth 100000 in
set_option maxHeartbeats 4000000 in
theorem mX0_putFacts {sh : AwS} {M : AwM} {v0 : Int} {v1 : Int} {v2 : Int} {v3 : Int} {v4 : Int} {v5 : Int} {M' : AwM} (h : fX0_putFacts sh M v0 v1 v2 v3 v4 v5 = some M') : AMet yX0_putFacts cX0_putFacts 6 none 1 0 0 [.inr (.inr v0), .inl v1, .inl v2, .inl v3, .inl v4, .inl v5] sh M none sh M' := by
  refine amet_of (by decide +kernel) (Nat.le_of_ble_eq_true rfl) (fun Γ hC => ?_)
  replace hC : AOK Γ RX0 cX0_putFacts 6 1 0 0 "putFacts" none := hC
  unfold fX0_putFacts at h
  refine aw_sub hC [some (.inr (.inr v0)), some (.inl v1), some (.inl v2), some (.inl v3), some (.inl v4), some (.inl v5)] ⟨rfl, ⟨rfl, ⟨rfl, ⟨rfl, ⟨rfl, ⟨rfl, trivial⟩⟩⟩⟩⟩⟩ (Nat.le_of_ble_eq_true rfl) ?_
  refine aw_aload_n (pc' := 1) (i := 0) hC dX0_putFacts_0 rfl rfl rfl ?_
  obtain ⟨g1, h⟩ := gd_s h
  refine aw_getfield (pc' := 4) (v := (.inr (.inr (M v0 2)))) hC dX0_putFacts_1 rfl fl_X0_18 g1 rfl ?_
  refine aw_iconst (pc' := 5) hC dX0_putFacts_4 rfl (by decide) ?_
  refine aw_iload_n (pc' := 6) (i := 1) hC dX0_putFacts_5 rfl rfl rfl ?_
  obtain ⟨g2, h⟩ := gd_s h
  obtain ⟨M3, e4, h⟩ := bd_s h
  refine aw_ias (pc' := 7) hC dX0_putFacts_6 rfl g2 e4 ?_
  refine aw_aload_n (pc' := 8) (i := 0) hC dX0_putFacts_7 rfl rfl rfl ?_
  refine aw_getfield (pc' := 11) (v := (.inr (.inr (M3 v0 2)))) hC dX0_putFacts_8 rfl fl_X0_18 g1 rfl ?_
  refine aw_iconst (pc' := 12) hC dX0_putFacts_11 rfl (by decide) ?_
  refine aw_aload_n (pc' := 13) (i := 0) hC dX0_putFacts_12 rfl rfl rfl ?_
  refine aw_getfield (pc' := 16) (v := (.inr (.inr (M3 v0 1)))) hC dX0_putFacts_13 rfl fl_X0_22 g1 rfl ?_
  obtain ⟨g5, h⟩ := gd_s h
  refine aw_getfield (pc' := 19) (v := (.inr (.inr (M3 (M3 v0 1) 2)))) hC dX0_putFacts_16 rfl fl_X0_109 g5 rfl ?_
  refine aw_iload_n (pc' := 20) (i := 2) hC dX0_putFacts_19 rfl rfl rfl ?_
  obtain ⟨g6, h⟩ := gd_s h
  refine aw_iaload (pc' := 21) hC dX0_putFacts_20 rfl g6 ?_
  obtain ⟨g7, h⟩ := gd_s h
  obtain ⟨M8, e9, h⟩ := bd_s h
  refine aw_ias (pc' := 22) hC dX0_putFacts_21 rfl g7 e9 ?_
  refine aw_aload_n (pc' := 23) (i := 0) hC dX0_putFacts_22 rfl rfl rfl ?_
  refine aw_getfield (pc' := 26) (v := (.inr (.inr (M8 v0 2)))) hC dX0_putFacts_23 rfl fl_X0_18 g1 rfl ?_
  refine aw_iconst (pc' := 27) hC dX0_putFacts_26 rfl (by decide) ?_
  refine aw_aload_n (pc' := 28) (i := 0) hC dX0_putFacts_27 rfl rfl rfl ?_
  refine aw_getfield (pc' := 31) (v := (.inr (.inr (M8 v0 1)))) hC dX0_putFacts_28 rfl fl_X0_22 g1 rfl ?_
  obtain ⟨g10, h⟩ := gd_s h
  refine aw_getfield (pc' := 34) (v := (.inr (.inr (M8 (M8 v0 1) 2)))) hC dX0_putFacts_31 rfl fl_X0_109 g10 rfl ?_
  refine aw_iload_n (pc' := 35) (i := 3) hC dX0_putFacts_34 rfl rfl rfl ?_
  obtain ⟨g11, h⟩ := gd_s h
  refine aw_iaload (pc' := 36) hC dX0_putFacts_35 rfl g11 ?_
  obtain ⟨g12, h⟩ := gd_s h
  obtain ⟨M13, e14, h⟩ := bd_s h
  refine aw_ias (pc' := 37) hC dX0_putFacts_36 rfl g12 e14 ?_
  refine aw_aload_n (pc' := 38) (i := 0) hC dX0_putFacts_37 rfl rfl rfl ?_
  refine aw_getfield (pc' := 41) (v := (.inr (.inr (M13 v0 2)))) hC dX0_putFacts_38 rfl fl_X0_18 g1 rfl ?_
  refine aw_iconst (pc' := 42) hC dX0_putFacts_41 rfl (by decide) ?_
  refine aw_iload (pc' := 44) hC dX0_putFacts_42 rfl rfl ?_
  obtain ⟨g15, h⟩ := gd_s h
  obtain ⟨M16, e17, h⟩ := bd_s h
  refine aw_ias (pc' := 45) hC dX0_putFacts_44 rfl g15 e17 ?_
  refine aw_aload_n (pc' := 46) (i := 0) hC dX0_putFacts_45 rfl rfl rfl ?_
  refine aw_getfield (pc' := 49) (v := (.inr (.inr (M16 v0 2)))) hC dX0_putFacts_46 rfl fl_X0_18 g1 rfl ?_
  refine aw_iconst (pc' := 50) hC dX0_putFacts_49 rfl (by decide) ?_
  refine aw_aload_n (pc' := 51) (i := 0) hC dX0_putFacts_50 rfl rfl rfl ?_
  refine aw_getfield (pc' := 54) (v := (.inr (.inr (M16 v0 0)))) hC dX0_putFacts_51 rfl fl_X0_12 g1 rfl ?_
  obtain ⟨g18, h⟩ := gd_s h
  refine aw_getfield (pc' := 57) (v := (.inl (M16 (M16 v0 0) 0))) hC dX0_putFacts_54 rfl fl_X0_26 g18 rfl ?_
  obtain ⟨g19, h⟩ := gd_s h
  obtain ⟨M20, e21, h⟩ := bd_s h
  refine aw_ias (pc' := 58) hC dX0_putFacts_57 rfl g19 e21 ?_
  refine aw_aload_n (pc' := 59) (i := 0) hC dX0_putFacts_58 rfl rfl rfl ?_
  refine aw_getfield (pc' := 62) (v := (.inr (.inr (M20 v0 2)))) hC dX0_putFacts_59 rfl fl_X0_18 g1 rfl ?_
  refine aw_iconst (pc' := 63) hC dX0_putFacts_62 rfl (by decide) ?_
  refine aw_iload (pc' := 65) hC dX0_putFacts_63 rfl rfl ?_
  obtain ⟨g22, h⟩ := gd_s h
  obtain ⟨M23, e24, h⟩ := bd_s h
  refine aw_ias (pc' := 66) hC dX0_putFacts_65 rfl g22 e24 ?_
  cases h
  exact aw_vret hC dX0_putFacts_66 (Nat.le_of_ble_eq_true rfl) (Nat.le_of_ble_eq_true rfl)
-- CoinCircle$Formula.factOf([II)I
def fX1_factOf (sh : AwS) (M : AwM) (v0 : Int) (v1 : Int) : Option Int :=
  (if v1 < 0 then some 0 else gd_ (1 ≤ (kd_ sh v0).1 ∧ (kd_ sh v0).1 ≤ 5 ∧ (kd_ sh v0).2 ≤ 2147483647) ((if v1 < ((kd_ sh v0).2 : Int) then gd_ ((kd_ sh v0).1 = 1 ∧ (0 : Int) ≤ v1 ∧ v1 < ((kd_ sh v0).2 : Int)) (some (M v0 v1)) else some 0)))
set_option maxRecDepth 100000 in
set_option maxHeartbeats 4000000 in
theorem mX1_factOf {sh : AwS} {M : AwM} {v0 : Int} {v1 : Int} {r : Int} (h : fX1_factOf sh M v0 v1 = some r) : AMet yX1_factOf cX1_factOf 2 (some .int) 1 0 0 [.inr (.inr v0), .inl v1] sh M (some (.inl r)) sh M := by
  refine amet_of (by decide +kernel) (Nat.le_of_ble_eq_true rfl) (fun Γ hC => ?_)
  replace hC : AOK Γ RX1 cX1_factOf 2 1 0 0 "factOf" (some .int) := hC
  unfold fX1_factOf at h
  refine aw_sub hC [some (.inr (.inr v0)), some (.inl v1)] ⟨rfl, ⟨rfl, trivial⟩⟩ (Nat.le_of_ble_eq_true rfl) ?_
  refine aw_iload_n (pc' := 1) (i := 1) hC dX1_factOf_0 rfl rfl rfl ?_
  refine aw_if_lt (tgt := 16) (pc' := 4) hC dX1_factOf_1 (by decide) rfl (fun c1 => ?_) (fun c1 => ?_)
  · replace h := it_p c1 h
    refine aw_iconst (pc' := 17) hC dX1_factOf_16 rfl (by decide) ?_
    cases h
    exact aw_iret hC dX1_factOf_17 (Nat.le_of_ble_eq_true rfl) (Nat.le_of_ble_eq_true rfl)
  · replace h := it_n c1 h
    refine aw_iload_n (pc' := 5) (i := 1) hC dX1_factOf_4 rfl rfl rfl ?_
    refine aw_aload_n (pc' := 6) (i := 0) hC dX1_factOf_5 rfl rfl rfl ?_
    obtain ⟨g2, h⟩ := gd_s h
    refine aw_alen (pc' := 7) (v := ((kd_ sh v0).2 : Int)) hC dX1_factOf_6 rfl g2 rfl ?_
    refine aw_icmp_ge (tgt := 16) (pc' := 10) hC dX1_factOf_7 (by decide) rfl (fun c3 => ?_) (fun c3 => ?_)
    · replace h := it_n c3 h
      refine aw_iconst (pc' := 17) hC dX1_factOf_16 rfl (by decide) ?_
      cases h
      exact aw_iret hC dX1_factOf_17 (Nat.le_of_ble_eq_true rfl) (Nat.le_of_ble_eq_true rfl)
    · replace h := it_p c3 h
      refine aw_aload_n (pc' := 11) (i := 0) hC dX1_factOf_10 rfl rfl rfl ?_
      refine aw_iload_n (pc' := 12) (i := 1) hC dX1_factOf_11 rfl rfl rfl ?_
      obtain ⟨g4, h⟩ := gd_s h
      refine aw_iaload (pc' := 13) hC dX1_factOf_12 rfl g4 ?_
      refine aw_goto (tgt := 17) hC dX1_factOf_13 (by decide) ?_
      cases h
      exact aw_iret hC dX1_factOf_17 (Nat.le_of_ble_eq_true rfl) (Nat.le_of_ble_eq_true rfl)
-- java/lang/Math.min(JJ)J
def fJ9_min_f86c9 (sh : AwS) (M : AwM) (v0 : Int) (v2 : Int) : Option Int :=
  (if 0 < (cmp_ v0 v2) then some v2 else some v0)
set_option maxRecDepth 100000 in
set_option maxHeartbeats 4000000 in
theorem mJ9_min_f86c9 {sh : AwS} {M : AwM} {v0 : Int} {v2 : Int} {r : Int} (h : fJ9_min_f86c9 sh M v0 v2 = some r) : AMet yJ9_min_f86c9 cJ9_min_f86c9 4 (some .long) 1 0 0 [.inr (.inl v0), .inr (.inl v2)] sh M (some (.inr (.inl r))) sh M := by
  refine amet_of (by decide +kernel) (Nat.le_of_ble_eq_true rfl) (fun Γ hC => ?_)
  replace hC : AOK Γ RJ9 cJ9_min_f86c9 4 1 0 0 "min" (some .long) := hC
  unfold fJ9_min_f86c9 at h
  refine aw_sub hC [some (.inr (.inl v0)), none, some (.inr (.inl v2)), none] ⟨rfl, ⟨rfl, trivial⟩⟩ (Nat.le_of_ble_eq_true rfl) ?_
  refine aw_lload_n (pc' := 1) (i := 0) hC dJ9_min_f86c9_0 rfl rfl rfl ?_
  refine aw_lload_n (pc' := 2) (i := 2) hC dJ9_min_f86c9_1 rfl rfl rfl ?_
  refine aw_lcmp (pc' := 3) hC dJ9_min_f86c9_2 rfl  ?_
  refine aw_if_gt (tgt := 10) (pc' := 6) hC dJ9_min_f86c9_3 (by decide) rfl (fun c1 => ?_) (fun c1 => ?_)
  · replace h := it_p c1 h
    refine aw_lload_n (pc' := 11) (i := 2) hC dJ9_min_f86c9_10 rfl rfl rfl ?_
    cases h
    exact aw_lret hC dJ9_min_f86c9_11 (Nat.le_of_ble_eq_true rfl) (Nat.le_of_ble_eq_true rfl)
  · replace h := it_n c1 h
    refine aw_lload_n (pc' := 7) (i := 0) hC dJ9_min_f86c9_6 rfl rfl rfl ?_
    refine aw_goto (tgt := 11) hC dJ9_min_f86c9_7 (by decide) ?_
    cases h
    exact aw_lret hC dJ9_min_f86c9_11 (Nat.le_of_ble_eq_true rfl) (Nat.le_of_ble_eq_true rfl)
-- java/lang/Math.max(JJ)J
def fJ9_max_f86c9 (sh : AwS) (M : AwM) (v0 : Int) (v2 : Int) : Option Int :=
  (if (cmp_ v0 v2) < 0 then some v2 else some v0)
set_option maxRecDepth 100000 in
set_option maxHeartbeats 4000000 in
theorem mJ9_max_f86c9 {sh : AwS} {M : AwM} {v0 : Int} {v2 : Int} {r : Int} (h : fJ9_max_f86c9 sh M v0 v2 = some r) : AMet yJ9_max_f86c9 cJ9_max_f86c9 4 (some .long) 1 0 0 [.inr (.inl v0), .inr (.inl v2)] sh M (some (.inr (.inl r))) sh M := by
  refine amet_of (by decide +kernel) (Nat.le_of_ble_eq_true rfl) (fun Γ hC => ?_)
  replace hC : AOK Γ RJ9 cJ9_max_f86c9 4 1 0 0 "max" (some .long) := hC
  unfold fJ9_max_f86c9 at h
  refine aw_sub hC [some (.inr (.inl v0)), none, some (.inr (.inl v2)), none] ⟨rfl, ⟨rfl, trivial⟩⟩ (Nat.le_of_ble_eq_true rfl) ?_
  refine aw_lload_n (pc' := 1) (i := 0) hC dJ9_max_f86c9_0 rfl rfl rfl ?_
  refine aw_lload_n (pc' := 2) (i := 2) hC dJ9_max_f86c9_1 rfl rfl rfl ?_
  refine aw_lcmp (pc' := 3) hC dJ9_max_f86c9_2 rfl  ?_
  refine aw_if_lt (tgt := 10) (pc' := 6) hC dJ9_max_f86c9_3 (by decide) rfl (fun c1 => ?_) (fun c1 => ?_)
  · replace h := it_p c1 h
    refine aw_lload_n (pc' := 11) (i := 2) hC dJ9_max_f86c9_10 rfl rfl rfl ?_
    cases h
    exact aw_lret hC dJ9_max_f86c9_11 (Nat.le_of_ble_eq_true rfl) (Nat.le_of_ble_eq_true rfl)
  · replace h := it_n c1 h
    refine aw_lload_n (pc' := 7) (i := 0) hC dJ9_max_f86c9_6 rfl rfl rfl ?_
    refine aw_goto (tgt := 11) hC dJ9_max_f86c9_7 (by decide) ?_
    cases h
    exact aw_lret hC dJ9_max_f86c9_11 (Nat.le_of_ble_eq_true rfl) (Nat.le_of_ble_eq_true rfl)
-- java/lang/Math.floorDiv(JJ)J
def fJ9_floorDiv_f86c9 (sh : AwS) (M : AwM) (v0 : Int) (v2 : Int) : Option Int :=
  gd_ (v2 ≠ 0) ((if (cmp_ (xol_ v0 v2) 0) < 0 then (if (cmp_ (w64 ((w64 (v0.tdiv v2)) * v2)) v0) = 0 then some (w64 (v0.tdiv v2)) else some (w64 ((w64 (v0.tdiv v2)) - 1))) else some (w64 (v0.tdiv v2))))
set_option maxRecDepth 100000 in
set_option maxHeartbeats 4000000 in
theorem mJ9_floorDiv_f86c9 {sh : AwS} {M : AwM} {v0 : Int} {v2 : Int} {r : Int} (h : fJ9_floorDiv_f86c9 sh M v0 v2 = some r) : AMet yJ9_floorDiv_f86c9 cJ9_floorDiv_f86c9 6 (some .long) 1 0 0 [.inr (.inl v0), .inr (.inl v2)] sh M (some (.inr (.inl r))) sh M := by
  refine amet_of (by decide +kernel) (Nat.le_of_ble_eq_true rfl) (fun Γ hC => ?_)
  replace hC : AOK Γ RJ9 cJ9_floorDiv_f86c9 6 1 0 0 "floorDiv" (some .long) := hC
  unfold fJ9_floorDiv_f86c9 at h
  refine aw_sub hC [some (.inr (.inl v0)), none, some (.inr (.inl v2)), none, none, none] ⟨rfl, ⟨rfl, trivial⟩⟩ (Nat.le_of_ble_eq_true rfl) ?_
  refine aw_lload_n (pc' := 1) (i := 0) hC dJ9_floorDiv_f86c9_0 rfl rfl rfl ?_
  refine aw_lload_n (pc' := 2) (i := 2) hC dJ9_floorDiv_f86c9_1 rfl rfl rfl ?_
  obtain ⟨g1, h⟩ := gd_s h
  refine aw_ldiv (pc' := 3) hC dJ9_floorDiv_f86c9_2 rfl g1 ?_
  refine aw_lstore (pc' := 5) (ls' := [some (.inr (.inl v0)), none, some (.inr (.inl v2)), none, some (.inr (.inl (w64 (v0.tdiv v2)))), none]) hC dJ9_floorDiv_f86c9_3 rfl (Nat.le_of_ble_eq_true rfl) rfl rfl ?_
  refine aw_lload_n (pc' := 6) (i := 0) hC dJ9_floorDiv_f86c9_5 rfl rfl rfl ?_
  refine aw_lload_n (pc' := 7) (i := 2) hC dJ9_floorDiv_f86c9_6 rfl rfl rfl ?_
  refine aw_lxor (pc' := 8) hC dJ9_floorDiv_f86c9_7 rfl  ?_
  refine aw_lconst (pc' := 9) (v := 0) hC dJ9_floorDiv_f86c9_8 rfl rfl (by decide) ?_
  refine aw_lcmp (pc' := 10) hC dJ9_floorDiv_f86c9_9 rfl  ?_
  refine aw_if_ge (tgt := 27) (pc' := 13) hC dJ9_floorDiv_f86c9_10 (by decide) rfl (fun c2 => ?_) (fun c2 => ?_)
  · replace h := it_n c2 h
    refine aw_lload (pc' := 29) hC dJ9_floorDiv_f86c9_27 rfl rfl ?_
    cases h
    exact aw_lret hC dJ9_floorDiv_f86c9_29 (Nat.le_of_ble_eq_true rfl) (Nat.le_of_ble_eq_true rfl)
  · replace h := it_p c2 h
    refine aw_lload (pc' := 15) hC dJ9_floorDiv_f86c9_13 rfl rfl ?_
    refine aw_lload_n (pc' := 16) (i := 2) hC dJ9_floorDiv_f86c9_15 rfl rfl rfl ?_
    refine aw_lmul (pc' := 17) hC dJ9_floorDiv_f86c9_16 rfl  ?_
    refine aw_lload_n (pc' := 18) (i := 0) hC dJ9_floorDiv_f86c9_17 rfl rfl rfl ?_
    refine aw_lcmp (pc' := 19) hC dJ9_floorDiv_f86c9_18 rfl  ?_
    refine aw_if_eq (tgt := 27) (pc' := 22) hC dJ9_floorDiv_f86c9_19 (by decide) rfl (fun c3 => ?_) (fun c3 => ?_)
    · replace h := it_p c3 h
      refine aw_lload (pc' := 29) hC dJ9_floorDiv_f86c9_27 rfl rfl ?_
      cases h
      exact aw_lret hC dJ9_floorDiv_f86c9_29 (Nat.le_of_ble_eq_true rfl) (Nat.le_of_ble_eq_true rfl)
    · replace h := it_n c3 h
      refine aw_lload (pc' := 24) hC dJ9_floorDiv_f86c9_22 rfl rfl ?_
      refine aw_lconst (pc' := 25) (v := 1) hC dJ9_floorDiv_f86c9_24 rfl rfl (by decide) ?_
      refine aw_lsub (pc' := 26) hC dJ9_floorDiv_f86c9_25 rfl  ?_
      cases h
      exact aw_lret hC dJ9_floorDiv_f86c9_26 (Nat.le_of_ble_eq_true rfl) (Nat.le_of_ble_eq_true rfl)
-- java/lang/Math.floorMod(JJ)J
def fJ9_floorMod_f86c9 (sh : AwS) (M : AwM) (v0 : Int) (v2 : Int) : Option Int :=
  gd_ (v2 ≠ 0) ((if (cmp_ (xol_ v0 v2) 0) < 0 then (if (cmp_ (v0.tmod v2) 0) = 0 then some (v0.tmod v2) else some (w64 ((v0.tmod v2) + v2))) else some (v0.tmod v2)))
set_option maxRecDepth 100000 in
set_option maxHeartbeats 4000000 in
theorem mJ9_floorMod_f86c9 {sh : AwS} {M : AwM} {v0 : Int} {v2 : Int} {r : Int} (h : fJ9_floorMod_f86c9 sh M v0 v2 = some r) : AMet yJ9_floorMod_f86c9 cJ9_floorMod_f86c9 6 (some .long) 1 0 0 [.inr (.inl v0), .inr (.inl v2)] sh M (some (.inr (.inl r))) sh M := by
  refine amet_of (by decide +kernel) (Nat.le_of_ble_eq_true rfl) (fun Γ hC => ?_)
  replace hC : AOK Γ RJ9 cJ9_floorMod_f86c9 6 1 0 0 "floorMod" (some .long) := hC
  unfold fJ9_floorMod_f86c9 at h
  refine aw_sub hC [some (.inr (.inl v0)), none, some (.inr (.inl v2)), none, none, none] ⟨rfl, ⟨rfl, trivial⟩⟩ (Nat.le_of_ble_eq_true rfl) ?_
  refine aw_lload_n (pc' := 1) (i := 0) hC dJ9_floorMod_f86c9_0 rfl rfl rfl ?_
  refine aw_lload_n (pc' := 2) (i := 2) hC dJ9_floorMod_f86c9_1 rfl rfl rfl ?_
  obtain ⟨g1, h⟩ := gd_s h
  refine aw_lrem (pc' := 3) hC dJ9_floorMod_f86c9_2 rfl g1 ?_
  refine aw_lstore (pc' := 5) (ls' := [some (.inr (.inl v0)), none, some (.inr (.inl v2)), none, some (.inr (.inl (v0.tmod v2))), none]) hC dJ9_floorMod_f86c9_3 rfl (Nat.le_of_ble_eq_true rfl) rfl rfl ?_
  refine aw_lload_n (pc' := 6) (i := 0) hC dJ9_floorMod_f86c9_5 rfl rfl rfl ?_
  refine aw_lload_n (pc' := 7) (i := 2) hC dJ9_floorMod_f86c9_6 rfl rfl rfl ?_
  refine aw_lxor (pc' := 8) hC dJ9_floorMod_f86c9_7 rfl  ?_
  refine aw_lconst (pc' := 9) (v := 0) hC dJ9_floorMod_f86c9_8 rfl rfl (by decide) ?_
  refine aw_lcmp (pc' := 10) hC dJ9_floorMod_f86c9_9 rfl  ?_
  refine aw_if_ge (tgt := 25) (pc' := 13) hC dJ9_floorMod_f86c9_10 (by decide) rfl (fun c2 => ?_) (fun c2 => ?_)
  · replace h := it_n c2 h
    refine aw_lload (pc' := 27) hC dJ9_floorMod_f86c9_25 rfl rfl ?_
    cases h
    exact aw_lret hC dJ9_floorMod_f86c9_27 (Nat.le_of_ble_eq_true rfl) (Nat.le_of_ble_eq_true rfl)
  · replace h := it_p c2 h
    refine aw_lload (pc' := 15) hC dJ9_floorMod_f86c9_13 rfl rfl ?_
    refine aw_lconst (pc' := 16) (v := 0) hC dJ9_floorMod_f86c9_15 rfl rfl (by decide) ?_
    refine aw_lcmp (pc' := 17) hC dJ9_floorMod_f86c9_16 rfl  ?_
    refine aw_if_eq (tgt := 25) (pc' := 20) hC dJ9_floorMod_f86c9_17 (by decide) rfl (fun c3 => ?_) (fun c3 => ?_)
    · replace h := it_p c3 h
      refine aw_lload (pc' := 27) hC dJ9_floorMod_f86c9_25 rfl rfl ?_
      cases h
      exact aw_lret hC dJ9_floorMod_f86c9_27 (Nat.le_of_ble_eq_true rfl) (Nat.le_of_ble_eq_true rfl)
    · replace h := it_n c3 h
      refine aw_lload (pc' := 22) hC dJ9_floorMod_f86c9_20 rfl rfl ?_
      refine aw_lload_n (pc' := 23) (i := 2) hC dJ9_floorMod_f86c9_22 rfl rfl rfl ?_
      refine aw_ladd (pc' := 24) hC dJ9_floorMod_f86c9_23 rfl  ?_
      cases h
      exact aw_lret hC dJ9_floorMod_f86c9_24 (Nat.le_of_ble_eq_true rfl) (Nat.le_of_ble_eq_true rfl)
-- CoinCircle$Formula.done(IJJ)J
def fX1_done (sh : AwS) (M : AwM) (v0 : Int) (v1 : Int) (v3 : Int) : Option Int :=
  (if v0 = (-19) then (if (cmp_ v3 0) = 0 then some 0 else pb (fJ9_floorMod_f86c9 sh M v1 v3) <| u1 fun (x16 : Int) => (some x16)) else (if v0 = (-18) then (if (cmp_ v3 0) = 0 then some 0 else pb (fJ9_floorDiv_f86c9 sh M v1 v3) <| u1 fun (x19 : Int) => (some x19)) else (if v0 = (-17) then some (w64 (v1 * v3)) else (if v0 = (-16) then some (w64 (v1 - v3)) else (if v0 = (-15) then some (w64 (v1 + v3)) else (if v0 = (-14) then (if (cmp_ v1 v3) = 0 then some 1 else some 0) else (if v0 = (-13) then (if 0 < (cmp_ v1 v3) then some 1 else some 0) else (if v0 = (-12) then (if (cmp_ v1 v3) < 0 then some 1 else some 0) else (if v0 = (-11) then pb (fJ9_max_f86c9 sh M v1 v3) <| u1 fun (x24 : Int) => (some x24) else (if v0 = (-10) then pb (fJ9_min_f86c9 sh M v1 v3) <| u1 fun (x26 : Int) => (some x26) else (if v0 = (-9) then some 0 else (if v0 = (-8) then some (orl_ v1 v3) else (if v0 = (-7) then some (anl_ v1 v3) else some 0)))))))))))))
set_option maxRecDepth 100000 in
set_option maxHeartbeats 4000000 in
theorem mX1_done {sh : AwS} {M : AwM} {v0 : Int} {v1 : Int} {v3 : Int} {r : Int} (h : fX1_done sh M v0 v1 v3 = some r) : AMet yX1_done cX1_done 5 (some .long) 2 0 0 [.inl v0, .inr (.inl v1), .inr (.inl v3)] sh M (some (.inr (.inl r))) sh M := by
  refine amet_of (by decide +kernel) (Nat.le_of_ble_eq_true rfl) (fun Γ hC => ?_)
  replace hC : AOK Γ RX1 cX1_done 5 2 0 0 "done" (some .long) := hC
  unfold fX1_done at h
  refine aw_sub hC [some (.inl v0), some (.inr (.inl v1)), none, some (.inr (.inl v3)), none] ⟨rfl, ⟨rfl, ⟨rfl, trivial⟩⟩⟩ (Nat.le_of_ble_eq_true rfl) ?_
  refine aw_iload_n (pc' := 1) (i := 0) hC dX1_done_0 rfl rfl rfl ?_
  by_cases c1 : v0 = (-19)
  · replace h := it_p c1 h
    refine aw_tsIn (tgt := 152) (off := 151) hC dX1_done_1 ⟨by omega, by omega, by rw [c1]; rfl⟩ (by decide) ?_
    refine aw_lload_n (pc' := 153) (i := 3) hC dX1_done_152 rfl rfl rfl ?_
    refine aw_lconst (pc' := 154) (v := 0) hC dX1_done_153 rfl rfl (by decide) ?_
    refine aw_lcmp (pc' := 155) hC dX1_done_154 rfl  ?_
    refine aw_if_ne (tgt := 162) (pc' := 158) hC dX1_done_155 (by decide) rfl (fun c14 => ?_) (fun c14 => ?_)
    · replace h := it_n c14 h
      refine aw_lload_n (pc' := 163) (i := 1) hC dX1_done_162 rfl rfl rfl ?_
      refine aw_lload_n (pc' := 164) (i := 3) hC dX1_done_163 rfl rfl rfl ?_
      obtain ⟨x16, q15, h⟩ := pb_s h
      replace h := u1_s h
      refine aw_cS (pc' := 167) (k2 := 0) (n2 := 0) (st := []) (stN := [.inr (.inl x16)]) hC [.inr (.inl v1), .inr (.inl v3)] (mJ9_floorMod_f86c9 q15) lk_X1_46 dX1_done_164 rfl rfl (Nat.le_of_ble_eq_true rfl) (Nat.le_of_ble_eq_true rfl) (Nat.le_of_ble_eq_true rfl) rfl (Nat.le_of_ble_eq_true rfl) rfl rfl rfl ?_
      cases h
      exact aw_lret hC dX1_done_167 (Nat.le_of_ble_eq_true rfl) (Nat.le_of_ble_eq_true rfl)
    · replace h := it_p c14 h
      refine aw_lconst (pc' := 159) (v := 0) hC dX1_done_158 rfl rfl (by decide) ?_
      refine aw_goto (tgt := 167) hC dX1_done_159 (by decide) ?_
      cases h
      exact aw_lret hC dX1_done_167 (Nat.le_of_ble_eq_true rfl) (Nat.le_of_ble_eq_true rfl)
  · replace h := it_n c1 h
    by_cases c2 : v0 = (-18)
    · replace h := it_p c2 h
      refine aw_tsIn (tgt := 136) (off := 135) hC dX1_done_1 ⟨by omega, by omega, by rw [c2]; rfl⟩ (by decide) ?_
      refine aw_lload_n (pc' := 137) (i := 3) hC dX1_done_136 rfl rfl rfl ?_
      refine aw_lconst (pc' := 138) (v := 0) hC dX1_done_137 rfl rfl (by decide) ?_
      refine aw_lcmp (pc' := 139) hC dX1_done_138 rfl  ?_
      refine aw_if_ne (tgt := 146) (pc' := 142) hC dX1_done_139 (by decide) rfl (fun c17 => ?_) (fun c17 => ?_)
      · replace h := it_n c17 h
        refine aw_lload_n (pc' := 147) (i := 1) hC dX1_done_146 rfl rfl rfl ?_
        refine aw_lload_n (pc' := 148) (i := 3) hC dX1_done_147 rfl rfl rfl ?_
        obtain ⟨x19, q18, h⟩ := pb_s h
        replace h := u1_s h
        refine aw_cS (pc' := 151) (k2 := 0) (n2 := 0) (st := []) (stN := [.inr (.inl x19)]) hC [.inr (.inl v1), .inr (.inl v3)] (mJ9_floorDiv_f86c9 q18) lk_X1_43 dX1_done_148 rfl rfl (Nat.le_of_ble_eq_true rfl) (Nat.le_of_ble_eq_true rfl) (Nat.le_of_ble_eq_true rfl) rfl (Nat.le_of_ble_eq_true rfl) rfl rfl rfl ?_
        cases h
        exact aw_lret hC dX1_done_151 (Nat.le_of_ble_eq_true rfl) (Nat.le_of_ble_eq_true rfl)
      · replace h := it_p c17 h
        refine aw_lconst (pc' := 143) (v := 0) hC dX1_done_142 rfl rfl (by decide) ?_
        refine aw_goto (tgt := 151) hC dX1_done_143 (by decide) ?_
        cases h
        exact aw_lret hC dX1_done_151 (Nat.le_of_ble_eq_true rfl) (Nat.le_of_ble_eq_true rfl)
    · replace h := it_n c2 h
      by_cases c3 : v0 = (-17)
      · replace h := it_p c3 h
        refine aw_tsIn (tgt := 132) (off := 131) hC dX1_done_1 ⟨by omega, by omega, by rw [c3]; rfl⟩ (by decide) ?_
        refine aw_lload_n (pc' := 133) (i := 1) hC dX1_done_132 rfl rfl rfl ?_
        refine aw_lload_n (pc' := 134) (i := 3) hC dX1_done_133 rfl rfl rfl ?_
        refine aw_lmul (pc' := 135) hC dX1_done_134 rfl  ?_
        cases h
        exact aw_lret hC dX1_done_135 (Nat.le_of_ble_eq_true rfl) (Nat.le_of_ble_eq_true rfl)
      · replace h := it_n c3 h
        by_cases c4 : v0 = (-16)
        · replace h := it_p c4 h
          refine aw_tsIn (tgt := 128) (off := 127) hC dX1_done_1 ⟨by omega, by omega, by rw [c4]; rfl⟩ (by decide) ?_
          refine aw_lload_n (pc' := 129) (i := 1) hC dX1_done_128 rfl rfl rfl ?_
          refine aw_lload_n (pc' := 130) (i := 3) hC dX1_done_129 rfl rfl rfl ?_
          refine aw_lsub (pc' := 131) hC dX1_done_130 rfl  ?_
          cases h
          exact aw_lret hC dX1_done_131 (Nat.le_of_ble_eq_true rfl) (Nat.le_of_ble_eq_true rfl)
        · replace h := it_n c4 h
          by_cases c5 : v0 = (-15)
          · replace h := it_p c5 h
            refine aw_tsIn (tgt := 124) (off := 123) hC dX1_done_1 ⟨by omega, by omega, by rw [c5]; rfl⟩ (by decide) ?_
            refine aw_lload_n (pc' := 125) (i := 1) hC dX1_done_124 rfl rfl rfl ?_
            refine aw_lload_n (pc' := 126) (i := 3) hC dX1_done_125 rfl rfl rfl ?_
            refine aw_ladd (pc' := 127) hC dX1_done_126 rfl  ?_
            cases h
            exact aw_lret hC dX1_done_127 (Nat.le_of_ble_eq_true rfl) (Nat.le_of_ble_eq_true rfl)
          · replace h := it_n c5 h
            by_cases c6 : v0 = (-14)
            · replace h := it_p c6 h
              refine aw_tsIn (tgt := 112) (off := 111) hC dX1_done_1 ⟨by omega, by omega, by rw [c6]; rfl⟩ (by decide) ?_
              refine aw_lload_n (pc' := 113) (i := 1) hC dX1_done_112 rfl rfl rfl ?_
              refine aw_lload_n (pc' := 114) (i := 3) hC dX1_done_113 rfl rfl rfl ?_
              refine aw_lcmp (pc' := 115) hC dX1_done_114 rfl  ?_
              refine aw_if_ne (tgt := 122) (pc' := 118) hC dX1_done_115 (by decide) rfl (fun c20 => ?_) (fun c20 => ?_)
              · replace h := it_n c20 h
                refine aw_lconst (pc' := 123) (v := 0) hC dX1_done_122 rfl rfl (by decide) ?_
                cases h
                exact aw_lret hC dX1_done_123 (Nat.le_of_ble_eq_true rfl) (Nat.le_of_ble_eq_true rfl)
              · replace h := it_p c20 h
                refine aw_lconst (pc' := 119) (v := 1) hC dX1_done_118 rfl rfl (by decide) ?_
                refine aw_goto (tgt := 123) hC dX1_done_119 (by decide) ?_
                cases h
                exact aw_lret hC dX1_done_123 (Nat.le_of_ble_eq_true rfl) (Nat.le_of_ble_eq_true rfl)
            · replace h := it_n c6 h
              by_cases c7 : v0 = (-13)
              · replace h := it_p c7 h
                refine aw_tsIn (tgt := 100) (off := 99) hC dX1_done_1 ⟨by omega, by omega, by rw [c7]; rfl⟩ (by decide) ?_
                refine aw_lload_n (pc' := 101) (i := 1) hC dX1_done_100 rfl rfl rfl ?_
                refine aw_lload_n (pc' := 102) (i := 3) hC dX1_done_101 rfl rfl rfl ?_
                refine aw_lcmp (pc' := 103) hC dX1_done_102 rfl  ?_
                refine aw_if_le (tgt := 110) (pc' := 106) hC dX1_done_103 (by decide) rfl (fun c21 => ?_) (fun c21 => ?_)
                · replace h := it_n c21 h
                  refine aw_lconst (pc' := 111) (v := 0) hC dX1_done_110 rfl rfl (by decide) ?_
                  cases h
                  exact aw_lret hC dX1_done_111 (Nat.le_of_ble_eq_true rfl) (Nat.le_of_ble_eq_true rfl)
                · replace h := it_p c21 h
                  refine aw_lconst (pc' := 107) (v := 1) hC dX1_done_106 rfl rfl (by decide) ?_
                  refine aw_goto (tgt := 111) hC dX1_done_107 (by decide) ?_
                  cases h
                  exact aw_lret hC dX1_done_111 (Nat.le_of_ble_eq_true rfl) (Nat.le_of_ble_eq_true rfl)
              · replace h := it_n c7 h
                by_cases c8 : v0 = (-12)
                · replace h := it_p c8 h
                  refine aw_tsIn (tgt := 88) (off := 87) hC dX1_done_1 ⟨by omega, by omega, by rw [c8]; rfl⟩ (by decide) ?_
                  refine aw_lload_n (pc' := 89) (i := 1) hC dX1_done_88 rfl rfl rfl ?_
                  refine aw_lload_n (pc' := 90) (i := 3) hC dX1_done_89 rfl rfl rfl ?_
                  refine aw_lcmp (pc' := 91) hC dX1_done_90 rfl  ?_
                  refine aw_if_ge (tgt := 98) (pc' := 94) hC dX1_done_91 (by decide) rfl (fun c22 => ?_) (fun c22 => ?_)
                  · replace h := it_n c22 h
                    refine aw_lconst (pc' := 99) (v := 0) hC dX1_done_98 rfl rfl (by decide) ?_
                    cases h
                    exact aw_lret hC dX1_done_99 (Nat.le_of_ble_eq_true rfl) (Nat.le_of_ble_eq_true rfl)
                  · replace h := it_p c22 h
                    refine aw_lconst (pc' := 95) (v := 1) hC dX1_done_94 rfl rfl (by decide) ?_
                    refine aw_goto (tgt := 99) hC dX1_done_95 (by decide) ?_
                    cases h
                    exact aw_lret hC dX1_done_99 (Nat.le_of_ble_eq_true rfl) (Nat.le_of_ble_eq_true rfl)
                · replace h := it_n c8 h
                  by_cases c9 : v0 = (-11)
                  · replace h := it_p c9 h
                    refine aw_tsIn (tgt := 82) (off := 81) hC dX1_done_1 ⟨by omega, by omega, by rw [c9]; rfl⟩ (by decide) ?_
                    refine aw_lload_n (pc' := 83) (i := 1) hC dX1_done_82 rfl rfl rfl ?_
                    refine aw_lload_n (pc' := 84) (i := 3) hC dX1_done_83 rfl rfl rfl ?_
                    obtain ⟨x24, q23, h⟩ := pb_s h
                    replace h := u1_s h
                    refine aw_cS (pc' := 87) (k2 := 0) (n2 := 0) (st := []) (stN := [.inr (.inl x24)]) hC [.inr (.inl v1), .inr (.inl v3)] (mJ9_max_f86c9 q23) lk_X1_40 dX1_done_84 rfl rfl (Nat.le_of_ble_eq_true rfl) (Nat.le_of_ble_eq_true rfl) (Nat.le_of_ble_eq_true rfl) rfl (Nat.le_of_ble_eq_true rfl) rfl rfl rfl ?_
                    cases h
                    exact aw_lret hC dX1_done_87 (Nat.le_of_ble_eq_true rfl) (Nat.le_of_ble_eq_true rfl)
                  · replace h := it_n c9 h
                    by_cases c10 : v0 = (-10)
                    · replace h := it_p c10 h
                      refine aw_tsIn (tgt := 76) (off := 75) hC dX1_done_1 ⟨by omega, by omega, by rw [c10]; rfl⟩ (by decide) ?_
                      refine aw_lload_n (pc' := 77) (i := 1) hC dX1_done_76 rfl rfl rfl ?_
                      refine aw_lload_n (pc' := 78) (i := 3) hC dX1_done_77 rfl rfl rfl ?_
                      obtain ⟨x26, q25, h⟩ := pb_s h
                      replace h := u1_s h
                      refine aw_cS (pc' := 81) (k2 := 0) (n2 := 0) (st := []) (stN := [.inr (.inl x26)]) hC [.inr (.inl v1), .inr (.inl v3)] (mJ9_min_f86c9 q25) lk_X1_34 dX1_done_78 rfl rfl (Nat.le_of_ble_eq_true rfl) (Nat.le_of_ble_eq_true rfl) (Nat.le_of_ble_eq_true rfl) rfl (Nat.le_of_ble_eq_true rfl) rfl rfl rfl ?_
                      cases h
                      exact aw_lret hC dX1_done_81 (Nat.le_of_ble_eq_true rfl) (Nat.le_of_ble_eq_true rfl)
                    · replace h := it_n c10 h
                      by_cases c11 : v0 = (-9)
                      · replace h := it_p c11 h
                        refine aw_tsIn (tgt := 168) (off := 167) hC dX1_done_1 ⟨by omega, by omega, by rw [c11]; rfl⟩ (by decide) ?_
                        refine aw_lconst (pc' := 169) (v := 0) hC dX1_done_168 rfl rfl (by decide) ?_
                        cases h
                        exact aw_lret hC dX1_done_169 (Nat.le_of_ble_eq_true rfl) (Nat.le_of_ble_eq_true rfl)
                      · replace h := it_n c11 h
                        by_cases c12 : v0 = (-8)
                        · replace h := it_p c12 h
                          refine aw_tsIn (tgt := 72) (off := 71) hC dX1_done_1 ⟨by omega, by omega, by rw [c12]; rfl⟩ (by decide) ?_
                          refine aw_lload_n (pc' := 73) (i := 1) hC dX1_done_72 rfl rfl rfl ?_
                          refine aw_lload_n (pc' := 74) (i := 3) hC dX1_done_73 rfl rfl rfl ?_
                          refine aw_lor (pc' := 75) hC dX1_done_74 rfl  ?_
                          cases h
                          exact aw_lret hC dX1_done_75 (Nat.le_of_ble_eq_true rfl) (Nat.le_of_ble_eq_true rfl)
                        · replace h := it_n c12 h
                          by_cases c13 : v0 = (-7)
                          · replace h := it_p c13 h
                            refine aw_tsIn (tgt := 68) (off := 67) hC dX1_done_1 ⟨by omega, by omega, by rw [c13]; rfl⟩ (by decide) ?_
                            refine aw_lload_n (pc' := 69) (i := 1) hC dX1_done_68 rfl rfl rfl ?_
                            refine aw_lload_n (pc' := 70) (i := 3) hC dX1_done_69 rfl rfl rfl ?_
                            refine aw_land (pc' := 71) hC dX1_done_70 rfl  ?_
                            cases h
                            exact aw_lret hC dX1_done_71 (Nat.le_of_ble_eq_true rfl) (Nat.le_of_ble_eq_true rfl)
                          · replace h := it_n c13 h
                            refine aw_tsOut (tgt := 168) hC dX1_done_1 (by omega) (by decide) ?_
                            refine aw_lconst (pc' := 169) (v := 0) hC dX1_done_168 rfl rfl (by decide) ?_
                            cases h
                            exact aw_lret hC dX1_done_169 (Nat.le_of_ble_eq_true rfl) (Nat.le_of_ble_eq_true rfl)
