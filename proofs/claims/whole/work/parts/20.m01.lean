-- java/lang/Math.min(II)I
def fJ9_min_7cf53 (sh : AwS) (M : AwM) (v0 : Int) (v1 : Int) : Option Int :=
  (if v1 < v0 then some v1 else some v0)
set_option maxRecDepth 100000 in
set_option maxHeartbeats 4000000 in
theorem mJ9_min_7cf53 {sh : AwS} {M : AwM} {v0 : Int} {v1 : Int} {r : Int} (h : fJ9_min_7cf53 sh M v0 v1 = some r) : AMet yJ9_min_7cf53 cJ9_min_7cf53 2 (some .int) 1 0 0 [.inl v0, .inl v1] sh M (some (.inl r)) sh M := by
  refine amet_of (by decide +kernel) (Nat.le_of_ble_eq_true rfl) (fun Γ hC => ?_)
  replace hC : AOK Γ RJ9 cJ9_min_7cf53 2 1 0 0 "min" (some .int) := hC
  unfold fJ9_min_7cf53 at h
  refine aw_sub hC [some (.inl v0), some (.inl v1)] ⟨rfl, ⟨rfl, trivial⟩⟩ (Nat.le_of_ble_eq_true rfl) ?_
  refine aw_iload_n (pc' := 1) (i := 0) hC dJ9_min_7cf53_0 rfl rfl rfl ?_
  refine aw_iload_n (pc' := 2) (i := 1) hC dJ9_min_7cf53_1 rfl rfl rfl ?_
  refine aw_icmp_gt (tgt := 9) (pc' := 5) hC dJ9_min_7cf53_2 (by decide) rfl (fun c1 => ?_) (fun c1 => ?_)
  · replace h := it_p c1 h
    refine aw_iload_n (pc' := 10) (i := 1) hC dJ9_min_7cf53_9 rfl rfl rfl ?_
    cases h
    exact aw_iret hC dJ9_min_7cf53_10 (Nat.le_of_ble_eq_true rfl) (Nat.le_of_ble_eq_true rfl)
  · replace h := it_n c1 h
    refine aw_iload_n (pc' := 6) (i := 0) hC dJ9_min_7cf53_5 rfl rfl rfl ?_
    refine aw_goto (tgt := 10) hC dJ9_min_7cf53_6 (by decide) ?_
    cases h
    exact aw_iret hC dJ9_min_7cf53_10 (Nat.le_of_ble_eq_true rfl) (Nat.le_of_ble_eq_true rfl)
-- java/lang/Math.max(II)I
def fJ9_max_7cf53 (sh : AwS) (M : AwM) (v0 : Int) (v1 : Int) : Option Int :=
  (if v0 < v1 then some v1 else some v0)
set_option maxRecDepth 100000 in
set_option maxHeartbeats 4000000 in
theorem mJ9_max_7cf53 {sh : AwS} {M : AwM} {v0 : Int} {v1 : Int} {r : Int} (h : fJ9_max_7cf53 sh M v0 v1 = some r) : AMet yJ9_max_7cf53 cJ9_max_7cf53 2 (some .int) 1 0 0 [.inl v0, .inl v1] sh M (some (.inl r)) sh M := by
  refine amet_of (by decide +kernel) (Nat.le_of_ble_eq_true rfl) (fun Γ hC => ?_)
  replace hC : AOK Γ RJ9 cJ9_max_7cf53 2 1 0 0 "max" (some .int) := hC
  unfold fJ9_max_7cf53 at h
  refine aw_sub hC [some (.inl v0), some (.inl v1)] ⟨rfl, ⟨rfl, trivial⟩⟩ (Nat.le_of_ble_eq_true rfl) ?_
  refine aw_iload_n (pc' := 1) (i := 0) hC dJ9_max_7cf53_0 rfl rfl rfl ?_
  refine aw_iload_n (pc' := 2) (i := 1) hC dJ9_max_7cf53_1 rfl rfl rfl ?_
  refine aw_icmp_lt (tgt := 9) (pc' := 5) hC dJ9_max_7cf53_2 (by decide) rfl (fun c1 => ?_) (fun c1 => ?_)
  · replace h := it_p c1 h
    refine aw_iload_n (pc' := 10) (i := 1) hC dJ9_max_7cf53_9 rfl rfl rfl ?_
    cases h
    exact aw_iret hC dJ9_max_7cf53_10 (Nat.le_of_ble_eq_true rfl) (Nat.le_of_ble_eq_true rfl)
  · replace h := it_n c1 h
    refine aw_iload_n (pc' := 6) (i := 0) hC dJ9_max_7cf53_5 rfl rfl rfl ?_
    refine aw_goto (tgt := 10) hC dJ9_max_7cf53_6 (by decide) ?_
    cases h
    exact aw_iret hC dJ9_max_7cf53_10 (Nat.le_of_ble_eq_true rfl) (Nat.le_of_ble_eq_true rfl)
-- CoinCircle$Scanner.skipBlanks([BI)V
def fX4_skipBlanks_L0 (sh : AwS) (v0 : Int) (v1 : Int) (v2 : Int) (M : AwM) : Option ((AwM) ⊕ ((AwM) ⊕ (AwM))) :=
  gd_ (kd_ sh v0 = (0, 4)) ((if (M v0 7) < v2 then gd_ ((kd_ sh v1).1 = 3 ∧ (0 : Int) ≤ (M v0 7) ∧ (M v0 7) < ((kd_ sh v1).2 : Int)) ((if (M v1 (M v0 7)) = 10 then bd_ (up_ M v0 7 (w32 ((M v0 7) + 1))) fun (M5 : AwM) => (some (.inl M5)) else (if (M v1 (M v0 7)) = 32 then bd_ (up_ M v0 7 (w32 ((M v0 7) + 1))) fun (M8 : AwM) => (some (.inl M8)) else some (.inr (.inr M))))) else some (.inr (.inl M))))
def p_X4_skipBlanks_L0 (Γ : AwC) (sh : AwS) (v0 : Int) (v1 : Int) (v2 : Int) (Q : State → Prop) (s : AwM) : Prop := AW Γ sh (s) 0 0 0 [some (.inr (.inr v0)), some (.inr (.inr v1)), some (.inl v2)] [] Q
def x_X4_skipBlanks_L0 (Γ : AwC) (sh : AwS) (v0 : Int) (v1 : Int) (v2 : Int) (Q : State → Prop) : ((AwM) ⊕ (AwM)) → Prop := (Sum.elim (fun (t : AwM) => AW Γ sh (t) 0 0 44 [none, none, none] [] Q) (fun (t : AwM) => AW Γ sh (t) 0 0 30 [none, none, none] [] Q))
def fX4_skipBlanks (sh : AwS) (M : AwM) (v0 : Int) (v1 : Int) (v2 : Int) : Option (AwM) :=
  pb (lp (u1 (fX4_skipBlanks_L0 sh v0 v1 v2)) FU M) (Sum.elim (u1 (fun (tq10 : AwM) => some tq10)) (u1 (fun (tq10 : AwM) => some tq10)))
set_option maxRecDepth 100000 in
set_option maxHeartbeats 4000000 in
theorem w_X4_skipBlanks_L0 {Γ : AwC} (hC : AOK Γ RX4 cX4_skipBlanks 3 1 0 0 "skipBlanks" none) {sh : AwS} {v0 : Int} {v1 : Int} {v2 : Int} {Q : State → Prop} : ∀ s r, u1 (fX4_skipBlanks_L0 sh v0 v1 v2) s = some r → (∀ s', r = .inl s' → p_X4_skipBlanks_L0 Γ sh v0 v1 v2 Q s') → (∀ t, r = .inr t → x_X4_skipBlanks_L0 Γ sh v0 v1 v2 Q t) → p_X4_skipBlanks_L0 Γ sh v0 v1 v2 Q s := by
  intro M r h hL hX
  replace h := u1_s h
  unfold fX4_skipBlanks_L0 at h
  show AW Γ sh M 0 0 0 [some (.inr (.inr v0)), some (.inr (.inr v1)), some (.inl v2)] [] Q
  refine aw_aload_n (pc' := 1) (i := 0) hC dX4_skipBlanks_0 rfl rfl rfl ?_
  obtain ⟨g1, h⟩ := gd_s h
  refine aw_getfield (pc' := 4) (v := (.inl (M v0 7))) hC dX4_skipBlanks_1 rfl fl_X4_53 g1 rfl ?_
  refine aw_iload_n (pc' := 5) (i := 2) hC dX4_skipBlanks_4 rfl rfl rfl ?_
  refine aw_icmp_ge (tgt := 44) (pc' := 8) hC dX4_skipBlanks_5 (by decide) rfl (fun c2 => ?_) (fun c2 => ?_)
  · replace h := it_n c2 h
    refine aw_sub hC [none, none, none] trivial (Nat.le_of_ble_eq_true rfl) ?_
    cases h
    exact hX _ rfl
  · replace h := it_p c2 h
    refine aw_aload_n (pc' := 9) (i := 1) hC dX4_skipBlanks_8 rfl rfl rfl ?_
    refine aw_aload_n (pc' := 10) (i := 0) hC dX4_skipBlanks_9 rfl rfl rfl ?_
    refine aw_getfield (pc' := 13) (v := (.inl (M v0 7))) hC dX4_skipBlanks_10 rfl fl_X4_53 g1 rfl ?_
    obtain ⟨g3, h⟩ := gd_s h
    refine aw_baload (pc' := 14) hC dX4_skipBlanks_13 rfl g3 ?_
    refine aw_bipush (pc' := 16) hC dX4_skipBlanks_14 rfl (by decide) ?_
    refine aw_icmp_eq (tgt := 31) (pc' := 19) hC dX4_skipBlanks_16 (by decide) rfl (fun c4 => ?_) (fun c4 => ?_)
    · replace h := it_p c4 h
      refine aw_aload_n (pc' := 32) (i := 0) hC dX4_skipBlanks_31 rfl rfl rfl ?_
      refine aw_dup (pc' := 33) hC dX4_skipBlanks_32 rfl rfl ?_
      refine aw_getfield (pc' := 36) (v := (.inl (M v0 7))) hC dX4_skipBlanks_33 rfl fl_X4_53 g1 rfl ?_
      refine aw_iconst (pc' := 37) hC dX4_skipBlanks_36 rfl (by decide) ?_
      refine aw_iadd (pc' := 38) hC dX4_skipBlanks_37 rfl  ?_
      obtain ⟨M5, e6, h⟩ := bd_s h
      refine aw_pf (pc' := 41) hC dX4_skipBlanks_38 rfl fp_X4_53 g1 rfl trivial e6 ?_
      refine aw_goto (tgt := 0) hC dX4_skipBlanks_41 (by decide) ?_
      refine aw_sub hC [some (.inr (.inr v0)), some (.inr (.inr v1)), some (.inl v2)] ⟨rfl, ⟨rfl, ⟨rfl, trivial⟩⟩⟩ (Nat.le_of_ble_eq_true rfl) ?_
      cases h
      exact hL _ rfl
    · replace h := it_n c4 h
      refine aw_aload_n (pc' := 20) (i := 1) hC dX4_skipBlanks_19 rfl rfl rfl ?_
      refine aw_aload_n (pc' := 21) (i := 0) hC dX4_skipBlanks_20 rfl rfl rfl ?_
      refine aw_getfield (pc' := 24) (v := (.inl (M v0 7))) hC dX4_skipBlanks_21 rfl fl_X4_53 g1 rfl ?_
      refine aw_baload (pc' := 25) hC dX4_skipBlanks_24 rfl g3 ?_
      refine aw_bipush (pc' := 27) hC dX4_skipBlanks_25 rfl (by decide) ?_
      refine aw_icmp_eq (tgt := 31) (pc' := 30) hC dX4_skipBlanks_27 (by decide) rfl (fun c7 => ?_) (fun c7 => ?_)
      · replace h := it_p c7 h
        refine aw_aload_n (pc' := 32) (i := 0) hC dX4_skipBlanks_31 rfl rfl rfl ?_
        refine aw_dup (pc' := 33) hC dX4_skipBlanks_32 rfl rfl ?_
        refine aw_getfield (pc' := 36) (v := (.inl (M v0 7))) hC dX4_skipBlanks_33 rfl fl_X4_53 g1 rfl ?_
        refine aw_iconst (pc' := 37) hC dX4_skipBlanks_36 rfl (by decide) ?_
        refine aw_iadd (pc' := 38) hC dX4_skipBlanks_37 rfl  ?_
        obtain ⟨M8, e9, h⟩ := bd_s h
        refine aw_pf (pc' := 41) hC dX4_skipBlanks_38 rfl fp_X4_53 g1 rfl trivial e9 ?_
        refine aw_goto (tgt := 0) hC dX4_skipBlanks_41 (by decide) ?_
        refine aw_sub hC [some (.inr (.inr v0)), some (.inr (.inr v1)), some (.inl v2)] ⟨rfl, ⟨rfl, ⟨rfl, trivial⟩⟩⟩ (Nat.le_of_ble_eq_true rfl) ?_
        cases h
        exact hL _ rfl
      · replace h := it_n c7 h
        refine aw_sub hC [none, none, none] trivial (Nat.le_of_ble_eq_true rfl) ?_
        cases h
        exact hX _ rfl
set_option maxRecDepth 100000 in
set_option maxHeartbeats 4000000 in
theorem mX4_skipBlanks {sh : AwS} {M : AwM} {v0 : Int} {v1 : Int} {v2 : Int} {M' : AwM} (h : fX4_skipBlanks sh M v0 v1 v2 = some M') : AMet yX4_skipBlanks cX4_skipBlanks 3 none 1 0 0 [.inr (.inr v0), .inr (.inr v1), .inl v2] sh M none sh M' := by
  refine amet_of (by decide +kernel) (Nat.le_of_ble_eq_true rfl) (fun Γ hC => ?_)
  replace hC : AOK Γ RX4 cX4_skipBlanks 3 1 0 0 "skipBlanks" none := hC
  unfold fX4_skipBlanks at h
  refine aw_sub hC [some (.inr (.inr v0)), some (.inr (.inr v1)), some (.inl v2)] ⟨rfl, ⟨rfl, ⟨rfl, trivial⟩⟩⟩ (Nat.le_of_ble_eq_true rfl) ?_
  obtain ⟨tq10, q10, h⟩ := pb_s h
  refine aw_sub hC [some (.inr (.inr v0)), some (.inr (.inr v1)), some (.inl v2)] ⟨rfl, ⟨rfl, ⟨rfl, trivial⟩⟩⟩ (Nat.le_of_ble_eq_true rfl) ?_
  refine (lp_aw (p_X4_skipBlanks_L0 Γ sh v0 v1 v2 (fin_ Γ 0 0 none sh M')) (x_X4_skipBlanks_L0 Γ sh v0 v1 v2 (fin_ Γ 0 0 none sh M')) (w_X4_skipBlanks_L0 hC ) FU _ _ q10 ?_ : p_X4_skipBlanks_L0 Γ sh v0 v1 v2 (fin_ Γ 0 0 none sh M') M)
  rcases tq10 with tq10 | tq10
  · replace h := se_l h
    replace h := u1_s h
    show AW Γ sh tq10 0 0 44 [none, none, none] [] _
    cases h
    exact aw_vret hC dX4_skipBlanks_44 (Nat.le_of_ble_eq_true rfl) (Nat.le_of_ble_eq_true rfl)
  · replace h := se_r h
    replace h := u1_s h
    show AW Γ sh tq10 0 0 30 [none, none, none] [] _
    cases h
    exact aw_vret hC dX4_skipBlanks_30 (Nat.le_of_ble_eq_true rfl) (Nat.le_of_ble_eq_true rfl)
-- CoinCircle$Scanner.isLetter(B)Z
def fX4_isLetter (sh : AwS) (M : AwM) (v0 : Int) : Option Int :=
  (if v0 < 97 then some 0 else (if 122 < v0 then some 0 else some 1))
set_option maxRecDepth 100000 in
set_option maxHeartbeats 4000000 in
theorem mX4_isLetter {sh : AwS} {M : AwM} {v0 : Int} {r : Int} (h : fX4_isLetter sh M v0 = some r) : AMet yX4_isLetter cX4_isLetter 1 (some .boolean) 1 0 0 [.inl v0] sh M (some (.inl r)) sh M := by
  refine amet_of (by decide +kernel) (Nat.le_of_ble_eq_true rfl) (fun Γ hC => ?_)
  replace hC : AOK Γ RX4 cX4_isLetter 1 1 0 0 "isLetter" (some .boolean) := hC
  unfold fX4_isLetter at h
  refine aw_sub hC [some (.inl v0)] ⟨rfl, trivial⟩ (Nat.le_of_ble_eq_true rfl) ?_
  refine aw_iload_n (pc' := 1) (i := 0) hC dX4_isLetter_0 rfl rfl rfl ?_
  refine aw_bipush (pc' := 3) hC dX4_isLetter_1 rfl (by decide) ?_
  refine aw_icmp_lt (tgt := 16) (pc' := 6) hC dX4_isLetter_3 (by decide) rfl (fun c1 => ?_) (fun c1 => ?_)
  · replace h := it_p c1 h
    refine aw_iconst (pc' := 17) hC dX4_isLetter_16 rfl (by decide) ?_
    cases h
    exact aw_zret hC (Or.inl rfl) dX4_isLetter_17 (Nat.le_of_ble_eq_true rfl) (Nat.le_of_ble_eq_true rfl)
  · replace h := it_n c1 h
    refine aw_iload_n (pc' := 7) (i := 0) hC dX4_isLetter_6 rfl rfl rfl ?_
    refine aw_bipush (pc' := 9) hC dX4_isLetter_7 rfl (by decide) ?_
    refine aw_icmp_gt (tgt := 16) (pc' := 12) hC dX4_isLetter_9 (by decide) rfl (fun c2 => ?_) (fun c2 => ?_)
    · replace h := it_p c2 h
      refine aw_iconst (pc' := 17) hC dX4_isLetter_16 rfl (by decide) ?_
      cases h
      exact aw_zret hC (Or.inl rfl) dX4_isLetter_17 (Nat.le_of_ble_eq_true rfl) (Nat.le_of_ble_eq_true rfl)
    · replace h := it_n c2 h
      refine aw_iconst (pc' := 13) hC dX4_isLetter_12 rfl (by decide) ?_
      refine aw_goto (tgt := 17) hC dX4_isLetter_13 (by decide) ?_
      cases h
      exact aw_zret hC (Or.inr rfl) dX4_isLetter_17 (Nat.le_of_ble_eq_true rfl) (Nat.le_of_ble_eq_true rfl)
-- CoinCircle$Scanner.ownWordOf(J)I
def fX4_ownWordOf_L2 (sh : AwS) (M : AwM) (v0 : Int) (v1 : Int) (v3 : Int) : Option ((Int) ⊕ ((Unit) ⊕ (Int))) :=
  (if v3 < 23 then gd_ (kd_ sh v0 = (0, 4)) (gd_ ((kd_ sh (M v0 0)).1 = 2 ∧ (0 : Int) ≤ v3 ∧ v3 < ((kd_ sh (M v0 0)).2 : Int)) ((if (cmp_ (M (M v0 0) v3) v1) = 0 then some (.inr (.inr v3)) else some (.inl (w32 (v3 + 1)))))) else some (.inr (.inl ())))
def p_X4_ownWordOf_L2 (Γ : AwC) (sh : AwS) (M : AwM) (v0 : Int) (v1 : Int) (Q : State → Prop) (s : Int) : Prop := AW Γ sh M 0 0 2 [some (.inr (.inr v0)), some (.inr (.inl v1)), none, some (.inl (s))] [] Q
def x_X4_ownWordOf_L2 (Γ : AwC) (sh : AwS) (M : AwM) (v0 : Int) (v1 : Int) (Q : State → Prop) : ((Unit) ⊕ (Int)) → Prop := (Sum.elim (fun (t : Unit) => AW Γ sh M 0 0 27 [none, none, none, none] [] Q) (fun (t : Int) => AW Γ sh M 0 0 19 [none, none, none, some (.inl (t))] [] Q))
def fX4_ownWordOf (sh : AwS) (M : AwM) (v0 : Int) (v1 : Int) : Option Int :=
  pb (lp (u1 (fX4_ownWordOf_L2 sh M v0 v1)) FU 0) (Sum.elim (u0 (some (-1))) (u1 (fun (tq5 : Int) => some tq5)))
set_option maxRecDepth 100000 in
set_option maxHeartbeats 4000000 in
theorem w_X4_ownWordOf_L2 {Γ : AwC} (hC : AOK Γ RX4 cX4_ownWordOf 4 1 0 0 "ownWordOf" (some .int)) {sh : AwS} {M : AwM} {v0 : Int} {v1 : Int} {Q : State → Prop} : ∀ s r, u1 (fX4_ownWordOf_L2 sh M v0 v1) s = some r → (∀ s', r = .inl s' → p_X4_ownWordOf_L2 Γ sh M v0 v1 Q s') → (∀ t, r = .inr t → x_X4_ownWordOf_L2 Γ sh M v0 v1 Q t) → p_X4_ownWordOf_L2 Γ sh M v0 v1 Q s := by
  intro v3 r h hL hX
  replace h := u1_s h
  unfold fX4_ownWordOf_L2 at h
  show AW Γ sh M 0 0 2 [some (.inr (.inr v0)), some (.inr (.inl v1)), none, some (.inl v3)] [] Q
  refine aw_iload_n (pc' := 3) (i := 3) hC dX4_ownWordOf_2 rfl rfl rfl ?_
  refine aw_bipush (pc' := 5) hC dX4_ownWordOf_3 rfl (by decide) ?_
  refine aw_icmp_ge (tgt := 27) (pc' := 8) hC dX4_ownWordOf_5 (by decide) rfl (fun c1 => ?_) (fun c1 => ?_)
  · replace h := it_n c1 h
    refine aw_sub hC [none, none, none, none] trivial (Nat.le_of_ble_eq_true rfl) ?_
    cases h
    exact hX _ rfl
  · replace h := it_p c1 h
    refine aw_aload_n (pc' := 9) (i := 0) hC dX4_ownWordOf_8 rfl rfl rfl ?_
    obtain ⟨g2, h⟩ := gd_s h
    refine aw_getfield (pc' := 12) (v := (.inr (.inr (M v0 0)))) hC dX4_ownWordOf_9 rfl fl_X4_9 g2 rfl ?_
    refine aw_iload_n (pc' := 13) (i := 3) hC dX4_ownWordOf_12 rfl rfl rfl ?_
    obtain ⟨g3, h⟩ := gd_s h
    refine aw_laload (pc' := 14) hC dX4_ownWordOf_13 rfl g3 ?_
    refine aw_lload_n (pc' := 15) (i := 1) hC dX4_ownWordOf_14 rfl rfl rfl ?_
    refine aw_lcmp (pc' := 16) hC dX4_ownWordOf_15 rfl  ?_
    refine aw_if_ne (tgt := 21) (pc' := 19) hC dX4_ownWordOf_16 (by decide) rfl (fun c4 => ?_) (fun c4 => ?_)
    · replace h := it_n c4 h
      refine aw_iinc (pc' := 24) (ls' := [some (.inr (.inr v0)), some (.inr (.inl v1)), none, some (.inl (w32 (v3 + 1)))]) hC dX4_ownWordOf_21 rfl rfl rfl rfl ?_
      refine aw_goto (tgt := 2) hC dX4_ownWordOf_24 (by decide) ?_
      refine aw_sub hC [some (.inr (.inr v0)), some (.inr (.inl v1)), none, some (.inl (w32 (v3 + 1)))] ⟨rfl, ⟨rfl, ⟨rfl, trivial⟩⟩⟩ (Nat.le_of_ble_eq_true rfl) ?_
      cases h
      exact hL _ rfl
    · replace h := it_p c4 h
      refine aw_sub hC [none, none, none, some (.inl v3)] ⟨rfl, trivial⟩ (Nat.le_of_ble_eq_true rfl) ?_
      cases h
      exact hX _ rfl
set_option maxRecDepth 100000 in
set_option maxHeartbeats 4000000 in
theorem mX4_ownWordOf {sh : AwS} {M : AwM} {v0 : Int} {v1 : Int} {r : Int} (h : fX4_ownWordOf sh M v0 v1 = some r) : AMet yX4_ownWordOf cX4_ownWordOf 4 (some .int) 1 0 0 [.inr (.inr v0), .inr (.inl v1)] sh M (some (.inl r)) sh M := by
  refine amet_of (by decide +kernel) (Nat.le_of_ble_eq_true rfl) (fun Γ hC => ?_)
  replace hC : AOK Γ RX4 cX4_ownWordOf 4 1 0 0 "ownWordOf" (some .int) := hC
  unfold fX4_ownWordOf at h
  refine aw_sub hC [some (.inr (.inr v0)), some (.inr (.inl v1)), none, none] ⟨rfl, ⟨rfl, trivial⟩⟩ (Nat.le_of_ble_eq_true rfl) ?_
  refine aw_iconst (pc' := 1) hC dX4_ownWordOf_0 rfl (by decide) ?_
  refine aw_istore_n (pc' := 2) (i := 3) (ls' := [some (.inr (.inr v0)), some (.inr (.inl v1)), none, some (.inl 0)]) hC dX4_ownWordOf_1 rfl rfl (Nat.le_of_ble_eq_true rfl) rfl rfl ?_
  obtain ⟨tq5, q5, h⟩ := pb_s h
  refine aw_sub hC [some (.inr (.inr v0)), some (.inr (.inl v1)), none, some (.inl 0)] ⟨rfl, ⟨rfl, ⟨rfl, trivial⟩⟩⟩ (Nat.le_of_ble_eq_true rfl) ?_
  refine (lp_aw (p_X4_ownWordOf_L2 Γ sh M v0 v1 (fin_ Γ 0 0 (some (.inl r)) sh M)) (x_X4_ownWordOf_L2 Γ sh M v0 v1 (fin_ Γ 0 0 (some (.inl r)) sh M)) (w_X4_ownWordOf_L2 hC ) FU _ _ q5 ?_ : p_X4_ownWordOf_L2 Γ sh M v0 v1 (fin_ Γ 0 0 (some (.inl r)) sh M) 0)
  rcases tq5 with tq5 | tq5
  · replace h := se_l h
    cases tq5
    replace h := u0_s h
    show AW Γ sh M 0 0 27 [none, none, none, none] [] _
    refine aw_iconst (pc' := 28) hC dX4_ownWordOf_27 rfl (by decide) ?_
    cases h
    exact aw_iret hC dX4_ownWordOf_28 (Nat.le_of_ble_eq_true rfl) (Nat.le_of_ble_eq_true rfl)
  · replace h := se_r h
    replace h := u1_s h
    show AW Γ sh M 0 0 19 [none, none, none, some (.inl tq5)] [] _
    refine aw_iload_n (pc' := 20) (i := 3) hC dX4_ownWordOf_19 rfl rfl rfl ?_
    cases h
    exact aw_iret hC dX4_ownWordOf_20 (Nat.le_of_ble_eq_true rfl) (Nat.le_of_ble_eq_true rfl)
-- CoinCircle$Scanner.readWord([BI)V
def fX4_readWord_L5 (sh : AwS) (v0 : Int) (v1 : Int) (v2 : Int) (v3 : Int) (v5 : Int) (M : AwM) : Option ((Int × Int × AwM) ⊕ (Int × Int × AwM)) :=
  gd_ (kd_ sh v0 = (0, 4)) ((if (M v0 7) < v2 then gd_ ((kd_ sh v1).1 = 3 ∧ (0 : Int) ≤ (M v0 7) ∧ (M v0 7) < ((kd_ sh v1).2 : Int)) (pb (fX4_isLetter sh M (M v1 (M v0 7))) <| u1 fun (x5 : Int) => ((if x5 = 0 then some (.inr (v3, v5, M)) else (if v5 < 8 then bd_ ((orl_ v3 (sll_ (w32 ((w32 ((M v1 (M v0 7)) - 97)) + 1)) (w32 (5 * v5))))) fun (x10 : Int) => (bd_ (up_ M v0 7 (w32 ((M v0 7) + 1))) fun (M12 : AwM) => (some (.inl (x10, (w32 (v5 + 1)), M12)))) else bd_ (up_ M v0 7 (w32 ((M v0 7) + 1))) fun (M8 : AwM) => (some (.inl (v3, (w32 (v5 + 1)), M8))))))) else some (.inr (v3, v5, M))))
def p_X4_readWord_L5 (Γ : AwC) (sh : AwS) (v0 : Int) (v1 : Int) (v2 : Int) (Q : State → Prop) (s : Int × Int × AwM) : Prop := AW Γ sh (s.2.2) 0 0 5 [some (.inr (.inr v0)), some (.inr (.inr v1)), some (.inl v2), some (.inr (.inl (s.1))), none, some (.inl (s.2.1)), none] [] Q
def x_X4_readWord_L5 (Γ : AwC) (sh : AwS) (v0 : Int) (v1 : Int) (v2 : Int) (Q : State → Prop) : (Int × Int × AwM) → Prop := (fun (t : Int × Int × AwM) => AW Γ sh (t.2.2) 0 0 68 [some (.inr (.inr v0)), none, none, some (.inr (.inl (t.1))), none, some (.inl (t.2.1)), none] [] Q)
def fX4_readWord_J84 (sh : AwS) (M : AwM) (v0 : Int) (v3 : Int) (v5 : Int) (s0 : Int) : Option (AwM) :=
  (if s0 = (-1) then (if 6 < v5 then gd_ (kd_ sh v0 = (0, 4)) (bd_ (up_ M v0 8 5) fun (M27 : AwM) => (bd_ (up_ M27 v0 11 (w32 ((M27 v0 10) + 6))) fun (M29 : AwM) => (some M29))) else gd_ (kd_ sh v0 = (0, 4)) (bd_ (up_ M v0 8 3) fun (M22 : AwM) => (bd_ (up_ M22 v0 9 (w32 v3)) fun (M24 : AwM) => (some M24)))) else gd_ (kd_ sh v0 = (0, 4)) (bd_ (up_ M v0 8 4) fun (M32 : AwM) => (bd_ (up_ M32 v0 9 s0) fun (M34 : AwM) => (some M34))))
def fX4_readWord_J68 (sh : AwS) (M : AwM) (v0 : Int) (v3 : Int) (v5 : Int) : Option (AwM) :=
  (if 8 < v5 then fX4_readWord_J84 sh M v0 v3 v5 (-1) else gd_ (kd_ sh v0 = (0, 4)) (pb (fX4_ownWordOf sh M v0 v3) <| u1 fun (x38 : Int) => (fX4_readWord_J84 sh M v0 v3 v5 x38)))
def fX4_readWord (sh : AwS) (M : AwM) (v0 : Int) (v1 : Int) (v2 : Int) : Option (AwM) :=
  pb (lp (u3 (fX4_readWord_L5 sh v0 v1 v2)) FU (0, 0, M)) (u3 (fun (x15 : Int) (x16 : Int) (M17 : AwM) => fX4_readWord_J68 sh M17 v0 x15 x16))
set_option maxRecDepth 100000 in
set_option maxHeartbeats 4000000 in
theorem w_X4_readWord_L5 {Γ : AwC} (hC : AOK Γ RX4 cX4_readWord 7 2 0 0 "readWord" none) {sh : AwS} {v0 : Int} {v1 : Int} {v2 : Int} {Q : State → Prop} : ∀ s r, u3 (fX4_readWord_L5 sh v0 v1 v2) s = some r → (∀ s', r = .inl s' → p_X4_readWord_L5 Γ sh v0 v1 v2 Q s') → (∀ t, r = .inr t → x_X4_readWord_L5 Γ sh v0 v1 v2 Q t) → p_X4_readWord_L5 Γ sh v0 v1 v2 Q s := by
  intro s r h hL hX
  obtain ⟨v3, v5, M⟩ := s
  replace h := u3_s h
  unfold fX4_readWord_L5 at h
  show AW Γ sh M 0 0 5 [some (.inr (.inr v0)), some (.inr (.inr v1)), some (.inl v2), some (.inr (.inl v3)), none, some (.inl v5), none] [] Q
  refine aw_aload_n (pc' := 6) (i := 0) hC dX4_readWord_5 rfl rfl rfl ?_
  obtain ⟨g1, h⟩ := gd_s h
  refine aw_getfield (pc' := 9) (v := (.inl (M v0 7))) hC dX4_readWord_6 rfl fl_X4_53 g1 rfl ?_
  refine aw_iload_n (pc' := 10) (i := 2) hC dX4_readWord_9 rfl rfl rfl ?_
  refine aw_icmp_ge (tgt := 68) (pc' := 13) hC dX4_readWord_10 (by decide) rfl (fun c2 => ?_) (fun c2 => ?_)
  · replace h := it_n c2 h
    refine aw_sub hC [some (.inr (.inr v0)), none, none, some (.inr (.inl v3)), none, some (.inl v5), none] ⟨rfl, ⟨rfl, ⟨rfl, trivial⟩⟩⟩ (Nat.le_of_ble_eq_true rfl) ?_
    cases h
    exact hX _ rfl
  · replace h := it_p c2 h
    refine aw_aload_n (pc' := 14) (i := 1) hC dX4_readWord_13 rfl rfl rfl ?_
    refine aw_aload_n (pc' := 15) (i := 0) hC dX4_readWord_14 rfl rfl rfl ?_
    refine aw_getfield (pc' := 18) (v := (.inl (M v0 7))) hC dX4_readWord_15 rfl fl_X4_53 g1 rfl ?_
    obtain ⟨g3, h⟩ := gd_s h
    refine aw_baload (pc' := 19) hC dX4_readWord_18 rfl g3 ?_
    obtain ⟨x5, q4, h⟩ := pb_s h
    replace h := u1_s h
    refine aw_cS (pc' := 22) (k2 := 0) (n2 := 0) (st := []) (stN := [.inl x5]) hC [.inl (M v1 (M v0 7))] (mX4_isLetter q4) lk_X4_81 dX4_readWord_19 rfl rfl (Nat.le_of_ble_eq_true rfl) (Nat.le_of_ble_eq_true rfl) (Nat.le_of_ble_eq_true rfl) rfl (Nat.le_of_ble_eq_true rfl) rfl rfl rfl ?_
    refine aw_if_eq (tgt := 68) (pc' := 25) hC dX4_readWord_22 (by decide) rfl (fun c6 => ?_) (fun c6 => ?_)
    · replace h := it_p c6 h
      refine aw_sub hC [some (.inr (.inr v0)), none, none, some (.inr (.inl v3)), none, some (.inl v5), none] ⟨rfl, ⟨rfl, ⟨rfl, trivial⟩⟩⟩ (Nat.le_of_ble_eq_true rfl) ?_
      cases h
      exact hX _ rfl
    · replace h := it_n c6 h
      refine aw_iload (pc' := 27) hC dX4_readWord_25 rfl rfl ?_
      refine aw_bipush (pc' := 29) hC dX4_readWord_27 rfl (by decide) ?_
      refine aw_icmp_ge (tgt := 52) (pc' := 32) hC dX4_readWord_29 (by decide) rfl (fun c7 => ?_) (fun c7 => ?_)
      · replace h := it_n c7 h
        refine aw_iinc (pc' := 55) (ls' := [some (.inr (.inr v0)), some (.inr (.inr v1)), some (.inl v2), some (.inr (.inl v3)), none, some (.inl (w32 (v5 + 1))), none]) hC dX4_readWord_52 rfl rfl rfl rfl ?_
        refine aw_aload_n (pc' := 56) (i := 0) hC dX4_readWord_55 rfl rfl rfl ?_
        refine aw_dup (pc' := 57) hC dX4_readWord_56 rfl rfl ?_
        refine aw_getfield (pc' := 60) (v := (.inl (M v0 7))) hC dX4_readWord_57 rfl fl_X4_53 g1 rfl ?_
        refine aw_iconst (pc' := 61) hC dX4_readWord_60 rfl (by decide) ?_
        refine aw_iadd (pc' := 62) hC dX4_readWord_61 rfl  ?_
        obtain ⟨M8, e9, h⟩ := bd_s h
        refine aw_pf (pc' := 65) hC dX4_readWord_62 rfl fp_X4_53 g1 rfl trivial e9 ?_
        refine aw_goto (tgt := 5) hC dX4_readWord_65 (by decide) ?_
        refine aw_sub hC [some (.inr (.inr v0)), some (.inr (.inr v1)), some (.inl v2), some (.inr (.inl v3)), none, some (.inl (w32 (v5 + 1))), none] ⟨rfl, ⟨rfl, ⟨rfl, ⟨rfl, ⟨rfl, trivial⟩⟩⟩⟩⟩ (Nat.le_of_ble_eq_true rfl) ?_
        cases h
        exact hL _ rfl
      · replace h := it_p c7 h
        refine aw_lload_n (pc' := 33) (i := 3) hC dX4_readWord_32 rfl rfl rfl ?_
        refine aw_aload_n (pc' := 34) (i := 1) hC dX4_readWord_33 rfl rfl rfl ?_
        refine aw_aload_n (pc' := 35) (i := 0) hC dX4_readWord_34 rfl rfl rfl ?_
        refine aw_getfield (pc' := 38) (v := (.inl (M v0 7))) hC dX4_readWord_35 rfl fl_X4_53 g1 rfl ?_
        refine aw_baload (pc' := 39) hC dX4_readWord_38 rfl g3 ?_
        refine aw_bipush (pc' := 41) hC dX4_readWord_39 rfl (by decide) ?_
        refine aw_isub (pc' := 42) hC dX4_readWord_41 rfl  ?_
        refine aw_iconst (pc' := 43) hC dX4_readWord_42 rfl (by decide) ?_
        refine aw_iadd (pc' := 44) hC dX4_readWord_43 rfl  ?_
        refine aw_i2l (pc' := 45) hC dX4_readWord_44 rfl  ?_
        refine aw_iconst (pc' := 46) hC dX4_readWord_45 rfl (by decide) ?_
        refine aw_iload (pc' := 48) hC dX4_readWord_46 rfl rfl ?_
        refine aw_imul (pc' := 49) hC dX4_readWord_48 rfl  ?_
        refine aw_lshl (pc' := 50) hC dX4_readWord_49 rfl  ?_
        refine aw_lor (pc' := 51) hC dX4_readWord_50 rfl  ?_
        obtain ⟨x10, e11, h⟩ := bd_s h
        refine aw_renl e11 ?_
        refine aw_lstore_n (pc' := 52) (i := 3) (ls' := [some (.inr (.inr v0)), some (.inr (.inr v1)), some (.inl v2), some (.inr (.inl x10)), none, some (.inl v5), none]) hC dX4_readWord_51 rfl rfl (Nat.le_of_ble_eq_true rfl) rfl rfl ?_
        refine aw_iinc (pc' := 55) (ls' := [some (.inr (.inr v0)), some (.inr (.inr v1)), some (.inl v2), some (.inr (.inl x10)), none, some (.inl (w32 (v5 + 1))), none]) hC dX4_readWord_52 rfl rfl rfl rfl ?_
        refine aw_aload_n (pc' := 56) (i := 0) hC dX4_readWord_55 rfl rfl rfl ?_
        refine aw_dup (pc' := 57) hC dX4_readWord_56 rfl rfl ?_
        refine aw_getfield (pc' := 60) (v := (.inl (M v0 7))) hC dX4_readWord_57 rfl fl_X4_53 g1 rfl ?_
        refine aw_iconst (pc' := 61) hC dX4_readWord_60 rfl (by decide) ?_
        refine aw_iadd (pc' := 62) hC dX4_readWord_61 rfl  ?_
        obtain ⟨M12, e13, h⟩ := bd_s h
        refine aw_pf (pc' := 65) hC dX4_readWord_62 rfl fp_X4_53 g1 rfl trivial e13 ?_
        refine aw_goto (tgt := 5) hC dX4_readWord_65 (by decide) ?_
        refine aw_sub hC [some (.inr (.inr v0)), some (.inr (.inr v1)), some (.inl v2), some (.inr (.inl x10)), none, some (.inl (w32 (v5 + 1))), none] ⟨rfl, ⟨rfl, ⟨rfl, ⟨rfl, ⟨rfl, trivial⟩⟩⟩⟩⟩ (Nat.le_of_ble_eq_true rfl) ?_
        cases h
        exact hL _ rfl
set_option maxRecDepth 100000 in
set_option maxHeartbeats 4000000 in
theorem w_X4_readWord_J84 {Γ : AwC} (hC : AOK Γ RX4 cX4_readWord 7 2 0 0 "readWord" none) {sh : AwS} {M : AwM} {v0 : Int} {v3 : Int} {v5 : Int} {s0 : Int} {M' : AwM} (h : fX4_readWord_J84 sh M v0 v3 v5 s0 = some M') {Q : State → Prop} (hQ : Q = (fin_ Γ 0 0 none sh M')) : AW Γ sh M 0 0 84 [some (.inr (.inr v0)), none, none, some (.inr (.inl v3)), none, some (.inl v5), none] [.inl s0] Q := by
  unfold fX4_readWord_J84 at h
  refine aw_istore (pc' := 86) (ls' := [some (.inr (.inr v0)), none, none, some (.inr (.inl v3)), none, some (.inl v5), some (.inl s0)]) hC dX4_readWord_84 rfl (Nat.le_of_ble_eq_true rfl) rfl rfl ?_
  refine aw_iload (pc' := 88) hC dX4_readWord_86 rfl rfl ?_
  refine aw_iconst (pc' := 89) hC dX4_readWord_88 rfl (by decide) ?_
  refine aw_icmp_eq (tgt := 106) (pc' := 92) hC dX4_readWord_89 (by decide) rfl (fun c19 => ?_) (fun c19 => ?_)
  · replace h := it_p c19 h
    refine aw_iload (pc' := 108) hC dX4_readWord_106 rfl rfl ?_
    refine aw_bipush (pc' := 110) hC dX4_readWord_108 rfl (by decide) ?_
    refine aw_icmp_le (tgt := 132) (pc' := 113) hC dX4_readWord_110 (by decide) rfl (fun c20 => ?_) (fun c20 => ?_)
    · replace h := it_n c20 h
      refine aw_aload_n (pc' := 133) (i := 0) hC dX4_readWord_132 rfl rfl rfl ?_
      refine aw_iconst (pc' := 134) hC dX4_readWord_133 rfl (by decide) ?_
      obtain ⟨g21, h⟩ := gd_s h
      obtain ⟨M22, e23, h⟩ := bd_s h
      refine aw_pf (pc' := 137) hC dX4_readWord_134 rfl fp_X4_56 g21 rfl trivial e23 ?_
      refine aw_aload_n (pc' := 138) (i := 0) hC dX4_readWord_137 rfl rfl rfl ?_
      refine aw_lload_n (pc' := 139) (i := 3) hC dX4_readWord_138 rfl rfl rfl ?_
      refine aw_l2i (pc' := 140) hC dX4_readWord_139 rfl  ?_
      obtain ⟨M24, e25, h⟩ := bd_s h
      refine aw_pf (pc' := 143) hC dX4_readWord_140 rfl fp_X4_63 g21 rfl trivial e25 ?_
      cases h
      subst hQ
      exact aw_vret hC dX4_readWord_143 (Nat.le_of_ble_eq_true rfl) (Nat.le_of_ble_eq_true rfl)
    · replace h := it_p c20 h
      refine aw_aload_n (pc' := 114) (i := 0) hC dX4_readWord_113 rfl rfl rfl ?_
      refine aw_iconst (pc' := 115) hC dX4_readWord_114 rfl (by decide) ?_
      obtain ⟨g26, h⟩ := gd_s h
      obtain ⟨M27, e28, h⟩ := bd_s h
      refine aw_pf (pc' := 118) hC dX4_readWord_115 rfl fp_X4_56 g26 rfl trivial e28 ?_
      refine aw_aload_n (pc' := 119) (i := 0) hC dX4_readWord_118 rfl rfl rfl ?_
      refine aw_aload_n (pc' := 120) (i := 0) hC dX4_readWord_119 rfl rfl rfl ?_
      refine aw_getfield (pc' := 123) (v := (.inl (M27 v0 10))) hC dX4_readWord_120 rfl fl_X4_66 g26 rfl ?_
      refine aw_bipush (pc' := 125) hC dX4_readWord_123 rfl (by decide) ?_
      refine aw_iadd (pc' := 126) hC dX4_readWord_125 rfl  ?_
      obtain ⟨M29, e30, h⟩ := bd_s h
      refine aw_pf (pc' := 129) hC dX4_readWord_126 rfl fp_X4_69 g26 rfl trivial e30 ?_
      refine aw_goto (tgt := 143) hC dX4_readWord_129 (by decide) ?_
      cases h
      subst hQ
      exact aw_vret hC dX4_readWord_143 (Nat.le_of_ble_eq_true rfl) (Nat.le_of_ble_eq_true rfl)
  · replace h := it_n c19 h
    refine aw_aload_n (pc' := 93) (i := 0) hC dX4_readWord_92 rfl rfl rfl ?_
    refine aw_iconst (pc' := 94) hC dX4_readWord_93 rfl (by decide) ?_
    obtain ⟨g31, h⟩ := gd_s h
    obtain ⟨M32, e33, h⟩ := bd_s h
    refine aw_pf (pc' := 97) hC dX4_readWord_94 rfl fp_X4_56 g31 rfl trivial e33 ?_
    refine aw_aload_n (pc' := 98) (i := 0) hC dX4_readWord_97 rfl rfl rfl ?_
    refine aw_iload (pc' := 100) hC dX4_readWord_98 rfl rfl ?_
    obtain ⟨M34, e35, h⟩ := bd_s h
    refine aw_pf (pc' := 103) hC dX4_readWord_100 rfl fp_X4_63 g31 rfl trivial e35 ?_
    refine aw_goto (tgt := 143) hC dX4_readWord_103 (by decide) ?_
    cases h
    subst hQ
    exact aw_vret hC dX4_readWord_143 (Nat.le_of_ble_eq_true rfl) (Nat.le_of_ble_eq_true rfl)
set_option maxRecDepth 100000 in
set_option maxHeartbeats 4000000 in
theorem w_X4_readWord_J68 {Γ : AwC} (hC : AOK Γ RX4 cX4_readWord 7 2 0 0 "readWord" none) {sh : AwS} {M : AwM} {v0 : Int} {v3 : Int} {v5 : Int} {M' : AwM} (h : fX4_readWord_J68 sh M v0 v3 v5 = some M') {Q : State → Prop} (hQ : Q = (fin_ Γ 0 0 none sh M')) : AW Γ sh M 0 0 68 [some (.inr (.inr v0)), none, none, some (.inr (.inl v3)), none, some (.inl v5), none] [] Q := by
  unfold fX4_readWord_J68 at h
  refine aw_iload (pc' := 70) hC dX4_readWord_68 rfl rfl ?_
  refine aw_bipush (pc' := 72) hC dX4_readWord_70 rfl (by decide) ?_
  refine aw_icmp_gt (tgt := 83) (pc' := 75) hC dX4_readWord_72 (by decide) rfl (fun c18 => ?_) (fun c18 => ?_)
  · replace h := it_p c18 h
    refine aw_iconst (pc' := 84) hC dX4_readWord_83 rfl (by decide) ?_
    refine aw_sub hC [some (.inr (.inr v0)), none, none, some (.inr (.inl v3)), none, some (.inl v5), none] ⟨rfl, ⟨rfl, ⟨rfl, trivial⟩⟩⟩ (Nat.le_of_ble_eq_true rfl) ?_
    exact w_X4_readWord_J84 hC h hQ
  · replace h := it_n c18 h
    refine aw_aload_n (pc' := 76) (i := 0) hC dX4_readWord_75 rfl rfl rfl ?_
    refine aw_lload_n (pc' := 77) (i := 3) hC dX4_readWord_76 rfl rfl rfl ?_
    obtain ⟨g37, h⟩ := gd_s h
    obtain ⟨x38, q36, h⟩ := pb_s h
    replace h := u1_s h
    refine aw_cV (pc' := 80) (k2 := 0) (n2 := 0) (st := []) (stN := [.inl x38]) hC [.inr (.inl v3)] (mX4_ownWordOf q36) lk_X4_100 g37 dX4_readWord_77 rfl rfl (Nat.le_of_ble_eq_true rfl) (Nat.le_of_ble_eq_true rfl) (Nat.le_of_ble_eq_true rfl) rfl (Nat.le_of_ble_eq_true rfl) rfl rfl rfl ?_
    refine aw_goto (tgt := 84) hC dX4_readWord_80 (by decide) ?_
    refine aw_sub hC [some (.inr (.inr v0)), none, none, some (.inr (.inl v3)), none, some (.inl v5), none] ⟨rfl, ⟨rfl, ⟨rfl, trivial⟩⟩⟩ (Nat.le_of_ble_eq_true rfl) ?_
    exact w_X4_readWord_J84 hC h hQ
set_option maxRecDepth 100000 in
set_option maxHeartbeats 4000000 in
theorem mX4_readWord {sh : AwS} {M : AwM} {v0 : Int} {v1 : Int} {v2 : Int} {M' : AwM} (h : fX4_readWord sh M v0 v1 v2 = some M') : AMet yX4_readWord cX4_readWord 7 none 2 0 0 [.inr (.inr v0), .inr (.inr v1), .inl v2] sh M none sh M' := by
  refine amet_of (by decide +kernel) (Nat.le_of_ble_eq_true rfl) (fun Γ hC => ?_)
  replace hC : AOK Γ RX4 cX4_readWord 7 2 0 0 "readWord" none := hC
  unfold fX4_readWord at h
  refine aw_sub hC [some (.inr (.inr v0)), some (.inr (.inr v1)), some (.inl v2), none, none, none, none] ⟨rfl, ⟨rfl, ⟨rfl, trivial⟩⟩⟩ (Nat.le_of_ble_eq_true rfl) ?_
  refine aw_lconst (pc' := 1) (v := 0) hC dX4_readWord_0 rfl rfl (by decide) ?_
  refine aw_lstore_n (pc' := 2) (i := 3) (ls' := [some (.inr (.inr v0)), some (.inr (.inr v1)), some (.inl v2), some (.inr (.inl 0)), none, none, none]) hC dX4_readWord_1 rfl rfl (Nat.le_of_ble_eq_true rfl) rfl rfl ?_
  refine aw_iconst (pc' := 3) hC dX4_readWord_2 rfl (by decide) ?_
  refine aw_istore (pc' := 5) (ls' := [some (.inr (.inr v0)), some (.inr (.inr v1)), some (.inl v2), some (.inr (.inl 0)), none, some (.inl 0), none]) hC dX4_readWord_3 rfl (Nat.le_of_ble_eq_true rfl) rfl rfl ?_
  obtain ⟨tq14, q14, h⟩ := pb_s h
  refine aw_sub hC [some (.inr (.inr v0)), some (.inr (.inr v1)), some (.inl v2), some (.inr (.inl 0)), none, some (.inl 0), none] ⟨rfl, ⟨rfl, ⟨rfl, ⟨rfl, ⟨rfl, trivial⟩⟩⟩⟩⟩ (Nat.le_of_ble_eq_true rfl) ?_
  refine (lp_aw (p_X4_readWord_L5 Γ sh v0 v1 v2 (fin_ Γ 0 0 none sh M')) (x_X4_readWord_L5 Γ sh v0 v1 v2 (fin_ Γ 0 0 none sh M')) (w_X4_readWord_L5 hC ) FU _ _ q14 ?_ : p_X4_readWord_L5 Γ sh v0 v1 v2 (fin_ Γ 0 0 none sh M') (0, 0, M))
  obtain ⟨x15, x16, M17⟩ := tq14
  replace h := u3_s h
  show AW Γ sh M17 0 0 68 [some (.inr (.inr v0)), none, none, some (.inr (.inl x15)), none, some (.inl x16), none] [] _
  refine aw_sub hC [some (.inr (.inr v0)), none, none, some (.inr (.inl x15)), none, some (.inl x16), none] ⟨rfl, ⟨rfl, ⟨rfl, trivial⟩⟩⟩ (Nat.le_of_ble_eq_true rfl) ?_
  exact w_X4_readWord_J68 hC h rfl
-- CoinCircle$Scanner.isDigit(B)Z
def fX4_isDigit (sh : AwS) (M : AwM) (v0 : Int) : Option Int :=
  (if v0 < 48 then some 0 else (if 57 < v0 then some 0 else some 1))
set_option maxRecDepth 100000 in
set_option maxHeartbeats 4000000 in
theorem mX4_isDigit {sh : AwS} {M : AwM} {v0 : Int} {r : Int} (h : fX4_isDigit sh M v0 = some r) : AMet yX4_isDigit cX4_isDigit 1 (some .boolean) 1 0 0 [.inl v0] sh M (some (.inl r)) sh M := by
  refine amet_of (by decide +kernel) (Nat.le_of_ble_eq_true rfl) (fun Γ hC => ?_)
  replace hC : AOK Γ RX4 cX4_isDigit 1 1 0 0 "isDigit" (some .boolean) := hC
  unfold fX4_isDigit at h
  refine aw_sub hC [some (.inl v0)] ⟨rfl, trivial⟩ (Nat.le_of_ble_eq_true rfl) ?_
  refine aw_iload_n (pc' := 1) (i := 0) hC dX4_isDigit_0 rfl rfl rfl ?_
  refine aw_bipush (pc' := 3) hC dX4_isDigit_1 rfl (by decide) ?_
  refine aw_icmp_lt (tgt := 16) (pc' := 6) hC dX4_isDigit_3 (by decide) rfl (fun c1 => ?_) (fun c1 => ?_)
  · replace h := it_p c1 h
    refine aw_iconst (pc' := 17) hC dX4_isDigit_16 rfl (by decide) ?_
    cases h
    exact aw_zret hC (Or.inl rfl) dX4_isDigit_17 (Nat.le_of_ble_eq_true rfl) (Nat.le_of_ble_eq_true rfl)
  · replace h := it_n c1 h
    refine aw_iload_n (pc' := 7) (i := 0) hC dX4_isDigit_6 rfl rfl rfl ?_
    refine aw_bipush (pc' := 9) hC dX4_isDigit_7 rfl (by decide) ?_
    refine aw_icmp_gt (tgt := 16) (pc' := 12) hC dX4_isDigit_9 (by decide) rfl (fun c2 => ?_) (fun c2 => ?_)
    · replace h := it_p c2 h
      refine aw_iconst (pc' := 17) hC dX4_isDigit_16 rfl (by decide) ?_
      cases h
      exact aw_zret hC (Or.inl rfl) dX4_isDigit_17 (Nat.le_of_ble_eq_true rfl) (Nat.le_of_ble_eq_true rfl)
    · replace h := it_n c2 h
      refine aw_iconst (pc' := 13) hC dX4_isDigit_12 rfl (by decide) ?_
      refine aw_goto (tgt := 17) hC dX4_isDigit_13 (by decide) ?_
      cases h
      exact aw_zret hC (Or.inr rfl) dX4_isDigit_17 (Nat.le_of_ble_eq_true rfl) (Nat.le_of_ble_eq_true rfl)
-- CoinCircle$Scanner.readNumber([BI)V
def fX4_readNumber_L2 (sh : AwS) (v0 : Int) (v1 : Int) (v2 : Int) (v3 : Int) (M : AwM) : Option ((Int × AwM) ⊕ (Int × AwM)) :=
  gd_ (kd_ sh v0 = (0, 4)) ((if (M v0 7) < v2 then gd_ ((kd_ sh v1).1 = 3 ∧ (0 : Int) ≤ (M v0 7) ∧ (M v0 7) < ((kd_ sh v1).2 : Int)) (pb (fX4_isDigit sh M (M v1 (M v0 7))) <| u1 fun (x5 : Int) => ((if x5 = 0 then some (.inr (v3, M)) else (if v3 < 4 then bd_ (up_ M v0 9 (w32 ((w32 ((w32 (10 * (M v0 9))) + (M v1 (M v0 7)))) - 48))) fun (M10 : AwM) => (bd_ (up_ M10 v0 7 (w32 ((M10 v0 7) + 1))) fun (M12 : AwM) => (some (.inl ((w32 (v3 + 1)), M12)))) else bd_ (up_ M v0 7 (w32 ((M v0 7) + 1))) fun (M8 : AwM) => (some (.inl ((w32 (v3 + 1)), M8))))))) else some (.inr (v3, M))))
def p_X4_readNumber_L2 (Γ : AwC) (sh : AwS) (v0 : Int) (v1 : Int) (v2 : Int) (Q : State → Prop) (s : Int × AwM) : Prop := AW Γ sh (s.2) 0 0 2 [some (.inr (.inr v0)), some (.inr (.inr v1)), some (.inl v2), some (.inl (s.1))] [] Q
def x_X4_readNumber_L2 (Γ : AwC) (sh : AwS) (v0 : Int) (v1 : Int) (v2 : Int) (Q : State → Prop) : (Int × AwM) → Prop := (fun (t : Int × AwM) => AW Γ sh (t.2) 0 0 64 [some (.inr (.inr v0)), none, none, some (.inl (t.1))] [] Q)
def fX4_readNumber_J64 (sh : AwS) (M : AwM) (v0 : Int) (v3 : Int) : Option (AwM) :=
  gd_ (kd_ sh v0 = (0, 4)) (bd_ (up_ M v0 8 2) fun (M18 : AwM) => ((if 4 < v3 then bd_ (up_ M18 v0 8 5) fun (M21 : AwM) => (bd_ (up_ M21 v0 11 (w32 ((M21 v0 10) + 4))) fun (M23 : AwM) => (some M23)) else some M18)))
def fX4_readNumber (sh : AwS) (M : AwM) (v0 : Int) (v1 : Int) (v2 : Int) : Option (AwM) :=
  pb (lp (u2 (fX4_readNumber_L2 sh v0 v1 v2)) FU (0, M)) (u2 (fun (x15 : Int) (M16 : AwM) => fX4_readNumber_J64 sh M16 v0 x15))
set_option maxRecDepth 100000 in
set_option maxHeartbeats 4000000 in
theorem w_X4_readNumber_L2 {Γ : AwC} (hC : AOK Γ RX4 cX4_readNumber 4 2 0 0 "readNumber" none) {sh : AwS} {v0 : Int} {v1 : Int} {v2 : Int} {Q : State → Prop} : ∀ s r, u2 (fX4_readNumber_L2 sh v0 v1 v2) s = some r → (∀ s', r = .inl s' → p_X4_readNumber_L2 Γ sh v0 v1 v2 Q s') → (∀ t, r = .inr t → x_X4_readNumber_L2 Γ sh v0 v1 v2 Q t) → p_X4_readNumber_L2 Γ sh v0 v1 v2 Q s := by
  intro s r h hL hX
  obtain ⟨v3, M⟩ := s
  replace h := u2_s h
  unfold fX4_readNumber_L2 at h
  show AW Γ sh M 0 0 2 [some (.inr (.inr v0)), some (.inr (.inr v1)), some (.inl v2), some (.inl v3)] [] Q
  refine aw_aload_n (pc' := 3) (i := 0) hC dX4_readNumber_2 rfl rfl rfl ?_
  obtain ⟨g1, h⟩ := gd_s h
  refine aw_getfield (pc' := 6) (v := (.inl (M v0 7))) hC dX4_readNumber_3 rfl fl_X4_53 g1 rfl ?_
  refine aw_iload_n (pc' := 7) (i := 2) hC dX4_readNumber_6 rfl rfl rfl ?_
  refine aw_icmp_ge (tgt := 64) (pc' := 10) hC dX4_readNumber_7 (by decide) rfl (fun c2 => ?_) (fun c2 => ?_)
  · replace h := it_n c2 h
    refine aw_sub hC [some (.inr (.inr v0)), none, none, some (.inl v3)] ⟨rfl, ⟨rfl, trivial⟩⟩ (Nat.le_of_ble_eq_true rfl) ?_
    cases h
    exact hX _ rfl
  · replace h := it_p c2 h
    refine aw_aload_n (pc' := 11) (i := 1) hC dX4_readNumber_10 rfl rfl rfl ?_
    refine aw_aload_n (pc' := 12) (i := 0) hC dX4_readNumber_11 rfl rfl rfl ?_
    refine aw_getfield (pc' := 15) (v := (.inl (M v0 7))) hC dX4_readNumber_12 rfl fl_X4_53 g1 rfl ?_
    obtain ⟨g3, h⟩ := gd_s h
    refine aw_baload (pc' := 16) hC dX4_readNumber_15 rfl g3 ?_
    obtain ⟨x5, q4, h⟩ := pb_s h
    replace h := u1_s h
    refine aw_cS (pc' := 19) (k2 := 0) (n2 := 0) (st := []) (stN := [.inl x5]) hC [.inl (M v1 (M v0 7))] (mX4_isDigit q4) lk_X4_88 dX4_readNumber_16 rfl rfl (Nat.le_of_ble_eq_true rfl) (Nat.le_of_ble_eq_true rfl) (Nat.le_of_ble_eq_true rfl) rfl (Nat.le_of_ble_eq_true rfl) rfl rfl rfl ?_
    refine aw_if_eq (tgt := 64) (pc' := 22) hC dX4_readNumber_19 (by decide) rfl (fun c6 => ?_) (fun c6 => ?_)
    · replace h := it_p c6 h
      refine aw_sub hC [some (.inr (.inr v0)), none, none, some (.inl v3)] ⟨rfl, ⟨rfl, trivial⟩⟩ (Nat.le_of_ble_eq_true rfl) ?_
      cases h
      exact hX _ rfl
    · replace h := it_n c6 h
      refine aw_iload_n (pc' := 23) (i := 3) hC dX4_readNumber_22 rfl rfl rfl ?_
      refine aw_iconst (pc' := 24) hC dX4_readNumber_23 rfl (by decide) ?_
      refine aw_icmp_ge (tgt := 48) (pc' := 27) hC dX4_readNumber_24 (by decide) rfl (fun c7 => ?_) (fun c7 => ?_)
      · replace h := it_n c7 h
        refine aw_iinc (pc' := 51) (ls' := [some (.inr (.inr v0)), some (.inr (.inr v1)), some (.inl v2), some (.inl (w32 (v3 + 1)))]) hC dX4_readNumber_48 rfl rfl rfl rfl ?_
        refine aw_aload_n (pc' := 52) (i := 0) hC dX4_readNumber_51 rfl rfl rfl ?_
        refine aw_dup (pc' := 53) hC dX4_readNumber_52 rfl rfl ?_
        refine aw_getfield (pc' := 56) (v := (.inl (M v0 7))) hC dX4_readNumber_53 rfl fl_X4_53 g1 rfl ?_
        refine aw_iconst (pc' := 57) hC dX4_readNumber_56 rfl (by decide) ?_
        refine aw_iadd (pc' := 58) hC dX4_readNumber_57 rfl  ?_
        obtain ⟨M8, e9, h⟩ := bd_s h
        refine aw_pf (pc' := 61) hC dX4_readNumber_58 rfl fp_X4_53 g1 rfl trivial e9 ?_
        refine aw_goto (tgt := 2) hC dX4_readNumber_61 (by decide) ?_
        refine aw_sub hC [some (.inr (.inr v0)), some (.inr (.inr v1)), some (.inl v2), some (.inl (w32 (v3 + 1)))] ⟨rfl, ⟨rfl, ⟨rfl, ⟨rfl, trivial⟩⟩⟩⟩ (Nat.le_of_ble_eq_true rfl) ?_
        cases h
        exact hL _ rfl
      · replace h := it_p c7 h
        refine aw_aload_n (pc' := 28) (i := 0) hC dX4_readNumber_27 rfl rfl rfl ?_
        refine aw_bipush (pc' := 30) hC dX4_readNumber_28 rfl (by decide) ?_
        refine aw_aload_n (pc' := 31) (i := 0) hC dX4_readNumber_30 rfl rfl rfl ?_
        refine aw_getfield (pc' := 34) (v := (.inl (M v0 9))) hC dX4_readNumber_31 rfl fl_X4_63 g1 rfl ?_
        refine aw_imul (pc' := 35) hC dX4_readNumber_34 rfl  ?_
        refine aw_aload_n (pc' := 36) (i := 1) hC dX4_readNumber_35 rfl rfl rfl ?_
        refine aw_aload_n (pc' := 37) (i := 0) hC dX4_readNumber_36 rfl rfl rfl ?_
        refine aw_getfield (pc' := 40) (v := (.inl (M v0 7))) hC dX4_readNumber_37 rfl fl_X4_53 g1 rfl ?_
        refine aw_baload (pc' := 41) hC dX4_readNumber_40 rfl g3 ?_
        refine aw_iadd (pc' := 42) hC dX4_readNumber_41 rfl  ?_
        refine aw_bipush (pc' := 44) hC dX4_readNumber_42 rfl (by decide) ?_
        refine aw_isub (pc' := 45) hC dX4_readNumber_44 rfl  ?_
        obtain ⟨M10, e11, h⟩ := bd_s h
        refine aw_pf (pc' := 48) hC dX4_readNumber_45 rfl fp_X4_63 g1 rfl trivial e11 ?_
        refine aw_iinc (pc' := 51) (ls' := [some (.inr (.inr v0)), some (.inr (.inr v1)), some (.inl v2), some (.inl (w32 (v3 + 1)))]) hC dX4_readNumber_48 rfl rfl rfl rfl ?_
        refine aw_aload_n (pc' := 52) (i := 0) hC dX4_readNumber_51 rfl rfl rfl ?_
        refine aw_dup (pc' := 53) hC dX4_readNumber_52 rfl rfl ?_
        refine aw_getfield (pc' := 56) (v := (.inl (M10 v0 7))) hC dX4_readNumber_53 rfl fl_X4_53 g1 rfl ?_
        refine aw_iconst (pc' := 57) hC dX4_readNumber_56 rfl (by decide) ?_
        refine aw_iadd (pc' := 58) hC dX4_readNumber_57 rfl  ?_
        obtain ⟨M12, e13, h⟩ := bd_s h
        refine aw_pf (pc' := 61) hC dX4_readNumber_58 rfl fp_X4_53 g1 rfl trivial e13 ?_
        refine aw_goto (tgt := 2) hC dX4_readNumber_61 (by decide) ?_
        refine aw_sub hC [some (.inr (.inr v0)), some (.inr (.inr v1)), some (.inl v2), some (.inl (w32 (v3 + 1)))] ⟨rfl, ⟨rfl, ⟨rfl, ⟨rfl, trivial⟩⟩⟩⟩ (Nat.le_of_ble_eq_true rfl) ?_
        cases h
        exact hL _ rfl
set_option maxRecDepth 100000 in
set_option maxHeartbeats 4000000 in
theorem w_X4_readNumber_J64 {Γ : AwC} (hC : AOK Γ RX4 cX4_readNumber 4 2 0 0 "readNumber" none) {sh : AwS} {M : AwM} {v0 : Int} {v3 : Int} {M' : AwM} (h : fX4_readNumber_J64 sh M v0 v3 = some M') {Q : State → Prop} (hQ : Q = (fin_ Γ 0 0 none sh M')) : AW Γ sh M 0 0 64 [some (.inr (.inr v0)), none, none, some (.inl v3)] [] Q := by
  unfold fX4_readNumber_J64 at h
  refine aw_aload_n (pc' := 65) (i := 0) hC dX4_readNumber_64 rfl rfl rfl ?_
  refine aw_iconst (pc' := 66) hC dX4_readNumber_65 rfl (by decide) ?_
  obtain ⟨g17, h⟩ := gd_s h
  obtain ⟨M18, e19, h⟩ := bd_s h
  refine aw_pf (pc' := 69) hC dX4_readNumber_66 rfl fp_X4_56 g17 rfl trivial e19 ?_
  refine aw_iload_n (pc' := 70) (i := 3) hC dX4_readNumber_69 rfl rfl rfl ?_
  refine aw_iconst (pc' := 71) hC dX4_readNumber_70 rfl (by decide) ?_
  refine aw_icmp_le (tgt := 89) (pc' := 74) hC dX4_readNumber_71 (by decide) rfl (fun c20 => ?_) (fun c20 => ?_)
  · replace h := it_n c20 h
    cases h
    subst hQ
    exact aw_vret hC dX4_readNumber_89 (Nat.le_of_ble_eq_true rfl) (Nat.le_of_ble_eq_true rfl)
  · replace h := it_p c20 h
    refine aw_aload_n (pc' := 75) (i := 0) hC dX4_readNumber_74 rfl rfl rfl ?_
    refine aw_iconst (pc' := 76) hC dX4_readNumber_75 rfl (by decide) ?_
    obtain ⟨M21, e22, h⟩ := bd_s h
    refine aw_pf (pc' := 79) hC dX4_readNumber_76 rfl fp_X4_56 g17 rfl trivial e22 ?_
    refine aw_aload_n (pc' := 80) (i := 0) hC dX4_readNumber_79 rfl rfl rfl ?_
    refine aw_aload_n (pc' := 81) (i := 0) hC dX4_readNumber_80 rfl rfl rfl ?_
    refine aw_getfield (pc' := 84) (v := (.inl (M21 v0 10))) hC dX4_readNumber_81 rfl fl_X4_66 g17 rfl ?_
    refine aw_iconst (pc' := 85) hC dX4_readNumber_84 rfl (by decide) ?_
    refine aw_iadd (pc' := 86) hC dX4_readNumber_85 rfl  ?_
    obtain ⟨M23, e24, h⟩ := bd_s h
    refine aw_pf (pc' := 89) hC dX4_readNumber_86 rfl fp_X4_69 g17 rfl trivial e24 ?_
    cases h
    subst hQ
    exact aw_vret hC dX4_readNumber_89 (Nat.le_of_ble_eq_true rfl) (Nat.le_of_ble_eq_true rfl)
set_option maxRecDepth 100000 in
set_option maxHeartbeats 4000000 in
theorem mX4_readNumber {sh : AwS} {M : AwM} {v0 : Int} {v1 : Int} {v2 : Int} {M' : AwM} (h : fX4_readNumber sh M v0 v1 v2 = some M') : AMet yX4_readNumber cX4_readNumber 4 none 2 0 0 [.inr (.inr v0), .inr (.inr v1), .inl v2] sh M none sh M' := by
  refine amet_of (by decide +kernel) (Nat.le_of_ble_eq_true rfl) (fun Γ hC => ?_)
  replace hC : AOK Γ RX4 cX4_readNumber 4 2 0 0 "readNumber" none := hC
  unfold fX4_readNumber at h
  refine aw_sub hC [some (.inr (.inr v0)), some (.inr (.inr v1)), some (.inl v2), none] ⟨rfl, ⟨rfl, ⟨rfl, trivial⟩⟩⟩ (Nat.le_of_ble_eq_true rfl) ?_
  refine aw_iconst (pc' := 1) hC dX4_readNumber_0 rfl (by decide) ?_
  refine aw_istore_n (pc' := 2) (i := 3) (ls' := [some (.inr (.inr v0)), some (.inr (.inr v1)), some (.inl v2), some (.inl 0)]) hC dX4_readNumber_1 rfl rfl (Nat.le_of_ble_eq_true rfl) rfl rfl ?_
  obtain ⟨tq14, q14, h⟩ := pb_s h
  refine aw_sub hC [some (.inr (.inr v0)), some (.inr (.inr v1)), some (.inl v2), some (.inl 0)] ⟨rfl, ⟨rfl, ⟨rfl, ⟨rfl, trivial⟩⟩⟩⟩ (Nat.le_of_ble_eq_true rfl) ?_
  refine (lp_aw (p_X4_readNumber_L2 Γ sh v0 v1 v2 (fin_ Γ 0 0 none sh M')) (x_X4_readNumber_L2 Γ sh v0 v1 v2 (fin_ Γ 0 0 none sh M')) (w_X4_readNumber_L2 hC ) FU _ _ q14 ?_ : p_X4_readNumber_L2 Γ sh v0 v1 v2 (fin_ Γ 0 0 none sh M') (0, M))
  obtain ⟨x15, M16⟩ := tq14
  replace h := u2_s h
  show AW Γ sh M16 0 0 64 [some (.inr (.inr v0)), none, none, some (.inl x15)] [] _
  refine aw_sub hC [some (.inr (.inr v0)), none, none, some (.inl x15)] ⟨rfl, ⟨rfl, trivial⟩⟩ (Nat.le_of_ble_eq_true rfl) ?_
  exact w_X4_readNumber_J64 hC h rfl
-- java/lang/StringLatin1.canEncode(I)Z
def fJ1_canEncode_9a6ad (sh : AwS) (M : AwM) (v0 : Int) : Option Int :=
  (if v0 < 0 then some 0 else (if 255 < v0 then some 0 else some 1))
set_option maxRecDepth 100000 in
set_option maxHeartbeats 4000000 in
theorem mJ1_canEncode_9a6ad {sh : AwS} {M : AwM} {v0 : Int} {r : Int} (h : fJ1_canEncode_9a6ad sh M v0 = some r) : AMet yJ1_canEncode_9a6ad cJ1_canEncode_9a6ad 1 (some .boolean) 1 0 0 [.inl v0] sh M (some (.inl r)) sh M := by
  refine amet_of (by decide +kernel) (Nat.le_of_ble_eq_true rfl) (fun Γ hC => ?_)
  replace hC : AOK Γ RJ1 cJ1_canEncode_9a6ad 1 1 0 0 "canEncode" (some .boolean) := hC
  unfold fJ1_canEncode_9a6ad at h
  refine aw_sub hC [some (.inl v0)] ⟨rfl, trivial⟩ (Nat.le_of_ble_eq_true rfl) ?_
  refine aw_iload_n (pc' := 1) (i := 0) hC dJ1_canEncode_9a6ad_0 rfl rfl rfl ?_
  refine aw_if_lt (tgt := 15) (pc' := 4) hC dJ1_canEncode_9a6ad_1 (by decide) rfl (fun c1 => ?_) (fun c1 => ?_)
  · replace h := it_p c1 h
    refine aw_iconst (pc' := 16) hC dJ1_canEncode_9a6ad_15 rfl (by decide) ?_
    cases h
    exact aw_zret hC (Or.inl rfl) dJ1_canEncode_9a6ad_16 (Nat.le_of_ble_eq_true rfl) (Nat.le_of_ble_eq_true rfl)
  · replace h := it_n c1 h
    refine aw_iload_n (pc' := 5) (i := 0) hC dJ1_canEncode_9a6ad_4 rfl rfl rfl ?_
    refine aw_sipush (pc' := 8) hC dJ1_canEncode_9a6ad_5 rfl (by decide) ?_
    refine aw_icmp_gt (tgt := 15) (pc' := 11) hC dJ1_canEncode_9a6ad_8 (by decide) rfl (fun c2 => ?_) (fun c2 => ?_)
    · replace h := it_p c2 h
      refine aw_iconst (pc' := 16) hC dJ1_canEncode_9a6ad_15 rfl (by decide) ?_
      cases h
      exact aw_zret hC (Or.inl rfl) dJ1_canEncode_9a6ad_16 (Nat.le_of_ble_eq_true rfl) (Nat.le_of_ble_eq_true rfl)
    · replace h := it_n c2 h
      refine aw_iconst (pc' := 12) hC dJ1_canEncode_9a6ad_11 rfl (by decide) ?_
      refine aw_goto (tgt := 16) hC dJ1_canEncode_9a6ad_12 (by decide) ?_
      cases h
      exact aw_zret hC (Or.inr rfl) dJ1_canEncode_9a6ad_16 (Nat.le_of_ble_eq_true rfl) (Nat.le_of_ble_eq_true rfl)
-- java/lang/StringLatin1.indexOfChar([BIII)I
def fJ1_indexOfChar_4cfef_L7 (sh : AwS) (M : AwM) (v0 : Int) (v3 : Int) (v4 : Int) (v5 : Int) : Option ((Int) ⊕ ((Unit) ⊕ (Int))) :=
  (if v5 < v3 then gd_ (v0 = (-4) ∨ v0 = (-5)) (gd_ ((0 : Int) ≤ v5 ∧ v5 < sn_ v0) ((if (sb_v v0 v5) = v4 then some (.inr (.inr v5)) else some (.inl (w32 (v5 + 1)))))) else some (.inr (.inl ())))
def p_J1_indexOfChar_4cfef_L7 (Γ : AwC) (sh : AwS) (M : AwM) (v0 : Int) (v3 : Int) (v4 : Int) (Q : State → Prop) (s : Int) : Prop := AW Γ sh M 0 0 7 [some (.inr (.inr v0)), none, none, some (.inl v3), some (.inl v4), some (.inl (s))] [] Q
def x_J1_indexOfChar_4cfef_L7 (Γ : AwC) (sh : AwS) (M : AwM) (v0 : Int) (v3 : Int) (v4 : Int) (Q : State → Prop) : ((Unit) ⊕ (Int)) → Prop := (Sum.elim (fun (t : Unit) => AW Γ sh M 0 0 31 [none, none, none, none, none, none] [] Q) (fun (t : Int) => AW Γ sh M 0 0 22 [none, none, none, none, none, some (.inl (t))] [] Q))
def fJ1_indexOfChar_4cfef (sh : AwS) (M : AwM) (v0 : Int) (v1 : Int) (v2 : Int) (v3 : Int) : Option Int :=
  pb (lp (u1 (fJ1_indexOfChar_4cfef_L7 sh M v0 v3 (w8_ v1))) FU v2) (Sum.elim (u0 (some (-1))) (u1 (fun (tq5 : Int) => some tq5)))
set_option maxRecDepth 100000 in
set_option maxHeartbeats 4000000 in
theorem w_J1_indexOfChar_4cfef_L7 {Γ : AwC} (hC : AOK Γ RJ1 cJ1_indexOfChar_4cfef 6 1 0 0 "indexOfChar" (some .int)) {sh : AwS} {M : AwM} {v0 : Int} {v3 : Int} {v4 : Int} {Q : State → Prop} : ∀ s r, u1 (fJ1_indexOfChar_4cfef_L7 sh M v0 v3 v4) s = some r → (∀ s', r = .inl s' → p_J1_indexOfChar_4cfef_L7 Γ sh M v0 v3 v4 Q s') → (∀ t, r = .inr t → x_J1_indexOfChar_4cfef_L7 Γ sh M v0 v3 v4 Q t) → p_J1_indexOfChar_4cfef_L7 Γ sh M v0 v3 v4 Q s := by
  intro v5 r h hL hX
  replace h := u1_s h
  unfold fJ1_indexOfChar_4cfef_L7 at h
  show AW Γ sh M 0 0 7 [some (.inr (.inr v0)), none, none, some (.inl v3), some (.inl v4), some (.inl v5)] [] Q
  refine aw_iload (pc' := 9) hC dJ1_indexOfChar_4cfef_7 rfl rfl ?_
  refine aw_iload_n (pc' := 10) (i := 3) hC dJ1_indexOfChar_4cfef_9 rfl rfl rfl ?_
  refine aw_icmp_ge (tgt := 31) (pc' := 13) hC dJ1_indexOfChar_4cfef_10 (by decide) rfl (fun c1 => ?_) (fun c1 => ?_)
  · replace h := it_n c1 h
    refine aw_sub hC [none, none, none, none, none, none] trivial (Nat.le_of_ble_eq_true rfl) ?_
    cases h
    exact hX _ rfl
  · replace h := it_p c1 h
    refine aw_aload_n (pc' := 14) (i := 0) hC dJ1_indexOfChar_4cfef_13 rfl rfl rfl ?_
    refine aw_iload (pc' := 16) hC dJ1_indexOfChar_4cfef_14 rfl rfl ?_
    obtain ⟨g2, h⟩ := gd_s h
    obtain ⟨g3, h⟩ := gd_s h
    refine aw_balS (pc' := 17) hC g2 g3 dJ1_indexOfChar_4cfef_16 rfl ?_
    refine aw_iload (pc' := 19) hC dJ1_indexOfChar_4cfef_17 rfl rfl ?_
    refine aw_icmp_ne (tgt := 25) (pc' := 22) hC dJ1_indexOfChar_4cfef_19 (by decide) rfl (fun c4 => ?_) (fun c4 => ?_)
    · replace h := it_n c4 h
      refine aw_iinc (pc' := 28) (ls' := [some (.inr (.inr v0)), none, none, some (.inl v3), some (.inl v4), some (.inl (w32 (v5 + 1)))]) hC dJ1_indexOfChar_4cfef_25 rfl rfl rfl rfl ?_
      refine aw_goto (tgt := 7) hC dJ1_indexOfChar_4cfef_28 (by decide) ?_
      refine aw_sub hC [some (.inr (.inr v0)), none, none, some (.inl v3), some (.inl v4), some (.inl (w32 (v5 + 1)))] ⟨rfl, ⟨rfl, ⟨rfl, ⟨rfl, trivial⟩⟩⟩⟩ (Nat.le_of_ble_eq_true rfl) ?_
      cases h
      exact hL _ rfl
    · replace h := it_p c4 h
      refine aw_sub hC [none, none, none, none, none, some (.inl v5)] ⟨rfl, trivial⟩ (Nat.le_of_ble_eq_true rfl) ?_
      cases h
      exact hX _ rfl
set_option maxRecDepth 100000 in
set_option maxHeartbeats 4000000 in
theorem mJ1_indexOfChar_4cfef {sh : AwS} {M : AwM} {v0 : Int} {v1 : Int} {v2 : Int} {v3 : Int} {r : Int} (h : fJ1_indexOfChar_4cfef sh M v0 v1 v2 v3 = some r) : AMet yJ1_indexOfChar_4cfef cJ1_indexOfChar_4cfef 6 (some .int) 1 0 0 [.inr (.inr v0), .inl v1, .inl v2, .inl v3] sh M (some (.inl r)) sh M := by
  refine amet_of (by decide +kernel) (Nat.le_of_ble_eq_true rfl) (fun Γ hC => ?_)
  replace hC : AOK Γ RJ1 cJ1_indexOfChar_4cfef 6 1 0 0 "indexOfChar" (some .int) := hC
  unfold fJ1_indexOfChar_4cfef at h
  refine aw_sub hC [some (.inr (.inr v0)), some (.inl v1), some (.inl v2), some (.inl v3), none, none] ⟨rfl, ⟨rfl, ⟨rfl, ⟨rfl, trivial⟩⟩⟩⟩ (Nat.le_of_ble_eq_true rfl) ?_
  refine aw_iload_n (pc' := 1) (i := 1) hC dJ1_indexOfChar_4cfef_0 rfl rfl rfl ?_
  refine aw_i2b (pc' := 2) hC dJ1_indexOfChar_4cfef_1 rfl  ?_
  refine aw_istore (pc' := 4) (ls' := [some (.inr (.inr v0)), some (.inl v1), some (.inl v2), some (.inl v3), some (.inl (w8_ v1)), none]) hC dJ1_indexOfChar_4cfef_2 rfl (Nat.le_of_ble_eq_true rfl) rfl rfl ?_
  refine aw_iload_n (pc' := 5) (i := 2) hC dJ1_indexOfChar_4cfef_4 rfl rfl rfl ?_
  refine aw_istore (pc' := 7) (ls' := [some (.inr (.inr v0)), some (.inl v1), some (.inl v2), some (.inl v3), some (.inl (w8_ v1)), some (.inl v2)]) hC dJ1_indexOfChar_4cfef_5 rfl (Nat.le_of_ble_eq_true rfl) rfl rfl ?_
  obtain ⟨tq5, q5, h⟩ := pb_s h
  refine aw_sub hC [some (.inr (.inr v0)), none, none, some (.inl v3), some (.inl (w8_ v1)), some (.inl v2)] ⟨rfl, ⟨rfl, ⟨rfl, ⟨rfl, trivial⟩⟩⟩⟩ (Nat.le_of_ble_eq_true rfl) ?_
  refine (lp_aw (p_J1_indexOfChar_4cfef_L7 Γ sh M v0 v3 (w8_ v1) (fin_ Γ 0 0 (some (.inl r)) sh M)) (x_J1_indexOfChar_4cfef_L7 Γ sh M v0 v3 (w8_ v1) (fin_ Γ 0 0 (some (.inl r)) sh M)) (w_J1_indexOfChar_4cfef_L7 hC ) FU _ _ q5 ?_ : p_J1_indexOfChar_4cfef_L7 Γ sh M v0 v3 (w8_ v1) (fin_ Γ 0 0 (some (.inl r)) sh M) v2)
  rcases tq5 with tq5 | tq5
  · replace h := se_l h
    cases tq5
    replace h := u0_s h
    show AW Γ sh M 0 0 31 [none, none, none, none, none, none] [] _
    refine aw_iconst (pc' := 32) hC dJ1_indexOfChar_4cfef_31 rfl (by decide) ?_
    cases h
    exact aw_iret hC dJ1_indexOfChar_4cfef_32 (Nat.le_of_ble_eq_true rfl) (Nat.le_of_ble_eq_true rfl)
  · replace h := se_r h
    replace h := u1_s h
    show AW Γ sh M 0 0 22 [none, none, none, none, none, some (.inl tq5)] [] _
    refine aw_iload (pc' := 24) hC dJ1_indexOfChar_4cfef_22 rfl rfl ?_
    cases h
    exact aw_iret hC dJ1_indexOfChar_4cfef_24 (Nat.le_of_ble_eq_true rfl) (Nat.le_of_ble_eq_true rfl)
-- java/lang/StringLatin1.indexOf([BIII)I
def fJ1_indexOf_4cfef (sh : AwS) (M : AwM) (v0 : Int) (v1 : Int) (v2 : Int) (v3 : Int) : Option Int :=
  pb (fJ1_canEncode_9a6ad sh M v1) <| u1 fun (x2 : Int) => ((if x2 = 0 then some (-1) else pb (fJ9_max_7cf53 sh M v2 0) <| u1 fun (x5 : Int) => (gd_ (v0 = (-4) ∨ v0 = (-5)) (pb (fJ9_min_7cf53 sh M v3 (sn_ v0)) <| u1 fun (x8 : Int) => ((if x5 < x8 then pb (fJ1_indexOfChar_4cfef sh M v0 v1 x5 x8) <| u1 fun (x11 : Int) => (some x11) else some (-1)))))))
set_option maxRecDepth 100000 in
set_option maxHeartbeats 4000000 in
theorem mJ1_indexOf_4cfef {sh : AwS} {M : AwM} {v0 : Int} {v1 : Int} {v2 : Int} {v3 : Int} {r : Int} (h : fJ1_indexOf_4cfef sh M v0 v1 v2 v3 = some r) : AMet yJ1_indexOf_4cfef cJ1_indexOf_4cfef 4 (some .int) 2 0 0 [.inr (.inr v0), .inl v1, .inl v2, .inl v3] sh M (some (.inl r)) sh M := by
  refine amet_of (by decide +kernel) (Nat.le_of_ble_eq_true rfl) (fun Γ hC => ?_)
  replace hC : AOK Γ RJ1 cJ1_indexOf_4cfef 4 2 0 0 "indexOf" (some .int) := hC
  unfold fJ1_indexOf_4cfef at h
  refine aw_sub hC [some (.inr (.inr v0)), some (.inl v1), some (.inl v2), some (.inl v3)] ⟨rfl, ⟨rfl, ⟨rfl, ⟨rfl, trivial⟩⟩⟩⟩ (Nat.le_of_ble_eq_true rfl) ?_
  refine aw_iload_n (pc' := 1) (i := 1) hC dJ1_indexOf_4cfef_0 rfl rfl rfl ?_
  obtain ⟨x2, q1, h⟩ := pb_s h
  replace h := u1_s h
  refine aw_cS (pc' := 4) (k2 := 0) (n2 := 0) (st := []) (stN := [.inl x2]) hC [.inl v1] (mJ1_canEncode_9a6ad q1) lk_J1_88 dJ1_indexOf_4cfef_1 rfl rfl (Nat.le_of_ble_eq_true rfl) (Nat.le_of_ble_eq_true rfl) (Nat.le_of_ble_eq_true rfl) rfl (Nat.le_of_ble_eq_true rfl) rfl rfl rfl ?_
  refine aw_if_ne (tgt := 9) (pc' := 7) hC dJ1_indexOf_4cfef_4 (by decide) rfl (fun c3 => ?_) (fun c3 => ?_)
  · replace h := it_n c3 h
    refine aw_iload_n (pc' := 10) (i := 2) hC dJ1_indexOf_4cfef_9 rfl rfl rfl ?_
    refine aw_iconst (pc' := 11) hC dJ1_indexOf_4cfef_10 rfl (by decide) ?_
    obtain ⟨x5, q4, h⟩ := pb_s h
    replace h := u1_s h
    refine aw_cS (pc' := 14) (k2 := 0) (n2 := 0) (st := []) (stN := [.inl x5]) hC [.inl v2, .inl 0] (mJ9_max_7cf53 q4) lk_J1_92 dJ1_indexOf_4cfef_11 rfl rfl (Nat.le_of_ble_eq_true rfl) (Nat.le_of_ble_eq_true rfl) (Nat.le_of_ble_eq_true rfl) rfl (Nat.le_of_ble_eq_true rfl) rfl rfl rfl ?_
    refine aw_istore_n (pc' := 15) (i := 2) (ls' := [some (.inr (.inr v0)), some (.inl v1), some (.inl x5), some (.inl v3)]) hC dJ1_indexOf_4cfef_14 rfl rfl (Nat.le_of_ble_eq_true rfl) rfl rfl ?_
    refine aw_iload_n (pc' := 16) (i := 3) hC dJ1_indexOf_4cfef_15 rfl rfl rfl ?_
    refine aw_aload_n (pc' := 17) (i := 0) hC dJ1_indexOf_4cfef_16 rfl rfl rfl ?_
    obtain ⟨g6, h⟩ := gd_s h
    refine aw_alenS (v := (sn_ v0)) (pc' := 18) hC g6 rfl dJ1_indexOf_4cfef_17 rfl ?_
    obtain ⟨x8, q7, h⟩ := pb_s h
    replace h := u1_s h
    refine aw_cS (pc' := 21) (k2 := 0) (n2 := 0) (st := []) (stN := [.inl x8]) hC [.inl v3, .inl (sn_ v0)] (mJ9_min_7cf53 q7) lk_J1_38 dJ1_indexOf_4cfef_18 rfl rfl (Nat.le_of_ble_eq_true rfl) (Nat.le_of_ble_eq_true rfl) (Nat.le_of_ble_eq_true rfl) rfl (Nat.le_of_ble_eq_true rfl) rfl rfl rfl ?_
    refine aw_istore_n (pc' := 22) (i := 3) (ls' := [some (.inr (.inr v0)), some (.inl v1), some (.inl x5), some (.inl x8)]) hC dJ1_indexOf_4cfef_21 rfl rfl (Nat.le_of_ble_eq_true rfl) rfl rfl ?_
    refine aw_iload_n (pc' := 23) (i := 2) hC dJ1_indexOf_4cfef_22 rfl rfl rfl ?_
    refine aw_iload_n (pc' := 24) (i := 3) hC dJ1_indexOf_4cfef_23 rfl rfl rfl ?_
    refine aw_icmp_lt (tgt := 29) (pc' := 27) hC dJ1_indexOf_4cfef_24 (by decide) rfl (fun c9 => ?_) (fun c9 => ?_)
    · replace h := it_p c9 h
      refine aw_aload_n (pc' := 30) (i := 0) hC dJ1_indexOf_4cfef_29 rfl rfl rfl ?_
      refine aw_iload_n (pc' := 31) (i := 1) hC dJ1_indexOf_4cfef_30 rfl rfl rfl ?_
      refine aw_iload_n (pc' := 32) (i := 2) hC dJ1_indexOf_4cfef_31 rfl rfl rfl ?_
      refine aw_iload_n (pc' := 33) (i := 3) hC dJ1_indexOf_4cfef_32 rfl rfl rfl ?_
      obtain ⟨x11, q10, h⟩ := pb_s h
      replace h := u1_s h
      refine aw_cS (pc' := 36) (k2 := 0) (n2 := 0) (st := []) (stN := [.inl x11]) hC [.inr (.inr v0), .inl v1, .inl x5, .inl x8] (mJ1_indexOfChar_4cfef q10) lk_J1_95 dJ1_indexOf_4cfef_33 rfl rfl (Nat.le_of_ble_eq_true rfl) (Nat.le_of_ble_eq_true rfl) (Nat.le_of_ble_eq_true rfl) rfl (Nat.le_of_ble_eq_true rfl) rfl rfl rfl ?_
      cases h
      exact aw_iret hC dJ1_indexOf_4cfef_36 (Nat.le_of_ble_eq_true rfl) (Nat.le_of_ble_eq_true rfl)
    · replace h := it_n c9 h
      refine aw_iconst (pc' := 28) hC dJ1_indexOf_4cfef_27 rfl (by decide) ?_
      cases h
      exact aw_iret hC dJ1_indexOf_4cfef_28 (Nat.le_of_ble_eq_true rfl) (Nat.le_of_ble_eq_true rfl)
  · replace h := it_p c3 h
    refine aw_iconst (pc' := 8) hC dJ1_indexOf_4cfef_7 rfl (by decide) ?_
    cases h
    exact aw_iret hC dJ1_indexOf_4cfef_8 (Nat.le_of_ble_eq_true rfl) (Nat.le_of_ble_eq_true rfl)
-- java/lang/String.indexOf(II)I
def fJ0_indexOf_7cf53 (sh : AwS) (M : AwM) (v0 : Int) (v1 : Int) (v2 : Int) : Option Int :=
  gd_ (v0 = (-2) ∨ v0 = (-3)) (pb (fJ0_isLatin1_aae02 sh M v0) <| u1 fun (x3 : Int) => ((if x3 = 0 then pb (fJ0_length_8abf5 sh M v0) <| u1 fun (x6 : Int) => (none) else pb (fJ0_length_8abf5 sh M v0) <| u1 fun (x8 : Int) => (pb (fJ1_indexOf_4cfef sh M (v0 - 2) v1 v2 x8) <| u1 fun (x10 : Int) => (some x10)))))
set_option maxRecDepth 100000 in
set_option maxHeartbeats 4000000 in
theorem mJ0_indexOf_7cf53 {sh : AwS} {M : AwM} {v0 : Int} {v1 : Int} {v2 : Int} {r : Int} (h : fJ0_indexOf_7cf53 sh M v0 v1 v2 = some r) : AMet yJ0_indexOf_7cf53 cJ0_indexOf_7cf53 3 (some .int) 6 0 0 [.inr (.inr v0), .inl v1, .inl v2] sh M (some (.inl r)) sh M := by
  refine amet_of (by decide +kernel) (Nat.le_of_ble_eq_true rfl) (fun Γ hC => ?_)
  replace hC : AOK Γ RJ0 cJ0_indexOf_7cf53 3 6 0 0 "indexOf" (some .int) := hC
  unfold fJ0_indexOf_7cf53 at h
  refine aw_sub hC [some (.inr (.inr v0)), some (.inl v1), some (.inl v2)] ⟨rfl, ⟨rfl, ⟨rfl, trivial⟩⟩⟩ (Nat.le_of_ble_eq_true rfl) ?_
  refine aw_aload_n (pc' := 1) (i := 0) hC dJ0_indexOf_7cf53_0 rfl rfl rfl ?_
  obtain ⟨g2, h⟩ := gd_s h
  obtain ⟨x3, q1, h⟩ := pb_s h
  replace h := u1_s h
  refine aw_cStr (pc' := 4) (k2 := 0) (n2 := 0) (st := []) (stN := [.inl x3]) hC [] (mJ0_isLatin1_aae02 q1) lk_J0_492 g2 dJ0_indexOf_7cf53_1 rfl rfl (Nat.le_of_ble_eq_true rfl) (Nat.le_of_ble_eq_true rfl) (Nat.le_of_ble_eq_true rfl) rfl (Nat.le_of_ble_eq_true rfl) rfl rfl rfl ?_
  refine aw_if_eq (tgt := 23) (pc' := 7) hC dJ0_indexOf_7cf53_4 (by decide) rfl (fun c4 => ?_) (fun c4 => ?_)
  · replace h := it_p c4 h
    refine aw_aload_n (pc' := 24) (i := 0) hC dJ0_indexOf_7cf53_23 rfl rfl rfl ?_
    refine aw_gsV (v := (v0 - 2)) (pc' := 27) hC lf_J0_9 g2 rfl dJ0_indexOf_7cf53_24 rfl ?_
    refine aw_iload_n (pc' := 28) (i := 1) hC dJ0_indexOf_7cf53_27 rfl rfl rfl ?_
    refine aw_iload_n (pc' := 29) (i := 2) hC dJ0_indexOf_7cf53_28 rfl rfl rfl ?_
    refine aw_aload_n (pc' := 30) (i := 0) hC dJ0_indexOf_7cf53_29 rfl rfl rfl ?_
    obtain ⟨x6, q5, h⟩ := pb_s h
    replace h := u1_s h
    refine aw_cStr (pc' := 33) (k2 := 0) (n2 := 0) (st := [.inl v2, .inl v1, .inr (.inr (v0 - 2))]) (stN := [.inl x6, .inl v2, .inl v1, .inr (.inr (v0 - 2))]) hC [] (mJ0_length_8abf5 q5) lk_J0_505 g2 dJ0_indexOf_7cf53_30 rfl rfl (Nat.le_of_ble_eq_true rfl) (Nat.le_of_ble_eq_true rfl) (Nat.le_of_ble_eq_true rfl) rfl (Nat.le_of_ble_eq_true rfl) rfl rfl rfl ?_
    cases h
  · replace h := it_n c4 h
    refine aw_aload_n (pc' := 8) (i := 0) hC dJ0_indexOf_7cf53_7 rfl rfl rfl ?_
    refine aw_gsV (v := (v0 - 2)) (pc' := 11) hC lf_J0_9 g2 rfl dJ0_indexOf_7cf53_8 rfl ?_
    refine aw_iload_n (pc' := 12) (i := 1) hC dJ0_indexOf_7cf53_11 rfl rfl rfl ?_
    refine aw_iload_n (pc' := 13) (i := 2) hC dJ0_indexOf_7cf53_12 rfl rfl rfl ?_
    refine aw_aload_n (pc' := 14) (i := 0) hC dJ0_indexOf_7cf53_13 rfl rfl rfl ?_
    obtain ⟨x8, q7, h⟩ := pb_s h
    replace h := u1_s h
    refine aw_cStr (pc' := 17) (k2 := 0) (n2 := 0) (st := [.inl v2, .inl v1, .inr (.inr (v0 - 2))]) (stN := [.inl x8, .inl v2, .inl v1, .inr (.inr (v0 - 2))]) hC [] (mJ0_length_8abf5 q7) lk_J0_505 g2 dJ0_indexOf_7cf53_14 rfl rfl (Nat.le_of_ble_eq_true rfl) (Nat.le_of_ble_eq_true rfl) (Nat.le_of_ble_eq_true rfl) rfl (Nat.le_of_ble_eq_true rfl) rfl rfl rfl ?_
    obtain ⟨x10, q9, h⟩ := pb_s h
    replace h := u1_s h
    refine aw_cS (pc' := 20) (k2 := 0) (n2 := 0) (st := []) (stN := [.inl x10]) hC [.inr (.inr (v0 - 2)), .inl v1, .inl v2, .inl x8] (mJ1_indexOf_4cfef q9) lk_J0_637 dJ0_indexOf_7cf53_17 rfl rfl (Nat.le_of_ble_eq_true rfl) (Nat.le_of_ble_eq_true rfl) (Nat.le_of_ble_eq_true rfl) rfl (Nat.le_of_ble_eq_true rfl) rfl rfl rfl ?_
    refine aw_goto (tgt := 36) hC dJ0_indexOf_7cf53_20 (by decide) ?_
    cases h
    exact aw_iret hC dJ0_indexOf_7cf53_36 (Nat.le_of_ble_eq_true rfl) (Nat.le_of_ble_eq_true rfl)
-- java/lang/String.indexOf(I)I
def fJ0_indexOf_0f7a4 (sh : AwS) (M : AwM) (v0 : Int) (v1 : Int) : Option Int :=
  gd_ (v0 = (-2) ∨ v0 = (-3)) (pb (fJ0_indexOf_7cf53 sh M v0 v1 0) <| u1 fun (x3 : Int) => (some x3))
set_option maxRecDepth 100000 in
set_option maxHeartbeats 4000000 in
theorem mJ0_indexOf_0f7a4 {sh : AwS} {M : AwM} {v0 : Int} {v1 : Int} {r : Int} (h : fJ0_indexOf_0f7a4 sh M v0 v1 = some r) : AMet yJ0_indexOf_0f7a4 cJ0_indexOf_0f7a4 2 (some .int) 7 0 0 [.inr (.inr v0), .inl v1] sh M (some (.inl r)) sh M := by
  refine amet_of (by decide +kernel) (Nat.le_of_ble_eq_true rfl) (fun Γ hC => ?_)
  replace hC : AOK Γ RJ0 cJ0_indexOf_0f7a4 2 7 0 0 "indexOf" (some .int) := hC
  unfold fJ0_indexOf_0f7a4 at h
  refine aw_sub hC [some (.inr (.inr v0)), some (.inl v1)] ⟨rfl, ⟨rfl, trivial⟩⟩ (Nat.le_of_ble_eq_true rfl) ?_
  refine aw_aload_n (pc' := 1) (i := 0) hC dJ0_indexOf_0f7a4_0 rfl rfl rfl ?_
  refine aw_iload_n (pc' := 2) (i := 1) hC dJ0_indexOf_0f7a4_1 rfl rfl rfl ?_
  refine aw_iconst (pc' := 3) hC dJ0_indexOf_0f7a4_2 rfl (by decide) ?_
  obtain ⟨g2, h⟩ := gd_s h
  obtain ⟨x3, q1, h⟩ := pb_s h
  replace h := u1_s h
  refine aw_cStr (pc' := 6) (k2 := 0) (n2 := 0) (st := []) (stN := [.inl x3]) hC [.inl v1, .inl 0] (mJ0_indexOf_7cf53 q1) lk_J0_633 g2 dJ0_indexOf_0f7a4_3 rfl rfl (Nat.le_of_ble_eq_true rfl) (Nat.le_of_ble_eq_true rfl) (Nat.le_of_ble_eq_true rfl) rfl (Nat.le_of_ble_eq_true rfl) rfl rfl rfl ?_
  cases h
  exact aw_iret hC dJ0_indexOf_0f7a4_6 (Nat.le_of_ble_eq_true rfl) (Nat.le_of_ble_eq_true rfl)
-- CoinCircle$Scanner.readOne([BI)V
def fX4_readOne_J189 (sh : AwS) (M : AwM) (v0 : Int) (v3 : Int) : Option (AwM) :=
  (if v3 = 0 then some M else gd_ (kd_ sh v0 = (0, 4)) ((if (M v0 8) = 1 then some M else (if (M v0 8) = 0 then some M else bd_ (up_ M v0 8 5) fun (M35 : AwM) => (bd_ (up_ M35 v0 11 (M35 v0 10)) fun (M37 : AwM) => (some M37))))))
def fX4_readOne_J176 (sh : AwS) (M : AwM) (v0 : Int) (v3 : Int) (s0 : Int) (s1 : Int) : Option (AwM) :=
  gd_ (kd_ sh s0 = (0, 4)) (bd_ (up_ M s0 8 s1) fun (M26 : AwM) => (gd_ (kd_ sh v0 = (0, 4)) (bd_ (up_ M26 v0 7 (w32 ((M26 v0 7) + 1))) fun (M29 : AwM) => (fX4_readOne_J189 sh M29 v0 v3))))
def fX4_readOne_J175 (sh : AwS) (M : AwM) (v0 : Int) (v3 : Int) (s0 : Int) : Option (AwM) :=
  fX4_readOne_J176 sh M v0 v3 s0 5
def fX4_readOne_J60 (sh : AwS) (M : AwM) (v0 : Int) (v1 : Int) (v2 : Int) (s0 : Int) : Option (AwM) :=
  gd_ (kd_ sh v0 = (0, 4)) (bd_ (up_ M v0 10 (M v0 7)) fun (M8 : AwM) => (bd_ (up_ M8 v0 11 (M8 v0 7)) fun (M10 : AwM) => (bd_ (up_ M10 v0 9 0) fun (M12 : AwM) => ((if (M12 v0 7) < v2 then gd_ ((kd_ sh v1).1 = 3 ∧ (0 : Int) ≤ (M12 v0 7) ∧ (M12 v0 7) < ((kd_ sh v1).2 : Int)) (pb (fX4_isLetter sh M12 (M12 v1 (M12 v0 7))) <| u1 fun (x17 : Int) => ((if x17 = 0 then pb (fX4_isDigit sh M12 (M12 v1 (M12 v0 7))) <| u1 fun (x20 : Int) => ((if x20 = 0 then bd_ (up_ M12 v0 9 (M12 v1 (M12 v0 7))) fun (M22 : AwM) => ((if 0 < (M22 v0 9) then pb (fJ0_indexOf_0f7a4 sh M22 (-3) (c16_ (M22 v0 9))) <| u1 fun (x40 : Int) => ((if x40 < 0 then fX4_readOne_J175 sh M22 v0 s0 v0 else fX4_readOne_J176 sh M22 v0 s0 v0 1)) else fX4_readOne_J175 sh M22 v0 s0 v0)) else pb (fX4_readNumber sh M12 v0 v1 v2) <| u1 fun (M43 : AwM) => (fX4_readOne_J189 sh M43 v0 s0))) else pb (fX4_readWord sh M12 v0 v1 v2) <| u1 fun (M45 : AwM) => (fX4_readOne_J189 sh M45 v0 s0)))) else bd_ (up_ M12 v0 8 0) fun (M46 : AwM) => (fX4_readOne_J189 sh M46 v0 s0))))))
def fX4_readOne_J59 (sh : AwS) (M : AwM) (v0 : Int) (v1 : Int) (v2 : Int) : Option (AwM) :=
  fX4_readOne_J60 sh M v0 v1 v2 0
def fX4_readOne_J29 (sh : AwS) (M : AwM) (v0 : Int) (v1 : Int) (v2 : Int) (s0 : Int) : Option (AwM) :=
  gd_ (kd_ sh v0 = (0, 4)) (pb (fX4_skipBlanks sh M v0 v1 v2) <| u1 fun (M5 : AwM) => ((if s0 = 0 then fX4_readOne_J59 sh M5 v0 v1 v2 else (if (M5 v0 7) = (M v0 7) then fX4_readOne_J60 sh M5 v0 v1 v2 1 else fX4_readOne_J59 sh M5 v0 v1 v2))))
def fX4_readOne_J24 (sh : AwS) (M : AwM) (v0 : Int) (v1 : Int) (v2 : Int) : Option (AwM) :=
  fX4_readOne_J29 sh M v0 v1 v2 1
def fX4_readOne (sh : AwS) (M : AwM) (v0 : Int) (v1 : Int) (v2 : Int) : Option (AwM) :=
  gd_ (kd_ sh v0 = (0, 4)) ((if (M v0 8) = 2 then fX4_readOne_J24 sh M v0 v1 v2 else (if (M v0 8) = 3 then fX4_readOne_J24 sh M v0 v1 v2 else (if (M v0 8) = 4 then fX4_readOne_J24 sh M v0 v1 v2 else fX4_readOne_J29 sh M v0 v1 v2 0))))
set_option maxRecDepth 100000 in
set_option maxHeartbeats 4000000 in
theorem w_X4_readOne_J189 {Γ : AwC} (hC : AOK Γ RX4 cX4_readOne 5 8 0 0 "readOne" none) {sh : AwS} {M : AwM} {v0 : Int} {v3 : Int} {M' : AwM} (h : fX4_readOne_J189 sh M v0 v3 = some M') {Q : State → Prop} (hQ : Q = (fin_ Γ 0 0 none sh M')) : AW Γ sh M 0 0 189 [some (.inr (.inr v0)), none, none, some (.inl v3), none] [] Q := by
  unfold fX4_readOne_J189 at h
  refine aw_iload_n (pc' := 190) (i := 3) hC dX4_readOne_189 rfl rfl rfl ?_
  refine aw_if_eq (tgt := 221) (pc' := 193) hC dX4_readOne_190 (by decide) rfl (fun c31 => ?_) (fun c31 => ?_)
  · replace h := it_p c31 h
    cases h
    subst hQ
    exact aw_vret hC dX4_readOne_221 (Nat.le_of_ble_eq_true rfl) (Nat.le_of_ble_eq_true rfl)
  · replace h := it_n c31 h
    refine aw_aload_n (pc' := 194) (i := 0) hC dX4_readOne_193 rfl rfl rfl ?_
    obtain ⟨g32, h⟩ := gd_s h
    refine aw_getfield (pc' := 197) (v := (.inl (M v0 8))) hC dX4_readOne_194 rfl fl_X4_56 g32 rfl ?_
    refine aw_iconst (pc' := 198) hC dX4_readOne_197 rfl (by decide) ?_
    refine aw_icmp_eq (tgt := 221) (pc' := 201) hC dX4_readOne_198 (by decide) rfl (fun c33 => ?_) (fun c33 => ?_)
    · replace h := it_p c33 h
      cases h
      subst hQ
      exact aw_vret hC dX4_readOne_221 (Nat.le_of_ble_eq_true rfl) (Nat.le_of_ble_eq_true rfl)
    · replace h := it_n c33 h
      refine aw_aload_n (pc' := 202) (i := 0) hC dX4_readOne_201 rfl rfl rfl ?_
      refine aw_getfield (pc' := 205) (v := (.inl (M v0 8))) hC dX4_readOne_202 rfl fl_X4_56 g32 rfl ?_
      refine aw_if_eq (tgt := 221) (pc' := 208) hC dX4_readOne_205 (by decide) rfl (fun c34 => ?_) (fun c34 => ?_)
      · replace h := it_p c34 h
        cases h
        subst hQ
        exact aw_vret hC dX4_readOne_221 (Nat.le_of_ble_eq_true rfl) (Nat.le_of_ble_eq_true rfl)
      · replace h := it_n c34 h
        refine aw_aload_n (pc' := 209) (i := 0) hC dX4_readOne_208 rfl rfl rfl ?_
        refine aw_iconst (pc' := 210) hC dX4_readOne_209 rfl (by decide) ?_
        obtain ⟨M35, e36, h⟩ := bd_s h
        refine aw_pf (pc' := 213) hC dX4_readOne_210 rfl fp_X4_56 g32 rfl trivial e36 ?_
        refine aw_aload_n (pc' := 214) (i := 0) hC dX4_readOne_213 rfl rfl rfl ?_
        refine aw_aload_n (pc' := 215) (i := 0) hC dX4_readOne_214 rfl rfl rfl ?_
        refine aw_getfield (pc' := 218) (v := (.inl (M35 v0 10))) hC dX4_readOne_215 rfl fl_X4_66 g32 rfl ?_
        obtain ⟨M37, e38, h⟩ := bd_s h
        refine aw_pf (pc' := 221) hC dX4_readOne_218 rfl fp_X4_69 g32 rfl trivial e38 ?_
        cases h
        subst hQ
        exact aw_vret hC dX4_readOne_221 (Nat.le_of_ble_eq_true rfl) (Nat.le_of_ble_eq_true rfl)
set_option maxRecDepth 100000 in
set_option maxHeartbeats 4000000 in
theorem w_X4_readOne_J176 {Γ : AwC} (hC : AOK Γ RX4 cX4_readOne 5 8 0 0 "readOne" none) {sh : AwS} {M : AwM} {v0 : Int} {v3 : Int} {s0 : Int} {s1 : Int} {M' : AwM} (h : fX4_readOne_J176 sh M v0 v3 s0 s1 = some M') {Q : State → Prop} (hQ : Q = (fin_ Γ 0 0 none sh M')) : AW Γ sh M 0 0 176 [some (.inr (.inr v0)), none, none, some (.inl v3), none] [.inl s1, .inr (.inr s0)] Q := by
  unfold fX4_readOne_J176 at h
  obtain ⟨g25, h⟩ := gd_s h
  obtain ⟨M26, e27, h⟩ := bd_s h
  refine aw_pf (pc' := 179) hC dX4_readOne_176 rfl fp_X4_56 g25 rfl trivial e27 ?_
  refine aw_aload_n (pc' := 180) (i := 0) hC dX4_readOne_179 rfl rfl rfl ?_
  refine aw_dup (pc' := 181) hC dX4_readOne_180 rfl rfl ?_
  obtain ⟨g28, h⟩ := gd_s h
  refine aw_getfield (pc' := 184) (v := (.inl (M26 v0 7))) hC dX4_readOne_181 rfl fl_X4_53 g28 rfl ?_
  refine aw_iconst (pc' := 185) hC dX4_readOne_184 rfl (by decide) ?_
  refine aw_iadd (pc' := 186) hC dX4_readOne_185 rfl  ?_
  obtain ⟨M29, e30, h⟩ := bd_s h
  refine aw_pf (pc' := 189) hC dX4_readOne_186 rfl fp_X4_53 g28 rfl trivial e30 ?_
  refine aw_sub hC [some (.inr (.inr v0)), none, none, some (.inl v3), none] ⟨rfl, ⟨rfl, trivial⟩⟩ (Nat.le_of_ble_eq_true rfl) ?_
  exact w_X4_readOne_J189 hC h hQ
set_option maxRecDepth 100000 in
set_option maxHeartbeats 4000000 in
theorem w_X4_readOne_J175 {Γ : AwC} (hC : AOK Γ RX4 cX4_readOne 5 8 0 0 "readOne" none) {sh : AwS} {M : AwM} {v0 : Int} {v3 : Int} {s0 : Int} {M' : AwM} (h : fX4_readOne_J175 sh M v0 v3 s0 = some M') {Q : State → Prop} (hQ : Q = (fin_ Γ 0 0 none sh M')) : AW Γ sh M 0 0 175 [some (.inr (.inr v0)), none, none, some (.inl v3), none] [.inr (.inr s0)] Q := by
  unfold fX4_readOne_J175 at h
  refine aw_iconst (pc' := 176) hC dX4_readOne_175 rfl (by decide) ?_
  refine aw_sub hC [some (.inr (.inr v0)), none, none, some (.inl v3), none] ⟨rfl, ⟨rfl, trivial⟩⟩ (Nat.le_of_ble_eq_true rfl) ?_
  exact w_X4_readOne_J176 hC h hQ
set_option maxRecDepth 100000 in
set_option maxHeartbeats 4000000 in
theorem w_X4_readOne_J60 {Γ : AwC} (hC : AOK Γ RX4 cX4_readOne 5 8 0 0 "readOne" none) {sh : AwS} {M : AwM} {v0 : Int} {v1 : Int} {v2 : Int} {s0 : Int} {M' : AwM} (h : fX4_readOne_J60 sh M v0 v1 v2 s0 = some M') {Q : State → Prop} (hQ : Q = (fin_ Γ 0 0 none sh M')) : AW Γ sh M 0 0 60 [some (.inr (.inr v0)), some (.inr (.inr v1)), some (.inl v2), none, none] [.inl s0] Q := by
  unfold fX4_readOne_J60 at h
  refine aw_istore_n (pc' := 61) (i := 3) (ls' := [some (.inr (.inr v0)), some (.inr (.inr v1)), some (.inl v2), some (.inl s0), none]) hC dX4_readOne_60 rfl rfl (Nat.le_of_ble_eq_true rfl) rfl rfl ?_
  refine aw_aload_n (pc' := 62) (i := 0) hC dX4_readOne_61 rfl rfl rfl ?_
  refine aw_aload_n (pc' := 63) (i := 0) hC dX4_readOne_62 rfl rfl rfl ?_
  obtain ⟨g7, h⟩ := gd_s h
  refine aw_getfield (pc' := 66) (v := (.inl (M v0 7))) hC dX4_readOne_63 rfl fl_X4_53 g7 rfl ?_
  obtain ⟨M8, e9, h⟩ := bd_s h
  refine aw_pf (pc' := 69) hC dX4_readOne_66 rfl fp_X4_66 g7 rfl trivial e9 ?_
  refine aw_aload_n (pc' := 70) (i := 0) hC dX4_readOne_69 rfl rfl rfl ?_
  refine aw_aload_n (pc' := 71) (i := 0) hC dX4_readOne_70 rfl rfl rfl ?_
  refine aw_getfield (pc' := 74) (v := (.inl (M8 v0 7))) hC dX4_readOne_71 rfl fl_X4_53 g7 rfl ?_
  obtain ⟨M10, e11, h⟩ := bd_s h
  refine aw_pf (pc' := 77) hC dX4_readOne_74 rfl fp_X4_69 g7 rfl trivial e11 ?_
  refine aw_aload_n (pc' := 78) (i := 0) hC dX4_readOne_77 rfl rfl rfl ?_
  refine aw_iconst (pc' := 79) hC dX4_readOne_78 rfl (by decide) ?_
  obtain ⟨M12, e13, h⟩ := bd_s h
  refine aw_pf (pc' := 82) hC dX4_readOne_79 rfl fp_X4_63 g7 rfl trivial e13 ?_
  refine aw_aload_n (pc' := 83) (i := 0) hC dX4_readOne_82 rfl rfl rfl ?_
  refine aw_getfield (pc' := 86) (v := (.inl (M12 v0 7))) hC dX4_readOne_83 rfl fl_X4_53 g7 rfl ?_
  refine aw_iload_n (pc' := 87) (i := 2) hC dX4_readOne_86 rfl rfl rfl ?_
  refine aw_icmp_lt (tgt := 98) (pc' := 90) hC dX4_readOne_87 (by decide) rfl (fun c14 => ?_) (fun c14 => ?_)
  · replace h := it_p c14 h
    refine aw_aload_n (pc' := 99) (i := 1) hC dX4_readOne_98 rfl rfl rfl ?_
    refine aw_aload_n (pc' := 100) (i := 0) hC dX4_readOne_99 rfl rfl rfl ?_
    refine aw_getfield (pc' := 103) (v := (.inl (M12 v0 7))) hC dX4_readOne_100 rfl fl_X4_53 g7 rfl ?_
    obtain ⟨g15, h⟩ := gd_s h
    refine aw_baload (pc' := 104) hC dX4_readOne_103 rfl g15 ?_
    obtain ⟨x17, q16, h⟩ := pb_s h
    replace h := u1_s h
    refine aw_cS (pc' := 107) (k2 := 0) (n2 := 0) (st := []) (stN := [.inl x17]) hC [.inl (M12 v1 (M12 v0 7))] (mX4_isLetter q16) lk_X4_81 dX4_readOne_104 rfl rfl (Nat.le_of_ble_eq_true rfl) (Nat.le_of_ble_eq_true rfl) (Nat.le_of_ble_eq_true rfl) rfl (Nat.le_of_ble_eq_true rfl) rfl rfl rfl ?_
    refine aw_if_eq (tgt := 119) (pc' := 110) hC dX4_readOne_107 (by decide) rfl (fun c18 => ?_) (fun c18 => ?_)
    · replace h := it_p c18 h
      refine aw_aload_n (pc' := 120) (i := 1) hC dX4_readOne_119 rfl rfl rfl ?_
      refine aw_aload_n (pc' := 121) (i := 0) hC dX4_readOne_120 rfl rfl rfl ?_
      refine aw_getfield (pc' := 124) (v := (.inl (M12 v0 7))) hC dX4_readOne_121 rfl fl_X4_53 g7 rfl ?_
      refine aw_baload (pc' := 125) hC dX4_readOne_124 rfl g15 ?_
      obtain ⟨x20, q19, h⟩ := pb_s h
      replace h := u1_s h
      refine aw_cS (pc' := 128) (k2 := 0) (n2 := 0) (st := []) (stN := [.inl x20]) hC [.inl (M12 v1 (M12 v0 7))] (mX4_isDigit q19) lk_X4_88 dX4_readOne_125 rfl rfl (Nat.le_of_ble_eq_true rfl) (Nat.le_of_ble_eq_true rfl) (Nat.le_of_ble_eq_true rfl) rfl (Nat.le_of_ble_eq_true rfl) rfl rfl rfl ?_
      refine aw_if_eq (tgt := 140) (pc' := 131) hC dX4_readOne_128 (by decide) rfl (fun c21 => ?_) (fun c21 => ?_)
      · replace h := it_p c21 h
        refine aw_aload_n (pc' := 141) (i := 0) hC dX4_readOne_140 rfl rfl rfl ?_
        refine aw_aload_n (pc' := 142) (i := 1) hC dX4_readOne_141 rfl rfl rfl ?_
        refine aw_aload_n (pc' := 143) (i := 0) hC dX4_readOne_142 rfl rfl rfl ?_
        refine aw_getfield (pc' := 146) (v := (.inl (M12 v0 7))) hC dX4_readOne_143 rfl fl_X4_53 g7 rfl ?_
        refine aw_baload (pc' := 147) hC dX4_readOne_146 rfl g15 ?_
        obtain ⟨M22, e23, h⟩ := bd_s h
        refine aw_pf (pc' := 150) hC dX4_readOne_147 rfl fp_X4_63 g7 rfl trivial e23 ?_
        refine aw_aload_n (pc' := 151) (i := 0) hC dX4_readOne_150 rfl rfl rfl ?_
        refine aw_aload_n (pc' := 152) (i := 0) hC dX4_readOne_151 rfl rfl rfl ?_
        refine aw_getfield (pc' := 155) (v := (.inl (M22 v0 9))) hC dX4_readOne_152 rfl fl_X4_63 g7 rfl ?_
        refine aw_if_le (tgt := 175) (pc' := 158) hC dX4_readOne_155 (by decide) rfl (fun c24 => ?_) (fun c24 => ?_)
        · replace h := it_n c24 h
          refine aw_sub hC [some (.inr (.inr v0)), none, none, some (.inl s0), none] ⟨rfl, ⟨rfl, trivial⟩⟩ (Nat.le_of_ble_eq_true rfl) ?_
          exact w_X4_readOne_J175 hC h hQ
        · replace h := it_p c24 h
          refine aw_ldcS (idx := 94) (v := (-3)) (pc' := 160) hC (Or.inr ⟨rfl, rfl⟩) dX4_readOne_158 rfl ?_
          refine aw_aload_n (pc' := 161) (i := 0) hC dX4_readOne_160 rfl rfl rfl ?_
          refine aw_getfield (pc' := 164) (v := (.inl (M22 v0 9))) hC dX4_readOne_161 rfl fl_X4_63 g7 rfl ?_
          refine aw_i2c (pc' := 165) hC dX4_readOne_164 rfl  ?_
          obtain ⟨x40, q39, h⟩ := pb_s h
          replace h := u1_s h
          refine aw_cStr (pc' := 168) (k2 := 0) (n2 := 0) (st := [.inr (.inr v0)]) (stN := [.inl x40, .inr (.inr v0)]) hC [.inl (c16_ (M22 v0 9))] (mJ0_indexOf_0f7a4 q39) lk_X4_96 (Or.inr rfl) dX4_readOne_165 rfl rfl (Nat.le_of_ble_eq_true rfl) (Nat.le_of_ble_eq_true rfl) (Nat.le_of_ble_eq_true rfl) rfl (Nat.le_of_ble_eq_true rfl) rfl rfl rfl ?_
          refine aw_if_lt (tgt := 175) (pc' := 171) hC dX4_readOne_168 (by decide) rfl (fun c41 => ?_) (fun c41 => ?_)
          · replace h := it_p c41 h
            refine aw_sub hC [some (.inr (.inr v0)), none, none, some (.inl s0), none] ⟨rfl, ⟨rfl, trivial⟩⟩ (Nat.le_of_ble_eq_true rfl) ?_
            exact w_X4_readOne_J175 hC h hQ
          · replace h := it_n c41 h
            refine aw_iconst (pc' := 172) hC dX4_readOne_171 rfl (by decide) ?_
            refine aw_goto (tgt := 176) hC dX4_readOne_172 (by decide) ?_
            refine aw_sub hC [some (.inr (.inr v0)), none, none, some (.inl s0), none] ⟨rfl, ⟨rfl, trivial⟩⟩ (Nat.le_of_ble_eq_true rfl) ?_
            exact w_X4_readOne_J176 hC h hQ
      · replace h := it_n c21 h
        refine aw_aload_n (pc' := 132) (i := 0) hC dX4_readOne_131 rfl rfl rfl ?_
        refine aw_aload_n (pc' := 133) (i := 1) hC dX4_readOne_132 rfl rfl rfl ?_
        refine aw_iload_n (pc' := 134) (i := 2) hC dX4_readOne_133 rfl rfl rfl ?_
        obtain ⟨M43, q42, h⟩ := pb_s h
        replace h := u1_s h
        refine aw_cV (pc' := 137) (k2 := 0) (n2 := 0) (st := []) (stN := []) hC [.inr (.inr v1), .inl v2] (mX4_readNumber q42) lk_X4_91 g7 dX4_readOne_134 rfl rfl (Nat.le_of_ble_eq_true rfl) (Nat.le_of_ble_eq_true rfl) (Nat.le_of_ble_eq_true rfl) rfl (Nat.le_of_ble_eq_true rfl) rfl rfl rfl ?_
        refine aw_goto (tgt := 189) hC dX4_readOne_137 (by decide) ?_
        refine aw_sub hC [some (.inr (.inr v0)), none, none, some (.inl s0), none] ⟨rfl, ⟨rfl, trivial⟩⟩ (Nat.le_of_ble_eq_true rfl) ?_
        exact w_X4_readOne_J189 hC h hQ
    · replace h := it_n c18 h
      refine aw_aload_n (pc' := 111) (i := 0) hC dX4_readOne_110 rfl rfl rfl ?_
      refine aw_aload_n (pc' := 112) (i := 1) hC dX4_readOne_111 rfl rfl rfl ?_
      refine aw_iload_n (pc' := 113) (i := 2) hC dX4_readOne_112 rfl rfl rfl ?_
      obtain ⟨M45, q44, h⟩ := pb_s h
      replace h := u1_s h
      refine aw_cV (pc' := 116) (k2 := 0) (n2 := 0) (st := []) (stN := []) hC [.inr (.inr v1), .inl v2] (mX4_readWord q44) lk_X4_85 g7 dX4_readOne_113 rfl rfl (Nat.le_of_ble_eq_true rfl) (Nat.le_of_ble_eq_true rfl) (Nat.le_of_ble_eq_true rfl) rfl (Nat.le_of_ble_eq_true rfl) rfl rfl rfl ?_
      refine aw_goto (tgt := 189) hC dX4_readOne_116 (by decide) ?_
      refine aw_sub hC [some (.inr (.inr v0)), none, none, some (.inl s0), none] ⟨rfl, ⟨rfl, trivial⟩⟩ (Nat.le_of_ble_eq_true rfl) ?_
      exact w_X4_readOne_J189 hC h hQ
  · replace h := it_n c14 h
    refine aw_aload_n (pc' := 91) (i := 0) hC dX4_readOne_90 rfl rfl rfl ?_
    refine aw_iconst (pc' := 92) hC dX4_readOne_91 rfl (by decide) ?_
    obtain ⟨M46, e47, h⟩ := bd_s h
    refine aw_pf (pc' := 95) hC dX4_readOne_92 rfl fp_X4_56 g7 rfl trivial e47 ?_
    refine aw_goto (tgt := 189) hC dX4_readOne_95 (by decide) ?_
    refine aw_sub hC [some (.inr (.inr v0)), none, none, some (.inl s0), none] ⟨rfl, ⟨rfl, trivial⟩⟩ (Nat.le_of_ble_eq_true rfl) ?_
    exact w_X4_readOne_J189 hC h hQ
set_option maxRecDepth 100000 in
set_option maxHeartbeats 4000000 in
theorem w_X4_readOne_J59 {Γ : AwC} (hC : AOK Γ RX4 cX4_readOne 5 8 0 0 "readOne" none) {sh : AwS} {M : AwM} {v0 : Int} {v1 : Int} {v2 : Int} {M' : AwM} (h : fX4_readOne_J59 sh M v0 v1 v2 = some M') {Q : State → Prop} (hQ : Q = (fin_ Γ 0 0 none sh M')) : AW Γ sh M 0 0 59 [some (.inr (.inr v0)), some (.inr (.inr v1)), some (.inl v2), none, none] [] Q := by
  unfold fX4_readOne_J59 at h
  refine aw_iconst (pc' := 60) hC dX4_readOne_59 rfl (by decide) ?_
  refine aw_sub hC [some (.inr (.inr v0)), some (.inr (.inr v1)), some (.inl v2), none, none] ⟨rfl, ⟨rfl, ⟨rfl, trivial⟩⟩⟩ (Nat.le_of_ble_eq_true rfl) ?_
  exact w_X4_readOne_J60 hC h hQ
set_option maxRecDepth 100000 in
set_option maxHeartbeats 4000000 in
theorem w_X4_readOne_J29 {Γ : AwC} (hC : AOK Γ RX4 cX4_readOne 5 8 0 0 "readOne" none) {sh : AwS} {M : AwM} {v0 : Int} {v1 : Int} {v2 : Int} {s0 : Int} {M' : AwM} (h : fX4_readOne_J29 sh M v0 v1 v2 s0 = some M') {Q : State → Prop} (hQ : Q = (fin_ Γ 0 0 none sh M')) : AW Γ sh M 0 0 29 [some (.inr (.inr v0)), some (.inr (.inr v1)), some (.inl v2), none, none] [.inl s0] Q := by
  unfold fX4_readOne_J29 at h
  refine aw_istore_n (pc' := 30) (i := 3) (ls' := [some (.inr (.inr v0)), some (.inr (.inr v1)), some (.inl v2), some (.inl s0), none]) hC dX4_readOne_29 rfl rfl (Nat.le_of_ble_eq_true rfl) rfl rfl ?_
  refine aw_aload_n (pc' := 31) (i := 0) hC dX4_readOne_30 rfl rfl rfl ?_
  obtain ⟨g3, h⟩ := gd_s h
  refine aw_getfield (pc' := 34) (v := (.inl (M v0 7))) hC dX4_readOne_31 rfl fl_X4_53 g3 rfl ?_
  refine aw_istore (pc' := 36) (ls' := [some (.inr (.inr v0)), some (.inr (.inr v1)), some (.inl v2), some (.inl s0), some (.inl (M v0 7))]) hC dX4_readOne_34 rfl (Nat.le_of_ble_eq_true rfl) rfl rfl ?_
  refine aw_aload_n (pc' := 37) (i := 0) hC dX4_readOne_36 rfl rfl rfl ?_
  refine aw_aload_n (pc' := 38) (i := 1) hC dX4_readOne_37 rfl rfl rfl ?_
  refine aw_iload_n (pc' := 39) (i := 2) hC dX4_readOne_38 rfl rfl rfl ?_
  obtain ⟨M5, q4, h⟩ := pb_s h
  replace h := u1_s h
  refine aw_cV (pc' := 42) (k2 := 0) (n2 := 0) (st := []) (stN := []) hC [.inr (.inr v1), .inl v2] (mX4_skipBlanks q4) lk_X4_78 g3 dX4_readOne_39 rfl rfl (Nat.le_of_ble_eq_true rfl) (Nat.le_of_ble_eq_true rfl) (Nat.le_of_ble_eq_true rfl) rfl (Nat.le_of_ble_eq_true rfl) rfl rfl rfl ?_
  refine aw_iload_n (pc' := 43) (i := 3) hC dX4_readOne_42 rfl rfl rfl ?_
  refine aw_if_eq (tgt := 59) (pc' := 46) hC dX4_readOne_43 (by decide) rfl (fun c6 => ?_) (fun c6 => ?_)
  · replace h := it_p c6 h
    refine aw_sub hC [some (.inr (.inr v0)), some (.inr (.inr v1)), some (.inl v2), none, none] ⟨rfl, ⟨rfl, ⟨rfl, trivial⟩⟩⟩ (Nat.le_of_ble_eq_true rfl) ?_
    exact w_X4_readOne_J59 hC h hQ
  · replace h := it_n c6 h
    refine aw_aload_n (pc' := 47) (i := 0) hC dX4_readOne_46 rfl rfl rfl ?_
    refine aw_getfield (pc' := 50) (v := (.inl (M5 v0 7))) hC dX4_readOne_47 rfl fl_X4_53 g3 rfl ?_
    refine aw_iload (pc' := 52) hC dX4_readOne_50 rfl rfl ?_
    refine aw_icmp_ne (tgt := 59) (pc' := 55) hC dX4_readOne_52 (by decide) rfl (fun c48 => ?_) (fun c48 => ?_)
    · replace h := it_n c48 h
      refine aw_sub hC [some (.inr (.inr v0)), some (.inr (.inr v1)), some (.inl v2), none, none] ⟨rfl, ⟨rfl, ⟨rfl, trivial⟩⟩⟩ (Nat.le_of_ble_eq_true rfl) ?_
      exact w_X4_readOne_J59 hC h hQ
    · replace h := it_p c48 h
      refine aw_iconst (pc' := 56) hC dX4_readOne_55 rfl (by decide) ?_
      refine aw_goto (tgt := 60) hC dX4_readOne_56 (by decide) ?_
      refine aw_sub hC [some (.inr (.inr v0)), some (.inr (.inr v1)), some (.inl v2), none, none] ⟨rfl, ⟨rfl, ⟨rfl, trivial⟩⟩⟩ (Nat.le_of_ble_eq_true rfl) ?_
      exact w_X4_readOne_J60 hC h hQ
set_option maxRecDepth 100000 in
set_option maxHeartbeats 4000000 in
theorem w_X4_readOne_J24 {Γ : AwC} (hC : AOK Γ RX4 cX4_readOne 5 8 0 0 "readOne" none) {sh : AwS} {M : AwM} {v0 : Int} {v1 : Int} {v2 : Int} {M' : AwM} (h : fX4_readOne_J24 sh M v0 v1 v2 = some M') {Q : State → Prop} (hQ : Q = (fin_ Γ 0 0 none sh M')) : AW Γ sh M 0 0 24 [some (.inr (.inr v0)), some (.inr (.inr v1)), some (.inl v2), none, none] [] Q := by
  unfold fX4_readOne_J24 at h
  refine aw_iconst (pc' := 25) hC dX4_readOne_24 rfl (by decide) ?_
  refine aw_goto (tgt := 29) hC dX4_readOne_25 (by decide) ?_
  refine aw_sub hC [some (.inr (.inr v0)), some (.inr (.inr v1)), some (.inl v2), none, none] ⟨rfl, ⟨rfl, ⟨rfl, trivial⟩⟩⟩ (Nat.le_of_ble_eq_true rfl) ?_
  exact w_X4_readOne_J29 hC h hQ
set_option maxRecDepth 100000 in
set_option maxHeartbeats 4000000 in
theorem mX4_readOne {sh : AwS} {M : AwM} {v0 : Int} {v1 : Int} {v2 : Int} {M' : AwM} (h : fX4_readOne sh M v0 v1 v2 = some M') : AMet yX4_readOne cX4_readOne 5 none 8 0 0 [.inr (.inr v0), .inr (.inr v1), .inl v2] sh M none sh M' := by
  refine amet_of (by decide +kernel) (Nat.le_of_ble_eq_true rfl) (fun Γ hC => ?_)
  replace hC : AOK Γ RX4 cX4_readOne 5 8 0 0 "readOne" none := hC
  unfold fX4_readOne at h
  refine aw_sub hC [some (.inr (.inr v0)), some (.inr (.inr v1)), some (.inl v2), none, none] ⟨rfl, ⟨rfl, ⟨rfl, trivial⟩⟩⟩ (Nat.le_of_ble_eq_true rfl) ?_
  refine aw_aload_n (pc' := 1) (i := 0) hC dX4_readOne_0 rfl rfl rfl ?_
  obtain ⟨g1, h⟩ := gd_s h
  refine aw_getfield (pc' := 4) (v := (.inl (M v0 8))) hC dX4_readOne_1 rfl fl_X4_56 g1 rfl ?_
  refine aw_iconst (pc' := 5) hC dX4_readOne_4 rfl (by decide) ?_
  refine aw_icmp_eq (tgt := 24) (pc' := 8) hC dX4_readOne_5 (by decide) rfl (fun c2 => ?_) (fun c2 => ?_)
  · replace h := it_p c2 h
    refine aw_sub hC [some (.inr (.inr v0)), some (.inr (.inr v1)), some (.inl v2), none, none] ⟨rfl, ⟨rfl, ⟨rfl, trivial⟩⟩⟩ (Nat.le_of_ble_eq_true rfl) ?_
    exact w_X4_readOne_J24 hC h rfl
  · replace h := it_n c2 h
    refine aw_aload_n (pc' := 9) (i := 0) hC dX4_readOne_8 rfl rfl rfl ?_
    refine aw_getfield (pc' := 12) (v := (.inl (M v0 8))) hC dX4_readOne_9 rfl fl_X4_56 g1 rfl ?_
    refine aw_iconst (pc' := 13) hC dX4_readOne_12 rfl (by decide) ?_
    refine aw_icmp_eq (tgt := 24) (pc' := 16) hC dX4_readOne_13 (by decide) rfl (fun c49 => ?_) (fun c49 => ?_)
    · replace h := it_p c49 h
      refine aw_sub hC [some (.inr (.inr v0)), some (.inr (.inr v1)), some (.inl v2), none, none] ⟨rfl, ⟨rfl, ⟨rfl, trivial⟩⟩⟩ (Nat.le_of_ble_eq_true rfl) ?_
      exact w_X4_readOne_J24 hC h rfl
    · replace h := it_n c49 h
      refine aw_aload_n (pc' := 17) (i := 0) hC dX4_readOne_16 rfl rfl rfl ?_
      refine aw_getfield (pc' := 20) (v := (.inl (M v0 8))) hC dX4_readOne_17 rfl fl_X4_56 g1 rfl ?_
      refine aw_iconst (pc' := 21) hC dX4_readOne_20 rfl (by decide) ?_
      refine aw_icmp_ne (tgt := 28) (pc' := 24) hC dX4_readOne_21 (by decide) rfl (fun c50 => ?_) (fun c50 => ?_)
      · replace h := it_n c50 h
        refine aw_iconst (pc' := 29) hC dX4_readOne_28 rfl (by decide) ?_
        refine aw_sub hC [some (.inr (.inr v0)), some (.inr (.inr v1)), some (.inl v2), none, none] ⟨rfl, ⟨rfl, ⟨rfl, trivial⟩⟩⟩ (Nat.le_of_ble_eq_true rfl) ?_
        exact w_X4_readOne_J29 hC h rfl
      · replace h := it_p c50 h
        refine aw_sub hC [some (.inr (.inr v0)), some (.inr (.inr v1)), some (.inl v2), none, none] ⟨rfl, ⟨rfl, ⟨rfl, trivial⟩⟩⟩ (Nat.le_of_ble_eq_true rfl) ?_
        exact w_X4_readOne_J24 hC h rfl
-- CoinCircle$Scanner.next()V
def fX4_next (sh : AwS) (M : AwM) (v0 : Int) : Option (AwM) :=
  gd_ (kd_ sh v0 = (0, 4)) ((if (w32 ((M v0 6) + 1)) < (M v0 5) then (if 1600 < (w32 ((M v0 6) + 1)) then some M else bd_ (up_ M v0 6 (w32 ((M v0 6) + 1))) fun (M4 : AwM) => (gd_ ((kd_ sh (M4 v0 1)).1 = 1 ∧ (0 : Int) ≤ (M4 v0 6) ∧ (M4 v0 6) < ((kd_ sh (M4 v0 1)).2 : Int)) (bd_ (up_ M4 v0 8 (M4 (M4 v0 1) (M4 v0 6))) fun (M7 : AwM) => (gd_ ((kd_ sh (M7 v0 2)).1 = 1 ∧ (0 : Int) ≤ (M7 v0 6) ∧ (M7 v0 6) < ((kd_ sh (M7 v0 2)).2 : Int)) (bd_ (up_ M7 v0 9 (M7 (M7 v0 2) (M7 v0 6))) fun (M10 : AwM) => (gd_ ((kd_ sh (M10 v0 3)).1 = 1 ∧ (0 : Int) ≤ (M10 v0 6) ∧ (M10 v0 6) < ((kd_ sh (M10 v0 3)).2 : Int)) (bd_ (up_ M10 v0 10 (M10 (M10 v0 3) (M10 v0 6))) fun (M13 : AwM) => (gd_ ((kd_ sh (M13 v0 4)).1 = 1 ∧ (0 : Int) ≤ (M13 v0 6) ∧ (M13 v0 6) < ((kd_ sh (M13 v0 4)).2 : Int)) (bd_ (up_ M13 v0 11 (M13 (M13 v0 4) (M13 v0 6))) fun (M16 : AwM) => (some M16)))))))))) else some M))
set_option maxRecDepth 100000 in
set_option maxHeartbeats 4000000 in
theorem mX4_next {sh : AwS} {M : AwM} {v0 : Int} {M' : AwM} (h : fX4_next sh M v0 = some M') : AMet yX4_next cX4_next 1 none 1 0 0 [.inr (.inr v0)] sh M none sh M' := by
  refine amet_of (by decide +kernel) (Nat.le_of_ble_eq_true rfl) (fun Γ hC => ?_)
  replace hC : AOK Γ RX4 cX4_next 1 1 0 0 "next" none := hC
  unfold fX4_next at h
  refine aw_sub hC [some (.inr (.inr v0))] ⟨rfl, trivial⟩ (Nat.le_of_ble_eq_true rfl) ?_
  refine aw_aload_n (pc' := 1) (i := 0) hC dX4_next_0 rfl rfl rfl ?_
  obtain ⟨g1, h⟩ := gd_s h
  refine aw_getfield (pc' := 4) (v := (.inl (M v0 6))) hC dX4_next_1 rfl fl_X4_72 g1 rfl ?_
  refine aw_iconst (pc' := 5) hC dX4_next_4 rfl (by decide) ?_
  refine aw_iadd (pc' := 6) hC dX4_next_5 rfl  ?_
  refine aw_aload_n (pc' := 7) (i := 0) hC dX4_next_6 rfl rfl rfl ?_
  refine aw_getfield (pc' := 10) (v := (.inl (M v0 5))) hC dX4_next_7 rfl fl_X4_49 g1 rfl ?_
  refine aw_icmp_ge (tgt := 87) (pc' := 13) hC dX4_next_10 (by decide) rfl (fun c2 => ?_) (fun c2 => ?_)
  · replace h := it_n c2 h
    cases h
    exact aw_vret hC dX4_next_87 (Nat.le_of_ble_eq_true rfl) (Nat.le_of_ble_eq_true rfl)
  · replace h := it_p c2 h
    refine aw_aload_n (pc' := 14) (i := 0) hC dX4_next_13 rfl rfl rfl ?_
    refine aw_getfield (pc' := 17) (v := (.inl (M v0 6))) hC dX4_next_14 rfl fl_X4_72 g1 rfl ?_
    refine aw_iconst (pc' := 18) hC dX4_next_17 rfl (by decide) ?_
    refine aw_iadd (pc' := 19) hC dX4_next_18 rfl  ?_
    refine aw_sipush (pc' := 22) hC dX4_next_19 rfl (by decide) ?_
    refine aw_icmp_gt (tgt := 87) (pc' := 25) hC dX4_next_22 (by decide) rfl (fun c3 => ?_) (fun c3 => ?_)
    · replace h := it_p c3 h
      cases h
      exact aw_vret hC dX4_next_87 (Nat.le_of_ble_eq_true rfl) (Nat.le_of_ble_eq_true rfl)
    · replace h := it_n c3 h
      refine aw_aload_n (pc' := 26) (i := 0) hC dX4_next_25 rfl rfl rfl ?_
      refine aw_dup (pc' := 27) hC dX4_next_26 rfl rfl ?_
      refine aw_getfield (pc' := 30) (v := (.inl (M v0 6))) hC dX4_next_27 rfl fl_X4_72 g1 rfl ?_
      refine aw_iconst (pc' := 31) hC dX4_next_30 rfl (by decide) ?_
      refine aw_iadd (pc' := 32) hC dX4_next_31 rfl  ?_
      obtain ⟨M4, e5, h⟩ := bd_s h
      refine aw_pf (pc' := 35) hC dX4_next_32 rfl fp_X4_72 g1 rfl trivial e5 ?_
      refine aw_aload_n (pc' := 36) (i := 0) hC dX4_next_35 rfl rfl rfl ?_
      refine aw_aload_n (pc' := 37) (i := 0) hC dX4_next_36 rfl rfl rfl ?_
      refine aw_getfield (pc' := 40) (v := (.inr (.inr (M4 v0 1)))) hC dX4_next_37 rfl fl_X4_15 g1 rfl ?_
      refine aw_aload_n (pc' := 41) (i := 0) hC dX4_next_40 rfl rfl rfl ?_
      refine aw_getfield (pc' := 44) (v := (.inl (M4 v0 6))) hC dX4_next_41 rfl fl_X4_72 g1 rfl ?_
      obtain ⟨g6, h⟩ := gd_s h
      refine aw_iaload (pc' := 45) hC dX4_next_44 rfl g6 ?_
      obtain ⟨M7, e8, h⟩ := bd_s h
      refine aw_pf (pc' := 48) hC dX4_next_45 rfl fp_X4_56 g1 rfl trivial e8 ?_
      refine aw_aload_n (pc' := 49) (i := 0) hC dX4_next_48 rfl rfl rfl ?_
      refine aw_aload_n (pc' := 50) (i := 0) hC dX4_next_49 rfl rfl rfl ?_
      refine aw_getfield (pc' := 53) (v := (.inr (.inr (M7 v0 2)))) hC dX4_next_50 rfl fl_X4_19 g1 rfl ?_
      refine aw_aload_n (pc' := 54) (i := 0) hC dX4_next_53 rfl rfl rfl ?_
      refine aw_getfield (pc' := 57) (v := (.inl (M7 v0 6))) hC dX4_next_54 rfl fl_X4_72 g1 rfl ?_
      obtain ⟨g9, h⟩ := gd_s h
      refine aw_iaload (pc' := 58) hC dX4_next_57 rfl g9 ?_
      obtain ⟨M10, e11, h⟩ := bd_s h
      refine aw_pf (pc' := 61) hC dX4_next_58 rfl fp_X4_63 g1 rfl trivial e11 ?_
      refine aw_aload_n (pc' := 62) (i := 0) hC dX4_next_61 rfl rfl rfl ?_
      refine aw_aload_n (pc' := 63) (i := 0) hC dX4_next_62 rfl rfl rfl ?_
      refine aw_getfield (pc' := 66) (v := (.inr (.inr (M10 v0 3)))) hC dX4_next_63 rfl fl_X4_22 g1 rfl ?_
      refine aw_aload_n (pc' := 67) (i := 0) hC dX4_next_66 rfl rfl rfl ?_
      refine aw_getfield (pc' := 70) (v := (.inl (M10 v0 6))) hC dX4_next_67 rfl fl_X4_72 g1 rfl ?_
      obtain ⟨g12, h⟩ := gd_s h
      refine aw_iaload (pc' := 71) hC dX4_next_70 rfl g12 ?_
      obtain ⟨M13, e14, h⟩ := bd_s h
      refine aw_pf (pc' := 74) hC dX4_next_71 rfl fp_X4_66 g1 rfl trivial e14 ?_
      refine aw_aload_n (pc' := 75) (i := 0) hC dX4_next_74 rfl rfl rfl ?_
      refine aw_aload_n (pc' := 76) (i := 0) hC dX4_next_75 rfl rfl rfl ?_
      refine aw_getfield (pc' := 79) (v := (.inr (.inr (M13 v0 4)))) hC dX4_next_76 rfl fl_X4_25 g1 rfl ?_
      refine aw_aload_n (pc' := 80) (i := 0) hC dX4_next_79 rfl rfl rfl ?_
      refine aw_getfield (pc' := 83) (v := (.inl (M13 v0 6))) hC dX4_next_80 rfl fl_X4_72 g1 rfl ?_
      obtain ⟨g15, h⟩ := gd_s h
      refine aw_iaload (pc' := 84) hC dX4_next_83 rfl g15 ?_
      obtain ⟨M16, e17, h⟩ := bd_s h
      refine aw_pf (pc' := 87) hC dX4_next_84 rfl fp_X4_69 g1 rfl trivial e17 ?_
      cases h
      exact aw_vret hC dX4_next_87 (Nat.le_of_ble_eq_true rfl) (Nat.le_of_ble_eq_true rfl)
-- CoinCircle$Scanner.read([BI)V
def fX4_read_L35 (sh : AwS) (v0 : Int) (v1 : Int) (v3 : Int) (v4 : Int) (M : AwM) : Option ((Int × AwM) ⊕ (AwM)) :=
  (if 1600 < v4 then some (.inr M) else gd_ (kd_ sh v0 = (0, 4)) ((if (M v0 8) = 0 then some (.inr M) else (if (M v0 8) = 5 then some (.inr M) else pb (fX4_readOne sh M v0 v1 v3) <| u1 fun (M20 : AwM) => (gd_ ((kd_ sh (M20 v0 1)).1 = 1 ∧ (0 : Int) ≤ v4 ∧ v4 < ((kd_ sh (M20 v0 1)).2 : Int)) (bd_ (up_ M20 (M20 v0 1) v4 (M20 v0 8)) fun (M22 : AwM) => (gd_ ((kd_ sh (M22 v0 2)).1 = 1 ∧ (0 : Int) ≤ v4 ∧ v4 < ((kd_ sh (M22 v0 2)).2 : Int)) (bd_ (up_ M22 (M22 v0 2) v4 (M22 v0 9)) fun (M25 : AwM) => (gd_ ((kd_ sh (M25 v0 3)).1 = 1 ∧ (0 : Int) ≤ v4 ∧ v4 < ((kd_ sh (M25 v0 3)).2 : Int)) (bd_ (up_ M25 (M25 v0 3) v4 (M25 v0 10)) fun (M28 : AwM) => (gd_ ((kd_ sh (M28 v0 4)).1 = 1 ∧ (0 : Int) ≤ v4 ∧ v4 < ((kd_ sh (M28 v0 4)).2 : Int)) (bd_ (up_ M28 (M28 v0 4) v4 (M28 v0 11)) fun (M31 : AwM) => (bd_ (up_ M31 v0 5 (w32 ((M31 v0 5) + 1))) fun (M33 : AwM) => (some (.inl ((w32 (v4 + 1)), M33))))))))))))))))
def p_X4_read_L35 (Γ : AwC) (sh : AwS) (v0 : Int) (v1 : Int) (v3 : Int) (Q : State → Prop) (s : Int × AwM) : Prop := AW Γ sh (s.2) 0 0 35 [some (.inr (.inr v0)), some (.inr (.inr v1)), none, some (.inl v3), some (.inl (s.1))] [] Q
def x_X4_read_L35 (Γ : AwC) (sh : AwS) (v0 : Int) (v1 : Int) (v3 : Int) (Q : State → Prop) : (AwM) → Prop := (fun (t : AwM) => AW Γ sh (t) 0 0 124 [some (.inr (.inr v0)), none, none, none, none] [] Q)
def fX4_read (sh : AwS) (M : AwM) (v0 : Int) (v1 : Int) (v2 : Int) : Option (AwM) :=
  gd_ (1 ≤ (kd_ sh v1).1 ∧ (kd_ sh v1).1 ≤ 5 ∧ (kd_ sh v1).2 ≤ 2147483647) (pb (fJ9_min_7cf53 sh M 1600 ((kd_ sh v1).2 : Int)) <| u1 fun (x3 : Int) => (pb (fJ9_min_7cf53 sh M v2 x3) <| u1 fun (x5 : Int) => (pb (fJ9_max_7cf53 sh M 0 x5) <| u1 fun (x7 : Int) => (gd_ (kd_ sh v0 = (0, 4)) (bd_ (up_ M v0 5 0) fun (M9 : AwM) => (bd_ (up_ M9 v0 7 0) fun (M11 : AwM) => (bd_ (up_ M11 v0 8 1) fun (M13 : AwM) => (pb (lp (u2 (fX4_read_L35 sh v0 v1 x7)) FU (0, M13)) (u1 (fun (tq35 : AwM) => bd_ (up_ tq35 v0 6 (-1)) fun (M36 : AwM) => (pb (fX4_next sh M36 v0) <| u1 fun (M39 : AwM) => (some M39))))))))))))
set_option maxRecDepth 100000 in
set_option maxHeartbeats 4000000 in
theorem w_X4_read_L35 {Γ : AwC} (hC : AOK Γ RX4 cX4_read 5 9 0 0 "read" none) {sh : AwS} {v0 : Int} {v1 : Int} {v3 : Int} {Q : State → Prop} : ∀ s r, u2 (fX4_read_L35 sh v0 v1 v3) s = some r → (∀ s', r = .inl s' → p_X4_read_L35 Γ sh v0 v1 v3 Q s') → (∀ t, r = .inr t → x_X4_read_L35 Γ sh v0 v1 v3 Q t) → p_X4_read_L35 Γ sh v0 v1 v3 Q s := by
  intro s r h hL hX
  obtain ⟨v4, M⟩ := s
  replace h := u2_s h
  unfold fX4_read_L35 at h
  show AW Γ sh M 0 0 35 [some (.inr (.inr v0)), some (.inr (.inr v1)), none, some (.inl v3), some (.inl v4)] [] Q
  refine aw_iload (pc' := 37) hC dX4_read_35 rfl rfl ?_
  refine aw_sipush (pc' := 40) hC dX4_read_37 rfl (by decide) ?_
  refine aw_icmp_gt (tgt := 124) (pc' := 43) hC dX4_read_40 (by decide) rfl (fun c15 => ?_) (fun c15 => ?_)
  · replace h := it_p c15 h
    refine aw_sub hC [some (.inr (.inr v0)), none, none, none, none] ⟨rfl, trivial⟩ (Nat.le_of_ble_eq_true rfl) ?_
    cases h
    exact hX _ rfl
  · replace h := it_n c15 h
    refine aw_aload_n (pc' := 44) (i := 0) hC dX4_read_43 rfl rfl rfl ?_
    obtain ⟨g16, h⟩ := gd_s h
    refine aw_getfield (pc' := 47) (v := (.inl (M v0 8))) hC dX4_read_44 rfl fl_X4_56 g16 rfl ?_
    refine aw_if_eq (tgt := 124) (pc' := 50) hC dX4_read_47 (by decide) rfl (fun c17 => ?_) (fun c17 => ?_)
    · replace h := it_p c17 h
      refine aw_sub hC [some (.inr (.inr v0)), none, none, none, none] ⟨rfl, trivial⟩ (Nat.le_of_ble_eq_true rfl) ?_
      cases h
      exact hX _ rfl
    · replace h := it_n c17 h
      refine aw_aload_n (pc' := 51) (i := 0) hC dX4_read_50 rfl rfl rfl ?_
      refine aw_getfield (pc' := 54) (v := (.inl (M v0 8))) hC dX4_read_51 rfl fl_X4_56 g16 rfl ?_
      refine aw_iconst (pc' := 55) hC dX4_read_54 rfl (by decide) ?_
      refine aw_icmp_eq (tgt := 124) (pc' := 58) hC dX4_read_55 (by decide) rfl (fun c18 => ?_) (fun c18 => ?_)
      · replace h := it_p c18 h
        refine aw_sub hC [some (.inr (.inr v0)), none, none, none, none] ⟨rfl, trivial⟩ (Nat.le_of_ble_eq_true rfl) ?_
        cases h
        exact hX _ rfl
      · replace h := it_n c18 h
        refine aw_aload_n (pc' := 59) (i := 0) hC dX4_read_58 rfl rfl rfl ?_
        refine aw_aload_n (pc' := 60) (i := 1) hC dX4_read_59 rfl rfl rfl ?_
        refine aw_iload_n (pc' := 61) (i := 3) hC dX4_read_60 rfl rfl rfl ?_
        obtain ⟨M20, q19, h⟩ := pb_s h
        replace h := u1_s h
        refine aw_cV (pc' := 64) (k2 := 0) (n2 := 0) (st := []) (stN := []) hC [.inr (.inr v1), .inl v3] (mX4_readOne q19) lk_X4_59 g16 dX4_read_61 rfl rfl (Nat.le_of_ble_eq_true rfl) (Nat.le_of_ble_eq_true rfl) (Nat.le_of_ble_eq_true rfl) rfl (Nat.le_of_ble_eq_true rfl) rfl rfl rfl ?_
        refine aw_aload_n (pc' := 65) (i := 0) hC dX4_read_64 rfl rfl rfl ?_
        refine aw_getfield (pc' := 68) (v := (.inr (.inr (M20 v0 1)))) hC dX4_read_65 rfl fl_X4_15 g16 rfl ?_
        refine aw_iload (pc' := 70) hC dX4_read_68 rfl rfl ?_
        refine aw_aload_n (pc' := 71) (i := 0) hC dX4_read_70 rfl rfl rfl ?_
        refine aw_getfield (pc' := 74) (v := (.inl (M20 v0 8))) hC dX4_read_71 rfl fl_X4_56 g16 rfl ?_
        obtain ⟨g21, h⟩ := gd_s h
        obtain ⟨M22, e23, h⟩ := bd_s h
        refine aw_ias (pc' := 75) hC dX4_read_74 rfl g21 e23 ?_
        refine aw_aload_n (pc' := 76) (i := 0) hC dX4_read_75 rfl rfl rfl ?_
        refine aw_getfield (pc' := 79) (v := (.inr (.inr (M22 v0 2)))) hC dX4_read_76 rfl fl_X4_19 g16 rfl ?_
        refine aw_iload (pc' := 81) hC dX4_read_79 rfl rfl ?_
        refine aw_aload_n (pc' := 82) (i := 0) hC dX4_read_81 rfl rfl rfl ?_
        refine aw_getfield (pc' := 85) (v := (.inl (M22 v0 9))) hC dX4_read_82 rfl fl_X4_63 g16 rfl ?_
        obtain ⟨g24, h⟩ := gd_s h
        obtain ⟨M25, e26, h⟩ := bd_s h
        refine aw_ias (pc' := 86) hC dX4_read_85 rfl g24 e26 ?_
        refine aw_aload_n (pc' := 87) (i := 0) hC dX4_read_86 rfl rfl rfl ?_
        refine aw_getfield (pc' := 90) (v := (.inr (.inr (M25 v0 3)))) hC dX4_read_87 rfl fl_X4_22 g16 rfl ?_
        refine aw_iload (pc' := 92) hC dX4_read_90 rfl rfl ?_
        refine aw_aload_n (pc' := 93) (i := 0) hC dX4_read_92 rfl rfl rfl ?_
        refine aw_getfield (pc' := 96) (v := (.inl (M25 v0 10))) hC dX4_read_93 rfl fl_X4_66 g16 rfl ?_
        obtain ⟨g27, h⟩ := gd_s h
        obtain ⟨M28, e29, h⟩ := bd_s h
        refine aw_ias (pc' := 97) hC dX4_read_96 rfl g27 e29 ?_
        refine aw_aload_n (pc' := 98) (i := 0) hC dX4_read_97 rfl rfl rfl ?_
        refine aw_getfield (pc' := 101) (v := (.inr (.inr (M28 v0 4)))) hC dX4_read_98 rfl fl_X4_25 g16 rfl ?_
        refine aw_iload (pc' := 103) hC dX4_read_101 rfl rfl ?_
        refine aw_aload_n (pc' := 104) (i := 0) hC dX4_read_103 rfl rfl rfl ?_
        refine aw_getfield (pc' := 107) (v := (.inl (M28 v0 11))) hC dX4_read_104 rfl fl_X4_69 g16 rfl ?_
        obtain ⟨g30, h⟩ := gd_s h
        obtain ⟨M31, e32, h⟩ := bd_s h
        refine aw_ias (pc' := 108) hC dX4_read_107 rfl g30 e32 ?_
        refine aw_aload_n (pc' := 109) (i := 0) hC dX4_read_108 rfl rfl rfl ?_
        refine aw_dup (pc' := 110) hC dX4_read_109 rfl rfl ?_
        refine aw_getfield (pc' := 113) (v := (.inl (M31 v0 5))) hC dX4_read_110 rfl fl_X4_49 g16 rfl ?_
        refine aw_iconst (pc' := 114) hC dX4_read_113 rfl (by decide) ?_
        refine aw_iadd (pc' := 115) hC dX4_read_114 rfl  ?_
        obtain ⟨M33, e34, h⟩ := bd_s h
        refine aw_pf (pc' := 118) hC dX4_read_115 rfl fp_X4_49 g16 rfl trivial e34 ?_
        refine aw_iinc (pc' := 121) (ls' := [some (.inr (.inr v0)), some (.inr (.inr v1)), none, some (.inl v3), some (.inl (w32 (v4 + 1)))]) hC dX4_read_118 rfl rfl rfl rfl ?_
        refine aw_goto (tgt := 35) hC dX4_read_121 (by decide) ?_
        refine aw_sub hC [some (.inr (.inr v0)), some (.inr (.inr v1)), none, some (.inl v3), some (.inl (w32 (v4 + 1)))] ⟨rfl, ⟨rfl, ⟨rfl, ⟨rfl, trivial⟩⟩⟩⟩ (Nat.le_of_ble_eq_true rfl) ?_
        cases h
        exact hL _ rfl
set_option maxRecDepth 100000 in
set_option maxHeartbeats 4000000 in
theorem mX4_read {sh : AwS} {M : AwM} {v0 : Int} {v1 : Int} {v2 : Int} {M' : AwM} (h : fX4_read sh M v0 v1 v2 = some M') : AMet yX4_read cX4_read 5 none 9 0 0 [.inr (.inr v0), .inr (.inr v1), .inl v2] sh M none sh M' := by
  refine amet_of (by decide +kernel) (Nat.le_of_ble_eq_true rfl) (fun Γ hC => ?_)
  replace hC : AOK Γ RX4 cX4_read 5 9 0 0 "read" none := hC
  unfold fX4_read at h
  refine aw_sub hC [some (.inr (.inr v0)), some (.inr (.inr v1)), some (.inl v2), none, none] ⟨rfl, ⟨rfl, ⟨rfl, trivial⟩⟩⟩ (Nat.le_of_ble_eq_true rfl) ?_
  refine aw_iconst (pc' := 1) hC dX4_read_0 rfl (by decide) ?_
  refine aw_iload_n (pc' := 2) (i := 2) hC dX4_read_1 rfl rfl rfl ?_
  refine aw_sipush (pc' := 5) hC dX4_read_2 rfl (by decide) ?_
  refine aw_aload_n (pc' := 6) (i := 1) hC dX4_read_5 rfl rfl rfl ?_
  obtain ⟨g1, h⟩ := gd_s h
  refine aw_alen (pc' := 7) (v := ((kd_ sh v1).2 : Int)) hC dX4_read_6 rfl g1 rfl ?_
  obtain ⟨x3, q2, h⟩ := pb_s h
  replace h := u1_s h
  refine aw_cS (pc' := 10) (k2 := 0) (n2 := 0) (st := [.inl v2, .inl 0]) (stN := [.inl x3, .inl v2, .inl 0]) hC [.inl 1600, .inl ((kd_ sh v1).2 : Int)] (mJ9_min_7cf53 q2) lk_X4_40 dX4_read_7 rfl rfl (Nat.le_of_ble_eq_true rfl) (Nat.le_of_ble_eq_true rfl) (Nat.le_of_ble_eq_true rfl) rfl (Nat.le_of_ble_eq_true rfl) rfl rfl rfl ?_
  obtain ⟨x5, q4, h⟩ := pb_s h
  replace h := u1_s h
  refine aw_cS (pc' := 13) (k2 := 0) (n2 := 0) (st := [.inl 0]) (stN := [.inl x5, .inl 0]) hC [.inl v2, .inl x3] (mJ9_min_7cf53 q4) lk_X4_40 dX4_read_10 rfl rfl (Nat.le_of_ble_eq_true rfl) (Nat.le_of_ble_eq_true rfl) (Nat.le_of_ble_eq_true rfl) rfl (Nat.le_of_ble_eq_true rfl) rfl rfl rfl ?_
  obtain ⟨x7, q6, h⟩ := pb_s h
  replace h := u1_s h
  refine aw_cS (pc' := 16) (k2 := 0) (n2 := 0) (st := []) (stN := [.inl x7]) hC [.inl 0, .inl x5] (mJ9_max_7cf53 q6) lk_X4_46 dX4_read_13 rfl rfl (Nat.le_of_ble_eq_true rfl) (Nat.le_of_ble_eq_true rfl) (Nat.le_of_ble_eq_true rfl) rfl (Nat.le_of_ble_eq_true rfl) rfl rfl rfl ?_
  refine aw_istore_n (pc' := 17) (i := 3) (ls' := [some (.inr (.inr v0)), some (.inr (.inr v1)), some (.inl v2), some (.inl x7), none]) hC dX4_read_16 rfl rfl (Nat.le_of_ble_eq_true rfl) rfl rfl ?_
  refine aw_aload_n (pc' := 18) (i := 0) hC dX4_read_17 rfl rfl rfl ?_
  refine aw_iconst (pc' := 19) hC dX4_read_18 rfl (by decide) ?_
  obtain ⟨g8, h⟩ := gd_s h
  obtain ⟨M9, e10, h⟩ := bd_s h
  refine aw_pf (pc' := 22) hC dX4_read_19 rfl fp_X4_49 g8 rfl trivial e10 ?_
  refine aw_aload_n (pc' := 23) (i := 0) hC dX4_read_22 rfl rfl rfl ?_
  refine aw_iconst (pc' := 24) hC dX4_read_23 rfl (by decide) ?_
  obtain ⟨M11, e12, h⟩ := bd_s h
  refine aw_pf (pc' := 27) hC dX4_read_24 rfl fp_X4_53 g8 rfl trivial e12 ?_
  refine aw_aload_n (pc' := 28) (i := 0) hC dX4_read_27 rfl rfl rfl ?_
  refine aw_iconst (pc' := 29) hC dX4_read_28 rfl (by decide) ?_
  obtain ⟨M13, e14, h⟩ := bd_s h
  refine aw_pf (pc' := 32) hC dX4_read_29 rfl fp_X4_56 g8 rfl trivial e14 ?_
  refine aw_iconst (pc' := 33) hC dX4_read_32 rfl (by decide) ?_
  refine aw_istore (pc' := 35) (ls' := [some (.inr (.inr v0)), some (.inr (.inr v1)), some (.inl v2), some (.inl x7), some (.inl 0)]) hC dX4_read_33 rfl (Nat.le_of_ble_eq_true rfl) rfl rfl ?_
  obtain ⟨tq35, q35, h⟩ := pb_s h
  refine aw_sub hC [some (.inr (.inr v0)), some (.inr (.inr v1)), none, some (.inl x7), some (.inl 0)] ⟨rfl, ⟨rfl, ⟨rfl, ⟨rfl, trivial⟩⟩⟩⟩ (Nat.le_of_ble_eq_true rfl) ?_
  refine (lp_aw (p_X4_read_L35 Γ sh v0 v1 x7 (fin_ Γ 0 0 none sh M')) (x_X4_read_L35 Γ sh v0 v1 x7 (fin_ Γ 0 0 none sh M')) (w_X4_read_L35 hC ) FU _ _ q35 ?_ : p_X4_read_L35 Γ sh v0 v1 x7 (fin_ Γ 0 0 none sh M') (0, M13))
  replace h := u1_s h
  show AW Γ sh tq35 0 0 124 [some (.inr (.inr v0)), none, none, none, none] [] _
  refine aw_aload_n (pc' := 125) (i := 0) hC dX4_read_124 rfl rfl rfl ?_
  refine aw_iconst (pc' := 126) hC dX4_read_125 rfl (by decide) ?_
  obtain ⟨M36, e37, h⟩ := bd_s h
  refine aw_pf (pc' := 129) hC dX4_read_126 rfl fp_X4_72 g8 rfl trivial e37 ?_
  refine aw_aload_n (pc' := 130) (i := 0) hC dX4_read_129 rfl rfl rfl ?_
  obtain ⟨M39, q38, h⟩ := pb_s h
  replace h := u1_s h
  refine aw_cV (pc' := 133) (k2 := 0) (n2 := 0) (st := []) (stN := []) hC [] (mX4_next q38) lk_X4_75 g8 dX4_read_130 rfl rfl (Nat.le_of_ble_eq_true rfl) (Nat.le_of_ble_eq_true rfl) (Nat.le_of_ble_eq_true rfl) rfl (Nat.le_of_ble_eq_true rfl) rfl rfl rfl ?_
  cases h
  exact aw_vret hC dX4_read_133 (Nat.le_of_ble_eq_true rfl) (Nat.le_of_ble_eq_true rfl)
-- CoinCircle$Teller.fail(I)Z
def fX6_fail (sh : AwS) (M : AwM) (v0 : Int) (v1 : Int) : Option (Int × AwM) :=
  gd_ (kd_ sh v0 = (0, 6)) (bd_ (up_ M v0 4 v1) fun (M2 : AwM) => ((if v1 = 1 then gd_ (kd_ sh (M2 v0 0) = (0, 4)) (bd_ (up_ M2 v0 5 (M2 (M2 v0 0) 11)) fun (M9 : AwM) => (some (0, M9))) else gd_ (kd_ sh (M2 v0 0) = (0, 4)) (bd_ (up_ M2 v0 5 (M2 (M2 v0 0) 10)) fun (M6 : AwM) => (some (0, M6))))))
set_option maxRecDepth 100000 in
set_option maxHeartbeats 4000000 in
theorem mX6_fail {sh : AwS} {M : AwM} {v0 : Int} {v1 : Int} {r : Int} {M' : AwM} (h : fX6_fail sh M v0 v1 = some (r, M')) : AMet yX6_fail cX6_fail 2 (some .boolean) 1 0 0 [.inr (.inr v0), .inl v1] sh M (some (.inl r)) sh M' := by
  refine amet_of (by decide +kernel) (Nat.le_of_ble_eq_true rfl) (fun Γ hC => ?_)
  replace hC : AOK Γ RX6 cX6_fail 2 1 0 0 "fail" (some .boolean) := hC
  unfold fX6_fail at h
  refine aw_sub hC [some (.inr (.inr v0)), some (.inl v1)] ⟨rfl, ⟨rfl, trivial⟩⟩ (Nat.le_of_ble_eq_true rfl) ?_
  refine aw_aload_n (pc' := 1) (i := 0) hC dX6_fail_0 rfl rfl rfl ?_
  refine aw_iload_n (pc' := 2) (i := 1) hC dX6_fail_1 rfl rfl rfl ?_
  obtain ⟨g1, h⟩ := gd_s h
  obtain ⟨M2, e3, h⟩ := bd_s h
  refine aw_pf (pc' := 5) hC dX6_fail_2 rfl fp_X6_42 g1 rfl trivial e3 ?_
  refine aw_aload_n (pc' := 6) (i := 0) hC dX6_fail_5 rfl rfl rfl ?_
  refine aw_iload_n (pc' := 7) (i := 1) hC dX6_fail_6 rfl rfl rfl ?_
  refine aw_iconst (pc' := 8) hC dX6_fail_7 rfl (by decide) ?_
  refine aw_icmp_ne (tgt := 21) (pc' := 11) hC dX6_fail_8 (by decide) rfl (fun c4 => ?_) (fun c4 => ?_)
  · replace h := it_n c4 h
    refine aw_aload_n (pc' := 22) (i := 0) hC dX6_fail_21 rfl rfl rfl ?_
    refine aw_getfield (pc' := 25) (v := (.inr (.inr (M2 v0 0)))) hC dX6_fail_22 rfl fl_X6_12 g1 rfl ?_
    obtain ⟨g5, h⟩ := gd_s h
    refine aw_getfield (pc' := 28) (v := (.inl (M2 (M2 v0 0) 10))) hC dX6_fail_25 rfl fl_X6_157 g5 rfl ?_
    obtain ⟨M6, e7, h⟩ := bd_s h
    refine aw_pf (pc' := 31) hC dX6_fail_28 rfl fp_X6_32 g1 rfl trivial e7 ?_
    refine aw_iconst (pc' := 32) hC dX6_fail_31 rfl (by decide) ?_
    cases h
    exact aw_zret hC (Or.inl rfl) dX6_fail_32 (Nat.le_of_ble_eq_true rfl) (Nat.le_of_ble_eq_true rfl)
  · replace h := it_p c4 h
    refine aw_aload_n (pc' := 12) (i := 0) hC dX6_fail_11 rfl rfl rfl ?_
    refine aw_getfield (pc' := 15) (v := (.inr (.inr (M2 v0 0)))) hC dX6_fail_12 rfl fl_X6_12 g1 rfl ?_
    obtain ⟨g8, h⟩ := gd_s h
    refine aw_getfield (pc' := 18) (v := (.inl (M2 (M2 v0 0) 11))) hC dX6_fail_15 rfl fl_X6_156 g8 rfl ?_
    refine aw_goto (tgt := 28) hC dX6_fail_18 (by decide) ?_
    obtain ⟨M9, e10, h⟩ := bd_s h
    refine aw_pf (pc' := 31) hC dX6_fail_28 rfl fp_X6_32 g1 rfl trivial e10 ?_
    refine aw_iconst (pc' := 32) hC dX6_fail_31 rfl (by decide) ?_
    cases h
    exact aw_zret hC (Or.inl rfl) dX6_fail_32 (Nat.le_of_ble_eq_true rfl) (Nat.le_of_ble_eq_true rfl)
-- CoinCircle$Society.most(I)I
def fX5_most (sh : AwS) (M : AwM) (v0 : Int) : Option Int :=
  (if v0 = 0 then some 10 else (if v0 = 1 then some 12 else some 10))
set_option maxRecDepth 100000 in
set_option maxHeartbeats 4000000 in
theorem mX5_most {sh : AwS} {M : AwM} {v0 : Int} {r : Int} (h : fX5_most sh M v0 = some r) : AMet yX5_most cX5_most 1 (some .int) 1 0 0 [.inl v0] sh M (some (.inl r)) sh M := by
  refine amet_of (by decide +kernel) (Nat.le_of_ble_eq_true rfl) (fun Γ hC => ?_)
  replace hC : AOK Γ RX5 cX5_most 1 1 0 0 "most" (some .int) := hC
  unfold fX5_most at h
  refine aw_sub hC [some (.inl v0)] ⟨rfl, trivial⟩ (Nat.le_of_ble_eq_true rfl) ?_
  refine aw_iload_n (pc' := 1) (i := 0) hC dX5_most_0 rfl rfl rfl ?_
  refine aw_if_ne (tgt := 9) (pc' := 4) hC dX5_most_1 (by decide) rfl (fun c1 => ?_) (fun c1 => ?_)
  · replace h := it_n c1 h
    refine aw_iload_n (pc' := 10) (i := 0) hC dX5_most_9 rfl rfl rfl ?_
    refine aw_iconst (pc' := 11) hC dX5_most_10 rfl (by decide) ?_
    refine aw_icmp_ne (tgt := 19) (pc' := 14) hC dX5_most_11 (by decide) rfl (fun c2 => ?_) (fun c2 => ?_)
    · replace h := it_n c2 h
      refine aw_bipush (pc' := 21) hC dX5_most_19 rfl (by decide) ?_
      cases h
      exact aw_iret hC dX5_most_21 (Nat.le_of_ble_eq_true rfl) (Nat.le_of_ble_eq_true rfl)
    · replace h := it_p c2 h
      refine aw_bipush (pc' := 16) hC dX5_most_14 rfl (by decide) ?_
      refine aw_goto (tgt := 21) hC dX5_most_16 (by decide) ?_
      cases h
      exact aw_iret hC dX5_most_21 (Nat.le_of_ble_eq_true rfl) (Nat.le_of_ble_eq_true rfl)
  · replace h := it_p c1 h
    refine aw_bipush (pc' := 6) hC dX5_most_4 rfl (by decide) ?_
    refine aw_goto (tgt := 21) hC dX5_most_6 (by decide) ?_
    cases h
    exact aw_iret hC dX5_most_21 (Nat.le_of_ble_eq_true rfl) (Nat.le_of_ble_eq_true rfl)
-- CoinCircle$Society.isFull(I)Z
def fX5_isFull (sh : AwS) (M : AwM) (v0 : Int) (v1 : Int) : Option Int :=
  (if v1 < 0 then some 1 else (if v1 < 3 then gd_ (kd_ sh v0 = (0, 5)) (gd_ ((kd_ sh (M v0 0)).1 = 1 ∧ (0 : Int) ≤ v1 ∧ v1 < ((kd_ sh (M v0 0)).2 : Int)) (pb (fX5_most sh M v1) <| u1 fun (x6 : Int) => ((if (M (M v0 0) v1) < x6 then some 0 else some 1)))) else some 1))
set_option maxRecDepth 100000 in
set_option maxHeartbeats 4000000 in
theorem mX5_isFull {sh : AwS} {M : AwM} {v0 : Int} {v1 : Int} {r : Int} (h : fX5_isFull sh M v0 v1 = some r) : AMet yX5_isFull cX5_isFull 2 (some .boolean) 2 0 0 [.inr (.inr v0), .inl v1] sh M (some (.inl r)) sh M := by
  refine amet_of (by decide +kernel) (Nat.le_of_ble_eq_true rfl) (fun Γ hC => ?_)
  replace hC : AOK Γ RX5 cX5_isFull 2 2 0 0 "isFull" (some .boolean) := hC
  unfold fX5_isFull at h
  refine aw_sub hC [some (.inr (.inr v0)), some (.inl v1)] ⟨rfl, ⟨rfl, trivial⟩⟩ (Nat.le_of_ble_eq_true rfl) ?_
  refine aw_iload_n (pc' := 1) (i := 1) hC dX5_isFull_0 rfl rfl rfl ?_
  refine aw_if_lt (tgt := 22) (pc' := 4) hC dX5_isFull_1 (by decide) rfl (fun c1 => ?_) (fun c1 => ?_)
  · replace h := it_p c1 h
    refine aw_iconst (pc' := 23) hC dX5_isFull_22 rfl (by decide) ?_
    refine aw_goto (tgt := 27) hC dX5_isFull_23 (by decide) ?_
    cases h
    exact aw_zret hC (Or.inr rfl) dX5_isFull_27 (Nat.le_of_ble_eq_true rfl) (Nat.le_of_ble_eq_true rfl)
  · replace h := it_n c1 h
    refine aw_iload_n (pc' := 5) (i := 1) hC dX5_isFull_4 rfl rfl rfl ?_
    refine aw_iconst (pc' := 6) hC dX5_isFull_5 rfl (by decide) ?_
    refine aw_icmp_ge (tgt := 22) (pc' := 9) hC dX5_isFull_6 (by decide) rfl (fun c2 => ?_) (fun c2 => ?_)
    · replace h := it_n c2 h
      refine aw_iconst (pc' := 23) hC dX5_isFull_22 rfl (by decide) ?_
      refine aw_goto (tgt := 27) hC dX5_isFull_23 (by decide) ?_
      cases h
      exact aw_zret hC (Or.inr rfl) dX5_isFull_27 (Nat.le_of_ble_eq_true rfl) (Nat.le_of_ble_eq_true rfl)
    · replace h := it_p c2 h
      refine aw_aload_n (pc' := 10) (i := 0) hC dX5_isFull_9 rfl rfl rfl ?_
      obtain ⟨g3, h⟩ := gd_s h
      refine aw_getfield (pc' := 13) (v := (.inr (.inr (M v0 0)))) hC dX5_isFull_10 rfl fl_X5_9 g3 rfl ?_
      refine aw_iload_n (pc' := 14) (i := 1) hC dX5_isFull_13 rfl rfl rfl ?_
      obtain ⟨g4, h⟩ := gd_s h
      refine aw_iaload (pc' := 15) hC dX5_isFull_14 rfl g4 ?_
      refine aw_iload_n (pc' := 16) (i := 1) hC dX5_isFull_15 rfl rfl rfl ?_
      obtain ⟨x6, q5, h⟩ := pb_s h
      replace h := u1_s h
      refine aw_cS (pc' := 19) (k2 := 0) (n2 := 0) (st := [.inl (M (M v0 0) v1)]) (stN := [.inl x6, .inl (M (M v0 0) v1)]) hC [.inl v1] (mX5_most q5) lk_X5_59 dX5_isFull_16 rfl rfl (Nat.le_of_ble_eq_true rfl) (Nat.le_of_ble_eq_true rfl) (Nat.le_of_ble_eq_true rfl) rfl (Nat.le_of_ble_eq_true rfl) rfl rfl rfl ?_
      refine aw_icmp_lt (tgt := 26) (pc' := 22) hC dX5_isFull_19 (by decide) rfl (fun c7 => ?_) (fun c7 => ?_)
      · replace h := it_p c7 h
        refine aw_iconst (pc' := 27) hC dX5_isFull_26 rfl (by decide) ?_
        cases h
        exact aw_zret hC (Or.inl rfl) dX5_isFull_27 (Nat.le_of_ble_eq_true rfl) (Nat.le_of_ble_eq_true rfl)
      · replace h := it_n c7 h
        refine aw_iconst (pc' := 23) hC dX5_isFull_22 rfl (by decide) ?_
        refine aw_goto (tgt := 27) hC dX5_isFull_23 (by decide) ?_
        cases h
        exact aw_zret hC (Or.inr rfl) dX5_isFull_27 (Nat.le_of_ble_eq_true rfl) (Nat.le_of_ble_eq_true rfl)
-- CoinCircle$Society.isThere(II)Z
def fX5_isThere (sh : AwS) (M : AwM) (v0 : Int) (v1 : Int) (v2 : Int) : Option Int :=
  (if v1 < 0 then some 0 else (if v1 < 3 then (if v2 < 0 then some 0 else gd_ (kd_ sh v0 = (0, 5)) (gd_ ((kd_ sh (M v0 0)).1 = 1 ∧ (0 : Int) ≤ v1 ∧ v1 < ((kd_ sh (M v0 0)).2 : Int)) ((if v2 < (M (M v0 0) v1) then some 1 else some 0)))) else some 0))
set_option maxRecDepth 100000 in
set_option maxHeartbeats 4000000 in
theorem mX5_isThere {sh : AwS} {M : AwM} {v0 : Int} {v1 : Int} {v2 : Int} {r : Int} (h : fX5_isThere sh M v0 v1 v2 = some r) : AMet yX5_isThere cX5_isThere 3 (some .boolean) 1 0 0 [.inr (.inr v0), .inl v1, .inl v2] sh M (some (.inl r)) sh M := by
  refine amet_of (by decide +kernel) (Nat.le_of_ble_eq_true rfl) (fun Γ hC => ?_)
  replace hC : AOK Γ RX5 cX5_isThere 3 1 0 0 "isThere" (some .boolean) := hC
  unfold fX5_isThere at h
  refine aw_sub hC [some (.inr (.inr v0)), some (.inl v1), some (.inl v2)] ⟨rfl, ⟨rfl, ⟨rfl, trivial⟩⟩⟩ (Nat.le_of_ble_eq_true rfl) ?_
  refine aw_iload_n (pc' := 1) (i := 1) hC dX5_isThere_0 rfl rfl rfl ?_
  refine aw_if_lt (tgt := 27) (pc' := 4) hC dX5_isThere_1 (by decide) rfl (fun c1 => ?_) (fun c1 => ?_)
  · replace h := it_p c1 h
    refine aw_iconst (pc' := 28) hC dX5_isThere_27 rfl (by decide) ?_
    cases h
    exact aw_zret hC (Or.inl rfl) dX5_isThere_28 (Nat.le_of_ble_eq_true rfl) (Nat.le_of_ble_eq_true rfl)
  · replace h := it_n c1 h
    refine aw_iload_n (pc' := 5) (i := 1) hC dX5_isThere_4 rfl rfl rfl ?_
    refine aw_iconst (pc' := 6) hC dX5_isThere_5 rfl (by decide) ?_
    refine aw_icmp_ge (tgt := 27) (pc' := 9) hC dX5_isThere_6 (by decide) rfl (fun c2 => ?_) (fun c2 => ?_)
    · replace h := it_n c2 h
      refine aw_iconst (pc' := 28) hC dX5_isThere_27 rfl (by decide) ?_
      cases h
      exact aw_zret hC (Or.inl rfl) dX5_isThere_28 (Nat.le_of_ble_eq_true rfl) (Nat.le_of_ble_eq_true rfl)
    · replace h := it_p c2 h
      refine aw_iload_n (pc' := 10) (i := 2) hC dX5_isThere_9 rfl rfl rfl ?_
      refine aw_if_lt (tgt := 27) (pc' := 13) hC dX5_isThere_10 (by decide) rfl (fun c3 => ?_) (fun c3 => ?_)
      · replace h := it_p c3 h
        refine aw_iconst (pc' := 28) hC dX5_isThere_27 rfl (by decide) ?_
        cases h
        exact aw_zret hC (Or.inl rfl) dX5_isThere_28 (Nat.le_of_ble_eq_true rfl) (Nat.le_of_ble_eq_true rfl)
      · replace h := it_n c3 h
        refine aw_iload_n (pc' := 14) (i := 2) hC dX5_isThere_13 rfl rfl rfl ?_
        refine aw_aload_n (pc' := 15) (i := 0) hC dX5_isThere_14 rfl rfl rfl ?_
        obtain ⟨g4, h⟩ := gd_s h
        refine aw_getfield (pc' := 18) (v := (.inr (.inr (M v0 0)))) hC dX5_isThere_15 rfl fl_X5_9 g4 rfl ?_
        refine aw_iload_n (pc' := 19) (i := 1) hC dX5_isThere_18 rfl rfl rfl ?_
        obtain ⟨g5, h⟩ := gd_s h
        refine aw_iaload (pc' := 20) hC dX5_isThere_19 rfl g5 ?_
        refine aw_icmp_ge (tgt := 27) (pc' := 23) hC dX5_isThere_20 (by decide) rfl (fun c6 => ?_) (fun c6 => ?_)
        · replace h := it_n c6 h
          refine aw_iconst (pc' := 28) hC dX5_isThere_27 rfl (by decide) ?_
          cases h
          exact aw_zret hC (Or.inl rfl) dX5_isThere_28 (Nat.le_of_ble_eq_true rfl) (Nat.le_of_ble_eq_true rfl)
        · replace h := it_p c6 h
          refine aw_iconst (pc' := 24) hC dX5_isThere_23 rfl (by decide) ?_
          refine aw_goto (tgt := 28) hC dX5_isThere_24 (by decide) ?_
          cases h
          exact aw_zret hC (Or.inr rfl) dX5_isThere_28 (Nat.le_of_ble_eq_true rfl) (Nat.le_of_ble_eq_true rfl)
-- CoinCircle$Society.find(II)I
def fX5_find_L2 (sh : AwS) (M : AwM) (v0 : Int) (v1 : Int) (v2 : Int) (v3 : Int) : Option ((Int) ⊕ ((Unit) ⊕ (Int))) :=
  (if v3 < 12 then gd_ (kd_ sh v0 = (0, 5)) (pb (fX5_isThere sh M v0 v1 v3) <| u1 fun (x4 : Int) => ((if x4 = 0 then some (.inr (.inl ())) else gd_ ((kd_ sh (M v0 1)).1 = 1 ∧ (0 : Int) ≤ (w32 ((w32 (v1 * 12)) + v3)) ∧ (w32 ((w32 (v1 * 12)) + v3)) < ((kd_ sh (M v0 1)).2 : Int)) ((if (M (M v0 1) (w32 ((w32 (v1 * 12)) + v3))) = v2 then some (.inr (.inr v3)) else some (.inl (w32 (v3 + 1)))))))) else some (.inr (.inl ())))
def p_X5_find_L2 (Γ : AwC) (sh : AwS) (M : AwM) (v0 : Int) (v1 : Int) (v2 : Int) (Q : State → Prop) (s : Int) : Prop := AW Γ sh M 0 0 2 [some (.inr (.inr v0)), some (.inl v1), some (.inl v2), some (.inl (s))] [] Q
def x_X5_find_L2 (Γ : AwC) (sh : AwS) (M : AwM) (v0 : Int) (v1 : Int) (v2 : Int) (Q : State → Prop) : ((Unit) ⊕ (Int)) → Prop := (Sum.elim (fun (t : Unit) => AW Γ sh M 0 0 40 [none, none, none, none] [] Q) (fun (t : Int) => AW Γ sh M 0 0 32 [none, none, none, some (.inl (t))] [] Q))
def fX5_find (sh : AwS) (M : AwM) (v0 : Int) (v1 : Int) (v2 : Int) : Option Int :=
  pb (lp (u1 (fX5_find_L2 sh M v0 v1 v2)) FU 0) (Sum.elim (u0 (some (-1))) (u1 (fun (tq8 : Int) => some tq8)))
set_option maxRecDepth 100000 in
set_option maxHeartbeats 4000000 in
theorem w_X5_find_L2 {Γ : AwC} (hC : AOK Γ RX5 cX5_find 4 2 0 0 "find" (some .int)) {sh : AwS} {M : AwM} {v0 : Int} {v1 : Int} {v2 : Int} {Q : State → Prop} : ∀ s r, u1 (fX5_find_L2 sh M v0 v1 v2) s = some r → (∀ s', r = .inl s' → p_X5_find_L2 Γ sh M v0 v1 v2 Q s') → (∀ t, r = .inr t → x_X5_find_L2 Γ sh M v0 v1 v2 Q t) → p_X5_find_L2 Γ sh M v0 v1 v2 Q s := by
  intro v3 r h hL hX
  replace h := u1_s h
  unfold fX5_find_L2 at h
  show AW Γ sh M 0 0 2 [some (.inr (.inr v0)), some (.inl v1), some (.inl v2), some (.inl v3)] [] Q
  refine aw_iload_n (pc' := 3) (i := 3) hC dX5_find_2 rfl rfl rfl ?_
  refine aw_bipush (pc' := 5) hC dX5_find_3 rfl (by decide) ?_
  refine aw_icmp_ge (tgt := 40) (pc' := 8) hC dX5_find_5 (by decide) rfl (fun c1 => ?_) (fun c1 => ?_)
  · replace h := it_n c1 h
    refine aw_sub hC [none, none, none, none] trivial (Nat.le_of_ble_eq_true rfl) ?_
    cases h
    exact hX _ rfl
  · replace h := it_p c1 h
    refine aw_aload_n (pc' := 9) (i := 0) hC dX5_find_8 rfl rfl rfl ?_
    refine aw_iload_n (pc' := 10) (i := 1) hC dX5_find_9 rfl rfl rfl ?_
    refine aw_iload_n (pc' := 11) (i := 3) hC dX5_find_10 rfl rfl rfl ?_
    obtain ⟨g3, h⟩ := gd_s h
    obtain ⟨x4, q2, h⟩ := pb_s h
    replace h := u1_s h
    refine aw_cV (pc' := 14) (k2 := 0) (n2 := 0) (st := []) (stN := [.inl x4]) hC [.inl v1, .inl v3] (mX5_isThere q2) lk_X5_63 g3 dX5_find_11 rfl rfl (Nat.le_of_ble_eq_true rfl) (Nat.le_of_ble_eq_true rfl) (Nat.le_of_ble_eq_true rfl) rfl (Nat.le_of_ble_eq_true rfl) rfl rfl rfl ?_
    refine aw_if_eq (tgt := 40) (pc' := 17) hC dX5_find_14 (by decide) rfl (fun c5 => ?_) (fun c5 => ?_)
    · replace h := it_p c5 h
      refine aw_sub hC [none, none, none, none] trivial (Nat.le_of_ble_eq_true rfl) ?_
      cases h
      exact hX _ rfl
    · replace h := it_n c5 h
      refine aw_aload_n (pc' := 18) (i := 0) hC dX5_find_17 rfl rfl rfl ?_
      refine aw_getfield (pc' := 21) (v := (.inr (.inr (M v0 1)))) hC dX5_find_18 rfl fl_X5_15 g3 rfl ?_
      refine aw_iload_n (pc' := 22) (i := 1) hC dX5_find_21 rfl rfl rfl ?_
      refine aw_bipush (pc' := 24) hC dX5_find_22 rfl (by decide) ?_
      refine aw_imul (pc' := 25) hC dX5_find_24 rfl  ?_
      refine aw_iload_n (pc' := 26) (i := 3) hC dX5_find_25 rfl rfl rfl ?_
      refine aw_iadd (pc' := 27) hC dX5_find_26 rfl  ?_
      obtain ⟨g6, h⟩ := gd_s h
      refine aw_iaload (pc' := 28) hC dX5_find_27 rfl g6 ?_
      refine aw_iload_n (pc' := 29) (i := 2) hC dX5_find_28 rfl rfl rfl ?_
      refine aw_icmp_ne (tgt := 34) (pc' := 32) hC dX5_find_29 (by decide) rfl (fun c7 => ?_) (fun c7 => ?_)
      · replace h := it_n c7 h
        refine aw_iinc (pc' := 37) (ls' := [some (.inr (.inr v0)), some (.inl v1), some (.inl v2), some (.inl (w32 (v3 + 1)))]) hC dX5_find_34 rfl rfl rfl rfl ?_
        refine aw_goto (tgt := 2) hC dX5_find_37 (by decide) ?_
        refine aw_sub hC [some (.inr (.inr v0)), some (.inl v1), some (.inl v2), some (.inl (w32 (v3 + 1)))] ⟨rfl, ⟨rfl, ⟨rfl, ⟨rfl, trivial⟩⟩⟩⟩ (Nat.le_of_ble_eq_true rfl) ?_
        cases h
        exact hL _ rfl
      · replace h := it_p c7 h
        refine aw_sub hC [none, none, none, some (.inl v3)] ⟨rfl, trivial⟩ (Nat.le_of_ble_eq_true rfl) ?_
        cases h
        exact hX _ rfl
set_option maxRecDepth 100000 in
set_option maxHeartbeats 4000000 in
theorem mX5_find {sh : AwS} {M : AwM} {v0 : Int} {v1 : Int} {v2 : Int} {r : Int} (h : fX5_find sh M v0 v1 v2 = some r) : AMet yX5_find cX5_find 4 (some .int) 2 0 0 [.inr (.inr v0), .inl v1, .inl v2] sh M (some (.inl r)) sh M := by
  refine amet_of (by decide +kernel) (Nat.le_of_ble_eq_true rfl) (fun Γ hC => ?_)
  replace hC : AOK Γ RX5 cX5_find 4 2 0 0 "find" (some .int) := hC
  unfold fX5_find at h
  refine aw_sub hC [some (.inr (.inr v0)), some (.inl v1), some (.inl v2), none] ⟨rfl, ⟨rfl, ⟨rfl, trivial⟩⟩⟩ (Nat.le_of_ble_eq_true rfl) ?_
  refine aw_iconst (pc' := 1) hC dX5_find_0 rfl (by decide) ?_
  refine aw_istore_n (pc' := 2) (i := 3) (ls' := [some (.inr (.inr v0)), some (.inl v1), some (.inl v2), some (.inl 0)]) hC dX5_find_1 rfl rfl (Nat.le_of_ble_eq_true rfl) rfl rfl ?_
  obtain ⟨tq8, q8, h⟩ := pb_s h
  refine aw_sub hC [some (.inr (.inr v0)), some (.inl v1), some (.inl v2), some (.inl 0)] ⟨rfl, ⟨rfl, ⟨rfl, ⟨rfl, trivial⟩⟩⟩⟩ (Nat.le_of_ble_eq_true rfl) ?_
  refine (lp_aw (p_X5_find_L2 Γ sh M v0 v1 v2 (fin_ Γ 0 0 (some (.inl r)) sh M)) (x_X5_find_L2 Γ sh M v0 v1 v2 (fin_ Γ 0 0 (some (.inl r)) sh M)) (w_X5_find_L2 hC ) FU _ _ q8 ?_ : p_X5_find_L2 Γ sh M v0 v1 v2 (fin_ Γ 0 0 (some (.inl r)) sh M) 0)
  rcases tq8 with tq8 | tq8
  · replace h := se_l h
    cases tq8
    replace h := u0_s h
    show AW Γ sh M 0 0 40 [none, none, none, none] [] _
    refine aw_iconst (pc' := 41) hC dX5_find_40 rfl (by decide) ?_
    cases h
    exact aw_iret hC dX5_find_41 (Nat.le_of_ble_eq_true rfl) (Nat.le_of_ble_eq_true rfl)
  · replace h := se_r h
    replace h := u1_s h
    show AW Γ sh M 0 0 32 [none, none, none, some (.inl tq8)] [] _
    refine aw_iload_n (pc' := 33) (i := 3) hC dX5_find_32 rfl rfl rfl ?_
    cases h
    exact aw_iret hC dX5_find_33 (Nat.le_of_ble_eq_true rfl) (Nat.le_of_ble_eq_true rfl)
-- CoinCircle$Society.isGiven(I)Z
def fX5_isGiven (sh : AwS) (M : AwM) (v0 : Int) (v1 : Int) : Option Int :=
  gd_ (kd_ sh v0 = (0, 5)) (pb (fX5_find sh M v0 0 v1) <| u1 fun (x3 : Int) => ((if x3 = (-1) then pb (fX5_find sh M v0 1 v1) <| u1 fun (x6 : Int) => ((if x6 = (-1) then pb (fX5_find sh M v0 2 v1) <| u1 fun (x9 : Int) => ((if x9 = (-1) then some 0 else some 1)) else some 1)) else some 1)))
set_option maxRecDepth 100000 in
set_option maxHeartbeats 4000000 in
theorem mX5_isGiven {sh : AwS} {M : AwM} {v0 : Int} {v1 : Int} {r : Int} (h : fX5_isGiven sh M v0 v1 = some r) : AMet yX5_isGiven cX5_isGiven 2 (some .boolean) 3 0 0 [.inr (.inr v0), .inl v1] sh M (some (.inl r)) sh M := by
  refine amet_of (by decide +kernel) (Nat.le_of_ble_eq_true rfl) (fun Γ hC => ?_)
  replace hC : AOK Γ RX5 cX5_isGiven 2 3 0 0 "isGiven" (some .boolean) := hC
  unfold fX5_isGiven at h
  refine aw_sub hC [some (.inr (.inr v0)), some (.inl v1)] ⟨rfl, ⟨rfl, trivial⟩⟩ (Nat.le_of_ble_eq_true rfl) ?_
  refine aw_aload_n (pc' := 1) (i := 0) hC dX5_isGiven_0 rfl rfl rfl ?_
  refine aw_iconst (pc' := 2) hC dX5_isGiven_1 rfl (by decide) ?_
  refine aw_iload_n (pc' := 3) (i := 1) hC dX5_isGiven_2 rfl rfl rfl ?_
  obtain ⟨g2, h⟩ := gd_s h
  obtain ⟨x3, q1, h⟩ := pb_s h
  replace h := u1_s h
  refine aw_cV (pc' := 6) (k2 := 0) (n2 := 0) (st := []) (stN := [.inl x3]) hC [.inl 0, .inl v1] (mX5_find q1) lk_X5_67 g2 dX5_isGiven_3 rfl rfl (Nat.le_of_ble_eq_true rfl) (Nat.le_of_ble_eq_true rfl) (Nat.le_of_ble_eq_true rfl) rfl (Nat.le_of_ble_eq_true rfl) rfl rfl rfl ?_
  refine aw_iconst (pc' := 7) hC dX5_isGiven_6 rfl (by decide) ?_
  refine aw_icmp_ne (tgt := 30) (pc' := 10) hC dX5_isGiven_7 (by decide) rfl (fun c4 => ?_) (fun c4 => ?_)
  · replace h := it_n c4 h
    refine aw_iconst (pc' := 31) hC dX5_isGiven_30 rfl (by decide) ?_
    refine aw_goto (tgt := 35) hC dX5_isGiven_31 (by decide) ?_
    cases h
    exact aw_zret hC (Or.inr rfl) dX5_isGiven_35 (Nat.le_of_ble_eq_true rfl) (Nat.le_of_ble_eq_true rfl)
  · replace h := it_p c4 h
    refine aw_aload_n (pc' := 11) (i := 0) hC dX5_isGiven_10 rfl rfl rfl ?_
    refine aw_iconst (pc' := 12) hC dX5_isGiven_11 rfl (by decide) ?_
    refine aw_iload_n (pc' := 13) (i := 1) hC dX5_isGiven_12 rfl rfl rfl ?_
    obtain ⟨x6, q5, h⟩ := pb_s h
    replace h := u1_s h
    refine aw_cV (pc' := 16) (k2 := 0) (n2 := 0) (st := []) (stN := [.inl x6]) hC [.inl 1, .inl v1] (mX5_find q5) lk_X5_67 g2 dX5_isGiven_13 rfl rfl (Nat.le_of_ble_eq_true rfl) (Nat.le_of_ble_eq_true rfl) (Nat.le_of_ble_eq_true rfl) rfl (Nat.le_of_ble_eq_true rfl) rfl rfl rfl ?_
    refine aw_iconst (pc' := 17) hC dX5_isGiven_16 rfl (by decide) ?_
    refine aw_icmp_ne (tgt := 30) (pc' := 20) hC dX5_isGiven_17 (by decide) rfl (fun c7 => ?_) (fun c7 => ?_)
    · replace h := it_n c7 h
      refine aw_iconst (pc' := 31) hC dX5_isGiven_30 rfl (by decide) ?_
      refine aw_goto (tgt := 35) hC dX5_isGiven_31 (by decide) ?_
      cases h
      exact aw_zret hC (Or.inr rfl) dX5_isGiven_35 (Nat.le_of_ble_eq_true rfl) (Nat.le_of_ble_eq_true rfl)
    · replace h := it_p c7 h
      refine aw_aload_n (pc' := 21) (i := 0) hC dX5_isGiven_20 rfl rfl rfl ?_
      refine aw_iconst (pc' := 22) hC dX5_isGiven_21 rfl (by decide) ?_
      refine aw_iload_n (pc' := 23) (i := 1) hC dX5_isGiven_22 rfl rfl rfl ?_
      obtain ⟨x9, q8, h⟩ := pb_s h
      replace h := u1_s h
      refine aw_cV (pc' := 26) (k2 := 0) (n2 := 0) (st := []) (stN := [.inl x9]) hC [.inl 2, .inl v1] (mX5_find q8) lk_X5_67 g2 dX5_isGiven_23 rfl rfl (Nat.le_of_ble_eq_true rfl) (Nat.le_of_ble_eq_true rfl) (Nat.le_of_ble_eq_true rfl) rfl (Nat.le_of_ble_eq_true rfl) rfl rfl rfl ?_
      refine aw_iconst (pc' := 27) hC dX5_isGiven_26 rfl (by decide) ?_
      refine aw_icmp_eq (tgt := 34) (pc' := 30) hC dX5_isGiven_27 (by decide) rfl (fun c10 => ?_) (fun c10 => ?_)
      · replace h := it_p c10 h
        refine aw_iconst (pc' := 35) hC dX5_isGiven_34 rfl (by decide) ?_
        cases h
        exact aw_zret hC (Or.inl rfl) dX5_isGiven_35 (Nat.le_of_ble_eq_true rfl) (Nat.le_of_ble_eq_true rfl)
      · replace h := it_n c10 h
        refine aw_iconst (pc' := 31) hC dX5_isGiven_30 rfl (by decide) ?_
        refine aw_goto (tgt := 35) hC dX5_isGiven_31 (by decide) ?_
        cases h
        exact aw_zret hC (Or.inr rfl) dX5_isGiven_35 (Nat.le_of_ble_eq_true rfl) (Nat.le_of_ble_eq_true rfl)
-- CoinCircle$Society.give(II)I
def fX5_give (sh : AwS) (M : AwM) (v0 : Int) (v1 : Int) (v2 : Int) : Option (Int × AwM) :=
  gd_ (kd_ sh v0 = (0, 5)) (pb (fX5_isFull sh M v0 v1) <| u1 fun (x3 : Int) => ((if x3 = 0 then gd_ ((kd_ sh (M v0 0)).1 = 1 ∧ (0 : Int) ≤ v1 ∧ v1 < ((kd_ sh (M v0 0)).2 : Int)) (gd_ ((kd_ sh (M v0 1)).1 = 1 ∧ (0 : Int) ≤ (w32 ((w32 (v1 * 12)) + (M (M v0 0) v1))) ∧ (w32 ((w32 (v1 * 12)) + (M (M v0 0) v1))) < ((kd_ sh (M v0 1)).2 : Int)) (bd_ (up_ M (M v0 1) (w32 ((w32 (v1 * 12)) + (M (M v0 0) v1))) v2) fun (M7 : AwM) => (gd_ ((kd_ sh (M7 v0 0)).1 = 1 ∧ (0 : Int) ≤ v1 ∧ v1 < ((kd_ sh (M7 v0 0)).2 : Int)) (bd_ (up_ M7 (M7 v0 0) v1 (w32 ((M7 (M7 v0 0) v1) + 1))) fun (M10 : AwM) => (some ((M (M v0 0) v1), M10)))))) else some ((-1), M))))
set_option maxRecDepth 100000 in
set_option maxHeartbeats 4000000 in
theorem mX5_give {sh : AwS} {M : AwM} {v0 : Int} {v1 : Int} {v2 : Int} {r : Int} {M' : AwM} (h : fX5_give sh M v0 v1 v2 = some (r, M')) : AMet yX5_give cX5_give 4 (some .int) 3 0 0 [.inr (.inr v0), .inl v1, .inl v2] sh M (some (.inl r)) sh M' := by
  refine amet_of (by decide +kernel) (Nat.le_of_ble_eq_true rfl) (fun Γ hC => ?_)
  replace hC : AOK Γ RX5 cX5_give 4 3 0 0 "give" (some .int) := hC
  unfold fX5_give at h
  refine aw_sub hC [some (.inr (.inr v0)), some (.inl v1), some (.inl v2), none] ⟨rfl, ⟨rfl, ⟨rfl, trivial⟩⟩⟩ (Nat.le_of_ble_eq_true rfl) ?_
  refine aw_aload_n (pc' := 1) (i := 0) hC dX5_give_0 rfl rfl rfl ?_
  refine aw_iload_n (pc' := 2) (i := 1) hC dX5_give_1 rfl rfl rfl ?_
  obtain ⟨g2, h⟩ := gd_s h
  obtain ⟨x3, q1, h⟩ := pb_s h
  replace h := u1_s h
  refine aw_cV (pc' := 5) (k2 := 0) (n2 := 0) (st := []) (stN := [.inl x3]) hC [.inl v1] (mX5_isFull q1) lk_X5_71 g2 dX5_give_2 rfl rfl (Nat.le_of_ble_eq_true rfl) (Nat.le_of_ble_eq_true rfl) (Nat.le_of_ble_eq_true rfl) rfl (Nat.le_of_ble_eq_true rfl) rfl rfl rfl ?_
  refine aw_if_eq (tgt := 10) (pc' := 8) hC dX5_give_5 (by decide) rfl (fun c4 => ?_) (fun c4 => ?_)
  · replace h := it_p c4 h
    refine aw_aload_n (pc' := 11) (i := 0) hC dX5_give_10 rfl rfl rfl ?_
    refine aw_getfield (pc' := 14) (v := (.inr (.inr (M v0 0)))) hC dX5_give_11 rfl fl_X5_9 g2 rfl ?_
    refine aw_iload_n (pc' := 15) (i := 1) hC dX5_give_14 rfl rfl rfl ?_
    obtain ⟨g5, h⟩ := gd_s h
    refine aw_iaload (pc' := 16) hC dX5_give_15 rfl g5 ?_
    refine aw_istore_n (pc' := 17) (i := 3) (ls' := [some (.inr (.inr v0)), some (.inl v1), some (.inl v2), some (.inl (M (M v0 0) v1))]) hC dX5_give_16 rfl rfl (Nat.le_of_ble_eq_true rfl) rfl rfl ?_
    refine aw_aload_n (pc' := 18) (i := 0) hC dX5_give_17 rfl rfl rfl ?_
    refine aw_getfield (pc' := 21) (v := (.inr (.inr (M v0 1)))) hC dX5_give_18 rfl fl_X5_15 g2 rfl ?_
    refine aw_iload_n (pc' := 22) (i := 1) hC dX5_give_21 rfl rfl rfl ?_
    refine aw_bipush (pc' := 24) hC dX5_give_22 rfl (by decide) ?_
    refine aw_imul (pc' := 25) hC dX5_give_24 rfl  ?_
    refine aw_iload_n (pc' := 26) (i := 3) hC dX5_give_25 rfl rfl rfl ?_
    refine aw_iadd (pc' := 27) hC dX5_give_26 rfl  ?_
    refine aw_iload_n (pc' := 28) (i := 2) hC dX5_give_27 rfl rfl rfl ?_
    obtain ⟨g6, h⟩ := gd_s h
    obtain ⟨M7, e8, h⟩ := bd_s h
    refine aw_ias (pc' := 29) hC dX5_give_28 rfl g6 e8 ?_
    refine aw_aload_n (pc' := 30) (i := 0) hC dX5_give_29 rfl rfl rfl ?_
    refine aw_getfield (pc' := 33) (v := (.inr (.inr (M7 v0 0)))) hC dX5_give_30 rfl fl_X5_9 g2 rfl ?_
    refine aw_iload_n (pc' := 34) (i := 1) hC dX5_give_33 rfl rfl rfl ?_
    refine aw_dup2 (pc' := 35) hC dX5_give_34 rfl rfl rfl ?_
    obtain ⟨g9, h⟩ := gd_s h
    refine aw_iaload (pc' := 36) hC dX5_give_35 rfl g9 ?_
    refine aw_iconst (pc' := 37) hC dX5_give_36 rfl (by decide) ?_
    refine aw_iadd (pc' := 38) hC dX5_give_37 rfl  ?_
    obtain ⟨M10, e11, h⟩ := bd_s h
    refine aw_ias (pc' := 39) hC dX5_give_38 rfl g9 e11 ?_
    refine aw_iload_n (pc' := 40) (i := 3) hC dX5_give_39 rfl rfl rfl ?_
    cases h
    exact aw_iret hC dX5_give_40 (Nat.le_of_ble_eq_true rfl) (Nat.le_of_ble_eq_true rfl)
  · replace h := it_n c4 h
    refine aw_iconst (pc' := 9) hC dX5_give_8 rfl (by decide) ?_
    cases h
    exact aw_iret hC dX5_give_9 (Nat.le_of_ble_eq_true rfl) (Nat.le_of_ble_eq_true rfl)
