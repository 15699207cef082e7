/-! the way is told, the class -/
section PTRA
theorem CQ_f2 {M M' : AwM} {P : Int} {l : List (Int × Int × Int × Int)} (h : CQ M P l) (h5 : M' 128 5 = M 128 5) (h2 : M' 128 2 = M 128 2) (hf : ∀ a i : Int, 129 ≤ a → a ≤ 130 → M' a i = M a i) : CQ M' P l := by
  obtain ⟨a5, a2, hk, hi, hz'⟩ := h
  exact ⟨h5.trans a5, h2.trans a2, fun k x hx => (hf _ _ (by omega) (by omega)).trans (hk k x hx), fun x hx => (hf _ _ (by omega) (by omega)).trans (hi x hx), fun w m a b c e => (hf _ _ (by omega) (by omega)).trans (hz' w m a b c e)⟩
/-- what the telling writes -/
def tfr (M' M : AwM) : Prop := ∀ a i : Int, a ≠ 133 → ¬ (a = 128 ∧ i = 7) → M' a i = M a i
theorem LAY_tf {M M' : AwM} (h : LAY M) (f : tfr M' M) : LAY M' := LAY_w2 (so := 10) (Or.inl rfl) h (fun a i x y _ _ _ => f a i (by omega) (by omega))
theorem CQ_tf {M M' : AwM} {P : Int} {l : List (Int × Int × Int × Int)} (h : CQ M P l) (f : tfr M' M) : CQ M' P l := CQ_f2 h (f _ _ (by decide) (by omega)) (f _ _ (by decide) (by omega)) (fun a i _ _ => f a i (by omega) (by omega))
theorem trace_l {P : Int} {l : List (Int × Int × Int × Int)} (hP : 0 ≤ P ∧ P ≤ 10) (hq : QOK P l) : ∀ (ys : List (Int × Int × Int × Int)) (x : Int × Int × Int × Int) (n N : Nat) (M : AwM), LAY M → CQ M P l → x ∈ l → Way l ys x → M 128 7 = (n : Int) → n + ys.length ≤ 20 → ys.length < N → ∃ M', lp (u3 (fX7_trace_L9 SH 128)) N (cdC P x.1 x.2.1, (n : Int), M) = some M' ∧ M' 128 7 = ((n + ys.length : Nat) : Int) ∧ (∀ i : Int, i < (n : Int) → M' 133 i = M 133 i) ∧ (∀ t : Nat, t < ys.length → M' 133 ((n + t : Nat) : Int) = (wat ys x t).2.2.2) ∧ tfr M' M
  | [], x, n, N, M, hl, h, xm, hw, h7, hn, hN => by
    obtain ⟨N, rfl⟩ : ∃ k, N = k + 1 := ⟨N - 1, by omega⟩
    have nd := hq.1 x xm
    have ⟨_, c2, c3⟩ := cdC_n hP nd.1.1 nd.1.2 nd.2.1
    have hm := h.2.2.2.1 x xm
    have hw' : x.2.2.1 = -1 := hw
    rw [show hmC x = -1 from if_pos hw'] at hm
    refine ⟨M, lp_st ?_, h7, fun _ _ => rfl, fun t ht => absurd ht (by simp), fun _ _ _ _ => rfl⟩
    rw [u3_1]
    unfold fX7_trace_L9
    by_cases z : (n : Int) < 20
    · rw [if_pos z, if_neg (by omega), if_pos c3, kd128, gd_t rfl, ly128_0 hl, kd129, ga_t c2 c3, hm, if_neg (by decide)]
    · rw [if_neg z]
  | y :: ys, x, n, N, M, hl, h, xm, hw, h7, hn, hN => by
    obtain ⟨N, rfl⟩ : ∃ k, N = k + 1 := ⟨N - 1, by omega⟩
    obtain ⟨w1, w2, w3, w4, w5⟩ := hw
    rw [List.length_cons] at hn hN
    have nd := hq.1 x xm
    have ny := hq.1 y w2
    have nd1 := nd.1
    have ny1 := ny.1
    have ⟨_, c2, c3⟩ := cdC_n hP nd.1.1 nd.1.2 nd.2.1
    have ⟨_, dm⟩ := cdC_d hP nd.1.1 nd.1.2 nd.2.1
    have hm := h.2.2.2.1 x xm
    rw [show hmC x = 1 + x.2.2.2 + 20 * x.2.2.1 from if_neg w1] at hm
    rcases nd.2.2 with e | ⟨b1, b2, b3⟩
    · exact absurd e w1
    have ml := ms_lt (ms_up nd.2.1 (show P.toNat ≤ 10 by omega)) (by decide)
    have eh : w32 (1 + x.2.2.2 + 20 * x.2.2.1 - 1) = x.2.2.2 + 20 * x.2.2.1 := by rw [w32_s (by omega) (by omega)]; omega
    have et : (x.2.2.2 + 20 * x.2.2.1).tmod 20 = x.2.2.2 := by rw [Int.tmod_eq_emod_of_nonneg (by omega)]; omega
    have ed : w32 ((x.2.2.2 + 20 * x.2.2.1).tdiv 20) = y.1 := by
      rw [Int.tdiv_eq_ediv_of_nonneg (by omega), w32_s (by omega) (by omega)]; omega
    have M15f : tfr (up_ (up_ M 133 (n : Int) x.2.2.2) 128 7 ((n + 1 : Nat) : Int)) M := fun a i p q => by rw [up_nn (fun z => q z), up_of p]
    have h' := CQ_tf h M15f
    have hl' := LAY_tf hl M15f
    obtain ⟨M', e', g7, gi, gt, gf⟩ := trace_l hP hq ys y (n + 1) N _ hl' h' w2 w5 up_at (by omega) (by omega)
    refine ⟨M', ?_, by rw [g7, List.length_cons]; omega, fun i hi => ?_, fun t ht => ?_, fun a i p q => (gf a i p q).trans (M15f a i p q)⟩
    · have es : fX7_stateOf SH (up_ (up_ M 133 (n : Int) x.2.2.2) 128 7 ((n + 1 : Nat) : Int)) 128 y.1 (prv x) = some (cdC P y.1 y.2.1) := by
        rw [← w4]
        exact stOf_n h'.1 hP ny.1.1 ny.1.2 ny.2.1
      rw [lp_go (s' := (cdC P y.1 y.2.1, ((n + 1 : Nat) : Int), up_ (up_ M 133 (n : Int) x.2.2.2) 128 7 ((n + 1 : Nat) : Int)))]
      · exact e'
      · rw [u3_1]
        unfold fX7_trace_L9
        rw [if_pos (by omega), if_neg (by omega), if_pos c3, kd128, gd_t rfl, ly128_0 hl, kd129, ga_t c2 c3, hm, if_pos (by omega), eh, et, bd_1, ly128_6 hl, kd133, ga_t (by omega) (by omega), bd_1, up_of (show (128 : Int) ≠ 133 by decide), h7, show w32 ((n : Int) + 1) = ((n + 1 : Nat) : Int) from (w32_s (by omega) (by omega)).trans (by omega), bd_1, ed, h.1, dm]
        by_cases z : x.2.2.2 < 10
        · rw [show prv x = x.2.1 from if_pos z] at es
          rw [if_pos z, es, pb_1, u1_1]
        · rw [show prv x = clb x.2.1 (x.2.2.2 - 10) from if_neg z] at es
          rw [if_neg z, w32_s (v := x.2.2.2 - 10) (by omega) (by omega), clb_n ml.1 ml.2 (by omega) (by omega), es, pb_1, u1_1]
    · rw [gi i (by omega), up_of (by decide), up_oi (by omega)]
    · cases t with
      | zero =>
        rw [Nat.add_zero, gi _ (by omega), up_of (by decide), up_at]
        rfl
      | succ t =>
        rw [List.length_cons] at ht
        have := gt t (by omega)
        rw [show n + (t + 1) = n + 1 + t by omega, this]
        rfl
/-- behind the search: the way is told -/
theorem find1_n {M : AwM} {P : Int} {l : List (Int × Int × Int × Int)} (hP : 0 ≤ P ∧ P ≤ 10) (hq : QOK P l) (hl : LAY M) (h : CQ M P l) {ys : List (Int × Int × Int × Int)} {x : Int × Int × Int × Int} (xm : x ∈ l) (hw : Way l ys x) (hn : ys.length ≤ 20) : ∃ M', fX7_find_J137 SH M 128 (cdC P x.1 x.2.1) = some ((ys.length : Int), M') ∧ M' 128 7 = (ys.length : Int) ∧ (∀ t : Nat, t < ys.length → M' 133 (t : Int) = (wat ys x t).2.2.2) ∧ tfr M' M := by
  have nd := hq.1 x xm
  have c2 := (cdC_n hP nd.1.1 nd.1.2 nd.2.1).2.1
  have f1 : tfr (up_ (up_ M 128 7 (-1)) 128 7 0) M := fun a i p q => by rw [up_nn (fun z => q z), up_nn (fun z => q z)]
  obtain ⟨M', e, g7, _, gt, gf⟩ := trace_l hP hq ys x 0 FU _ (LAY_tf hl f1) (CQ_tf h f1) xm hw up_at (by omega) (FU_gt (by omega))
  refine ⟨M', ?_, by rw [g7]; omega, fun t ht => ?_, fun a i p q => (gf a i p q).trans (f1 a i p q)⟩
  · unfold fX7_find_J137 fX7_trace
    rw [kd128, gd_t rfl, bd_1, if_neg (by omega), gd_t rfl, bd_1, show ((0 : Nat) : Int) = 0 from rfl] at *
    rw [e, pb_1, u1_1, pb_1, u1_1, g7]
    simp
  · have := gt t ht
    rwa [Nat.zero_add] at this
theorem find2_n {M : AwM} : ∃ M', fX7_find_J137 SH M 128 (-1) = some (-1, M') ∧ M' 128 7 = -1 ∧ tfr M' M := by
  refine ⟨up_ M 128 7 (-1), ?_, up_at, fun a i p q => up_nn (fun z => q z)⟩
  unfold fX7_find_J137
  rw [kd128, gd_t rfl, bd_1, if_pos rfl, up_at]
theorem act_n {M : AwM} (hl : LAY M) {k : Int} {n : Nat} (k0 : -1 ≤ k) (k1 : k ≤ 2147483647) (h7 : M 128 7 = (n : Int)) (hn : n ≤ 20) : fX7_act SH M 128 k = some (if 0 ≤ k ∧ k < (n : Int) then M 133 ((n : Int) - 1 - k) else -1) := by
  unfold fX7_act
  rw [kd128, gd_t rfl, h7, w32_s (v := (n : Int) - 1) (by omega) (by omega), w32_s (v := (n : Int) - 1 - k) (by omega) (by omega)]
  by_cases z : k < 0
  · rw [if_pos z, if_neg (by omega)]
  · rw [if_neg z]
    by_cases z2 : (n : Int) - 1 - k < 0
    · rw [if_pos z2, if_neg (by omega)]
    · rw [if_neg z2, if_pos (by omega), ly128_6 hl, kd133, ga_t (by omega) (by omega), if_pos (by omega)]
theorem act_o {M : AwM} (hl : LAY M) {k : Int} (k0 : 0 ≤ k) (k1 : k ≤ 2147483647) (h7 : M 128 7 = -1) : fX7_act SH M 128 k = some (-1) := by
  unfold fX7_act
  rw [kd128, gd_t rfl, h7, show w32 (-1 - 1) = -2 from rfl, if_neg (by omega)]
  by_cases z : k = 2147483647
  · subst z
    rw [show w32 (-2 - 2147483647) = 2147483647 from rfl, if_neg (by decide), if_neg (by decide)]
  · rw [w32_s (v := -2 - k) (by omega) (by omega), if_pos (by omega)]
end PTRA
