/-! the class reads a fact, both, a test -/
section PCTE
variable {T : Int → Int} {L K : Nat}
def cmd (x : Tk) : Int := if sg x 60 = true then -12 else if sg x 62 = true then -13 else if sg x 61 = true then -14 else -1
theorem cmd_n {M : AwM} {fo : Int} {i o : Nat} {C : List Int} (h : CFo T L K M fo i o C) : fX6_comparison SH M 3 = some (cmd (tks T L i)) := by
  unfold fX6_comparison cmd
  rw [kd3, gd_t rfl, ly3_0 h.lay, kd4, gd_t rfl]
  simp only [cS_n h.sc, pb_1, u1_1, bi_if]
  by_cases a : sg (tks T L i) 60 = true
  · rw [if_pos a, if_pos a]
  · rw [if_neg a, if_neg a]
    by_cases a : sg (tks T L i) 62 = true
    · rw [if_pos a, if_pos a]
    · rw [if_neg a, if_neg a]
      by_cases a : sg (tks T L i) 61 = true
      · rw [if_pos a, if_pos a]
      · rw [if_neg a, if_neg a]
theorem cmd_k (x : Tk) : (cmd x = -1 ∧ cm x = false) ∨ (cm x = true ∧ cel (opC x) = cmd x ∧ (cmd x = -12 ∨ cmd x = -13 ∨ cmd x = -14)) := by
  unfold cmd cm opC
  by_cases a : sg x 60 = true
  · rw [a]; exact Or.inr ⟨rfl, rfl, Or.inl rfl⟩
  · rw [bf a, if_neg (show ¬ (false : Bool) = true by decide), if_neg (show ¬ (false : Bool) = true by decide)]
    by_cases b : sg x 62 = true
    · rw [b]; exact Or.inr ⟨rfl, rfl, Or.inr (Or.inl rfl)⟩
    · rw [bf b, if_neg (show ¬ (false : Bool) = true by decide), if_neg (show ¬ (false : Bool) = true by decide)]
      by_cases c : sg x 61 = true
      · rw [c]; exact Or.inr ⟨rfl, rfl, Or.inr (Or.inr rfl)⟩
      · rw [bf c]; exact Or.inl ⟨rfl, rfl⟩
def tB (x : Tk) : Prop := ow x 18 = false
def tT (x : Tk) : Prop := ow x 18 = false ∧ ow x 17 = false
theorem fact_s {D o : Nat} (ho : o ≤ 7) (hF : o < 7 → FTs T L K (fun M => fRec_P1 D 2 SH M 3) 4 3 2 (o + 1) (4 + 3 * (7 - (o + 1))) (fun _ => True)) (hT : o < 7 → FTs T L K (fun M => fRec_P1 D 4 SH M 3) 1 1 0 (o + 1) (6 + 3 * (7 - (o + 1))) tT) : FTs T L K (fun M => fRec_P1 (D + 2) 2 SH M 3) 4 3 2 o (4 + 3 * (7 - o)) (fun _ => True) := by
  intro M fo i C h hC
  have q2 : M 3 2 = fo := h.1.2.2.2.1
  have r2 : fRec_P1 (D + 2) 2 SH M 3 = fX6_fact_B (fRec_P1 (D + 1)) SH M 3 := rfl
  have r0 : fRec_P1 (D + 1) 0 SH M 3 = fX6_inBrackets_B (fRec_P1 D) SH M 3 := rfl
  have r1 : fRec_P1 (D + 1) 1 SH M 3 = fX6_notFact_B (fRec_P1 D) SH M 3 := rfl
  dsimp only
  rw [r2]
  unfold fX6_fact_B
  rw [kd3, gd_t rfl, ly3_0 h.lay, kd4, gd_t rfl]
  rw [cW_n h.sc (c := 19), pb_1, u1_1, bi_if]
  by_cases zn : ow (tks T L i) 19 = true
  · have hk := ow_t.mp zn
    obtain ⟨en1, en2⟩ := center_n h (by omega)
    rw [if_pos zn, r1]
    unfold fX6_notFact_B
    rw [kd3, gd_t rfl]
    by_cases z : o < 7
    · obtain ⟨M1, e1, h1, f1⟩ := en1 z
      rw [e1, pb_1, u2_1, if_neg (by decide)]
      rcases hF z M1 fo (i + 1) C h1 (by omega) with ⟨M2, j, c, e2, h2, f2, ⟨b1, b2⟩, ty, ks, _⟩ | ⟨M2, k, p, e2, ⟨b1, b2, b3⟩, k0, kb⟩
      · change fRec_P1 D 2 SH M1 3 = _ at e2
        have q3 : M2 3 3 = ((o + 1 : Nat) : Int) := h2.1.2.2.1
        obtain ⟨h3, f3⟩ := copen_n (o' := o) h2 ho
        have q4 : up_ M2 3 3 (o : Int) 3 2 = fo := h3.1.2.2.2.1
        obtain ⟨M4, e4, h4, f4⟩ := cadd_n h3 (c := -9) (v := -9) rfl (by rw [List.length_append]; omega)
        rw [e2, pb_1, u2_1, if_neg (by decide), q3, w32_s (v := ((o + 1 : Nat) : Int) - 1) (by omega) (by omega), show ((o + 1 : Nat) : Int) - 1 = (o : Int) by omega, bd_1, q4, kqo0 h.2.1, gd_t rfl, e4, pb_1, u1_1, pb_1, u2_1, gd_t (Or.inr rfl)]
        refine Or.inl ⟨M4, j, c ++ [-9], rfl, ?_, ffr_tr f1 (ffr_tr f2 (ffr_tr f3 f4)), ⟨by rw [List.length_append, List.length_singleton]; omega, by omega⟩, Ty_le (Ty_not ty) (by omega), kt_not zn z ks (by omega), trivial⟩
        rw [← List.append_assoc]; exact h4
      · change fRec_P1 D 2 SH M1 3 = _ at e2
        rw [e2, pb_1, u2_1, if_pos rfl, pb_1, u2_1, gd_t (Or.inl rfl)]
        exact Or.inr ⟨M2, k, p, rfl, ⟨b1, b2, ffr_tr f1 b3⟩, k0, kt_notb zn (Or.inr ⟨z, kb⟩)⟩
    · obtain ⟨M1, e1, c1, c2, c3⟩ := en2 (by omega)
      rw [e1, pb_1, u2_1, if_pos rfl, pb_1, u2_1, gd_t (Or.inl rfl)]
      exact Or.inr ⟨M1, 5, _, rfl, ⟨c1, c2, c3⟩, by decide, kt_notb zn (Or.inl ⟨by omega, rfl, rfl⟩)⟩
  · rw [if_neg zn, cS_n h.sc (c := 91), pb_1, u1_1, bi_if]
    by_cases zs : sg (tks T L i) 91 = true
    · have hk := sg_t.mp zs
      obtain ⟨en1, en2⟩ := center_n h (by omega)
      rw [if_pos zs, r0]
      unfold fX6_inBrackets_B
      rw [kd3, gd_t rfl]
      by_cases z : o < 7
      · obtain ⟨M1, e1, h1, f1⟩ := en1 z
        rw [e1, pb_1, u2_1, if_neg (by decide)]
        rcases hT z M1 fo (i + 1) C h1 (by omega) with ⟨M2, j, c, e2, h2, f2, ⟨b1, b2⟩, ty, ks, tl⟩ | ⟨M2, k, p, e2, ⟨b1, b2, b3⟩, k0, kb⟩
        · change fRec_P1 D 4 SH M1 3 = _ at e2
          have q3 : M2 3 3 = ((o + 1 : Nat) : Int) := h2.1.2.2.1
          obtain ⟨h3, f3⟩ := copen_n (o' := o) h2 ho
          obtain ⟨s1, s2⟩ := csign_n (c := 93) h3
          rw [e2, pb_1, u2_1, if_neg (by decide), q3, w32_s (v := ((o + 1 : Nat) : Int) - 1) (by omega) (by omega), show ((o + 1 : Nat) : Int) - 1 = (o : Int) by omega, bd_1]
          by_cases zc : sg (tks T L j) 93 = true
          · obtain ⟨M4, e4, h4, f4⟩ := s1 zc
            rw [e4, pb_1, u2_1, gd_t (Or.inr rfl), pb_1, u2_1, gd_t (Or.inr rfl)]
            exact Or.inl ⟨M4, j + 1, c, rfl, h4, ffr_tr f1 (ffr_tr f2 (ffr_tr f3 f4)), ⟨by omega, by omega⟩, Ty_le ty (by omega), kt_sq zs z ks zc (by omega), trivial⟩
          · obtain ⟨M4, e4, c1, c2, c3⟩ := s2 (bf zc)
            rw [e4, pb_1, u2_1, gd_t (Or.inl rfl), pb_1, u2_1, gd_t (Or.inl rfl)]
            exact Or.inr ⟨M4, 1, _, rfl, ⟨c1, c2, ffr_tr f1 (ffr_tr f2 (ffr_tr f3 c3))⟩, by decide, kt_sqb zs (Or.inr ⟨z, Or.inr ⟨j, c, ks, tl, bf zc, by omega, rfl, rfl⟩⟩)⟩
        · change fRec_P1 D 4 SH M1 3 = _ at e2
          rw [e2, pb_1, u2_1, if_pos rfl, pb_1, u2_1, gd_t (Or.inl rfl)]
          exact Or.inr ⟨M2, k, p, rfl, ⟨b1, b2, ffr_tr f1 b3⟩, k0, kt_sqb zs (Or.inr ⟨z, Or.inl kb⟩)⟩
      · obtain ⟨M1, e1, c1, c2, c3⟩ := en2 (by omega)
        rw [e1, pb_1, u2_1, if_pos rfl, pb_1, u2_1, gd_t (Or.inl rfl)]
        exact Or.inr ⟨M1, 5, _, rfl, ⟨c1, c2, c3⟩, by decide, kt_sqb zs (Or.inl ⟨by omega, rfl, rfl⟩)⟩
    · rw [if_neg zs, cW_n h.sc (c := 20), pb_1, u1_1, bi_if]
      by_cases za : ow (tks T L i) 20 = true
      · have hk := ow_t.mp za
        obtain ⟨M1, e1, h1, f1⟩ := cnext_n h (by omega)
        have q3 : M1 3 2 = fo := h1.1.2.2.2.1
        obtain ⟨M2, e2, h2, f2⟩ := cadd_n h1 (c := 10000) (v := 1) rfl (by omega)
        rw [if_pos za, e1, pb_1, u1_1, q3, kqo0 h.2.1, gd_t rfl, e2, pb_1, u1_1]
        exact Or.inl ⟨M2, i + 1, [10000], rfl, h2, ffr_tr (ffr_nx f1) f2, ⟨by rw [List.length_singleton]; omega, by omega⟩, Ty_le Ty_all (by omega), kt_all za, trivial⟩
      · have pl : plain (tks T L i) = true := by
          unfold plain
          rw [bf zn, bf zs, bf za]; rfl
        have hS := sums (T := T) (L := L) (K := K) (7 - o) o 80 (by omega) (by omega)
        rw [if_neg za]
        rcases hS M fo i C h hC with ⟨M1, j, c, e1, h1, f1, ⟨b1, b2⟩, ty, ks, tl⟩ | ⟨M1, k, p, e1, cb, k0, kb⟩
        · change fRec_R0 4 SH M 3 0 = _ at e1
          rw [e1, pb_1, u2_1, if_neg (by decide), cmd_n h1, pb_1, u1_1]
          rcases cmd_k (tks T L j) with ⟨z1, z2⟩ | ⟨z1, z2, z3⟩
          · rw [if_pos z1, cfail_1 h1.sc h1.lay, pb_1, u2_1, gd_t (Or.inl rfl)]
            obtain ⟨c1, c2, c3⟩ := cbad_u (M := M1) (fo := fo) (k := 1) (p := (tks T L j).2.2.2.1)
            exact Or.inr ⟨_, 1, _, rfl, ⟨c1, c2, ffr_tr f1 c3⟩, by decide, kt_cmpb pl ho (Or.inr ⟨j, c, ⟨ks, tl, by omega⟩, Or.inl ⟨z2, rfl, rfl⟩⟩)⟩
          · have kj := cm_k z1
            obtain ⟨M2, e2, h2, f2⟩ := cnext_n h1 (by omega)
            rw [if_neg (by omega), ly3_0 h1.lay, kd4, gd_t rfl, e2, pb_1, u1_1]
            rcases hS M2 fo (j + 1) (C ++ c) h2 (by rw [List.length_append]; omega) with ⟨M3, j2, c2, e3, h3, f3, ⟨d1, d2⟩, ty2, ks2, tl2⟩ | ⟨M3, k, p, e3, ⟨d1, d2, d3⟩, k0, kb⟩
            · change fRec_R0 4 SH M2 3 0 = _ at e3
              have q3 : M3 3 2 = fo := h3.1.2.2.2.1
              obtain ⟨M4, e4, h4, f4⟩ := cadd_n h3 (c := cmd (tks T L j)) (v := cmd (tks T L j)) (by unfold cce; rw [if_neg (by omega)]) (by rw [List.length_append, List.length_append]; omega)
              rw [e3, pb_1, u2_1, if_neg (by decide), q3, kqo0 h.2.1, gd_t rfl, e4, pb_1, u1_1]
              have kk := kt_cmp pl ks z1 ks2 tl2 ⟨by omega, by omega⟩ ho
              rw [z2] at kk
              refine Or.inl ⟨M4, j2, c ++ c2 ++ [cmd (tks T L j)], rfl, ?_, ffr_tr f1 (ffr_tr (ffr_nx f2) (ffr_tr f3 f4)), ⟨by rw [List.length_append, List.length_append, List.length_singleton]; omega, by omega⟩, ?_, kk, trivial⟩
              · rw [← List.append_assoc, ← List.append_assoc]; exact h4
              · exact Ty_le (Ty_2 ty ty2 (ft_cm (by omega)) (by omega)) (by omega)
            · change fRec_R0 4 SH M2 3 0 = _ at e3
              rw [e3, pb_1, u2_1, if_pos rfl]
              exact Or.inr ⟨M3, k, p, rfl, ⟨d1, d2, ffr_tr f1 (ffr_tr (ffr_nx f2) d3)⟩, k0, kt_cmpb pl ho (Or.inr ⟨j, c, ⟨ks, tl, by omega⟩, Or.inr ⟨z1, kb⟩⟩)⟩
        · change fRec_R0 4 SH M 3 0 = _ at e1
          rw [e1, pb_1, u2_1, if_pos rfl]
          exact Or.inr ⟨M1, k, p, rfl, cb, k0, kt_cmpb pl ho (Or.inl kb)⟩
theorem both_s {D o : Nat} (ho : o ≤ 7) (hS : FTs T L K (fun M => fRec_P1 D 2 SH M 3) 4 3 2 o (4 + 3 * (7 - o)) (fun _ => True)) : FTs T L K (fun M => fRec_P1 (D + 1) 3 SH M 3) 2 2 1 o (5 + 3 * (7 - o)) tB := by
  intro M fo i C h hC
  have r4 : fRec_P1 (D + 1) 3 SH M 3 = fX6_both_B (fRec_P1 D) SH M 3 := rfl
  dsimp only
  rw [r4]
  unfold fX6_both_B
  rw [kd3, gd_t rfl]
  rcases hS M fo i C h hC with ⟨M1, j1, c1, e1, h1, f1, ⟨b1, b2⟩, ty1, ks1, _⟩ | ⟨M1, k, p, e1, cb, k0, kb⟩
  · change fRec_P1 D 2 SH M 3 = _ at e1
    rw [e1, pb_1, u2_1, if_neg (by decide)]
    have key := lp_rel (body := u2 (fX6_both_L11 (fRec_P1 D) SH 3)) (P := fun q (t : Int × AwM) => t.1 = (q : Int) ∧ ∃ j c, CFo T L K t.2 fo j o (C ++ c) ∧ ffr fo t.2 M ∧ (i + c.length ≤ j ∧ i < j ∧ 2 * q < j) ∧ Ty c true (5 + 3 * (7 - o)) ∧ KTok T L K 2 2 1 i o j c) (X := fun r : AwM ⊕ AwM => (∃ M' j c, r = .inl M' ∧ CFo T L K M' fo j o (C ++ c) ∧ ffr fo M' M ∧ (i + c.length ≤ j ∧ i < j) ∧ Ty c true (5 + 3 * (7 - o)) ∧ KTok T L K 2 2 1 i o j c ∧ tB (tks T L j)) ∨ (∃ M' k p, r = .inr M' ∧ CBAD fo M' M k p ∧ 0 < k ∧ KTbad T L K 2 1 i o k p)) (n := 900) ?_ FU (0, M1) (FU_gt (by omega)) ⟨rfl, j1, c1, h1, f1, ⟨b1, b2, by omega⟩, Ty_le ty1 (by omega), KTok_up ks1 ⟨by omega, by omega⟩ (by omega)⟩
    · obtain ⟨r, er, hr⟩ := key
      rw [er, pb_1]
      rcases hr with ⟨M', j, c, rfl, a⟩ | ⟨M', k, p, rfl, a⟩
      · exact Or.inl ⟨M', j, c, rfl, a⟩
      · exact Or.inr ⟨M', k, p, rfl, a⟩
    · rintro q ⟨n, M3⟩ hq ⟨hn, j, c, h3, f3, ⟨d1, d2, d3⟩, ty, ks⟩
      change n = (q : Int) at hn
      change CFo T L K M3 fo j o (C ++ c) at h3
      change ffr fo M3 M at f3
      subst hn
      have jK := h3.sc.1
      rw [u2_1]
      unfold fX6_both_L11
      rw [if_pos (show (q : Int) < 1600 by omega), kd3, gd_t rfl, ly3_0 h3.lay, kd4, gd_t rfl, cW_n h3.sc (c := 18), pb_1, u1_1, bi_if]
      by_cases z : ow (tks T L j) 18 = true
      · have kj := ow_t.mp z
        obtain ⟨M4, e4, h4, f4⟩ := cnext_n h3 (by omega)
        rw [if_pos z, e4, pb_1, u1_1]
        rcases hS M4 fo (j + 1) (C ++ c) h4 (by rw [List.length_append]; omega) with ⟨M5, j5, c5, e5, h5, f5, ⟨g1, g2⟩, ty5, ks5, _⟩ | ⟨M5, k, p, e5, ⟨x1, x2, x3⟩, k0, kb⟩
        · change fRec_P1 D 2 SH M4 3 = _ at e5
          have q2 : M5 3 2 = fo := h5.1.2.2.2.1
          obtain ⟨M6, e6, h6, f6⟩ := cadd_n h5 (c := -7) (v := -7) rfl (by rw [List.length_append, List.length_append]; omega)
          rw [e5, pb_1, u2_1, if_neg (by decide), q2, kqo0 h.2.1, gd_t rfl, e6, pb_1, u1_1, w32_s (v := (q : Int) + 1) (by omega) (by omega)]
          have jK5 := h5.sc.1
          have kk : KTok T L K 2 2 1 i o j5 (c ++ c5 ++ [-7]) := tbin (op := 20) ks (Or.inl ⟨z, rfl, rfl⟩) ⟨by decide, by decide, by decide⟩ ks5 ⟨by omega, by omega⟩ (by omega) ho
          refine Or.inl ⟨by omega, _, rfl, by dsimp only; omega, j5, c ++ c5 ++ [-7], ?_, ffr_tr f3 (ffr_tr (ffr_nx f4) (ffr_tr f5 f6)), ⟨?_, by omega, by omega⟩, ?_, kk⟩
          · rw [← List.append_assoc, ← List.append_assoc]; exact h6
          · rw [List.length_append, List.length_append, List.length_singleton]; omega
          · exact Ty_le (Ty_2 ty ty5 (ft_ao (Or.inl rfl)) (by omega)) (by omega)
        · change fRec_P1 D 2 SH M4 3 = _ at e5
          rw [e5, pb_1, u2_1, if_pos rfl]
          exact Or.inr ⟨_, rfl, Or.inr ⟨M5, k, p, rfl, ⟨x1, x2, ffr_tr f3 (ffr_tr (ffr_nx f4) x3)⟩, k0, tbin_b (op := 20) ks (Or.inl ⟨z, rfl, rfl⟩) ⟨by decide, by decide⟩ kb (by omega) (by omega) ho⟩⟩
      · rw [if_neg z]
        exact Or.inr ⟨_, rfl, Or.inl ⟨M3, j, c, rfl, h3, f3, ⟨d1, d2⟩, ty, ks, bf z⟩⟩
  · change fRec_P1 D 2 SH M 3 = _ at e1
    rw [e1, pb_1, u2_1, if_pos rfl]
    exact Or.inr ⟨M1, k, p, rfl, cb, k0, KTbad_up kb (by omega) (by omega)⟩
theorem test_s {D o : Nat} (ho : o ≤ 7) (hS : FTs T L K (fun M => fRec_P1 D 3 SH M 3) 2 2 1 o (5 + 3 * (7 - o)) tB) : FTs T L K (fun M => fRec_P1 (D + 1) 4 SH M 3) 1 1 0 o (6 + 3 * (7 - o)) tT := by
  intro M fo i C h hC
  have r4 : fRec_P1 (D + 1) 4 SH M 3 = fX6_test_B (fRec_P1 D) SH M 3 := rfl
  dsimp only
  rw [r4]
  unfold fX6_test_B
  rw [kd3, gd_t rfl]
  rcases hS M fo i C h hC with ⟨M1, j1, c1, e1, h1, f1, ⟨b1, b2⟩, ty1, ks1, tl1⟩ | ⟨M1, k, p, e1, cb, k0, kb⟩
  · change fRec_P1 D 3 SH M 3 = _ at e1
    rw [e1, pb_1, u2_1, if_neg (by decide)]
    have key := lp_rel (body := u2 (fX6_test_L11 (fRec_P1 D) SH 3)) (P := fun q (t : Int × AwM) => t.1 = (q : Int) ∧ ∃ j c, CFo T L K t.2 fo j o (C ++ c) ∧ ffr fo t.2 M ∧ (i + c.length ≤ j ∧ i < j ∧ 2 * q < j) ∧ Ty c true (6 + 3 * (7 - o)) ∧ KTok T L K 1 1 0 i o j c ∧ tB (tks T L j)) (X := fun r : AwM ⊕ AwM => (∃ M' j c, r = .inl M' ∧ CFo T L K M' fo j o (C ++ c) ∧ ffr fo M' M ∧ (i + c.length ≤ j ∧ i < j) ∧ Ty c true (6 + 3 * (7 - o)) ∧ KTok T L K 1 1 0 i o j c ∧ tT (tks T L j)) ∨ (∃ M' k p, r = .inr M' ∧ CBAD fo M' M k p ∧ 0 < k ∧ KTbad T L K 1 0 i o k p)) (n := 900) ?_ FU (0, M1) (FU_gt (by omega)) ⟨rfl, j1, c1, h1, f1, ⟨b1, b2, by omega⟩, Ty_le ty1 (by omega), KTok_up ks1 ⟨by omega, by omega⟩ (by omega), tl1⟩
    · obtain ⟨r, er, hr⟩ := key
      rw [er, pb_1]
      rcases hr with ⟨M', j, c, rfl, a⟩ | ⟨M', k, p, rfl, a⟩
      · exact Or.inl ⟨M', j, c, rfl, a⟩
      · exact Or.inr ⟨M', k, p, rfl, a⟩
    · rintro q ⟨n, M3⟩ hq ⟨hn, j, c, h3, f3, ⟨d1, d2, d3⟩, ty, ks, tl⟩
      change n = (q : Int) at hn
      change CFo T L K M3 fo j o (C ++ c) at h3
      change ffr fo M3 M at f3
      subst hn
      have jK := h3.sc.1
      rw [u2_1]
      unfold fX6_test_L11
      rw [if_pos (show (q : Int) < 1600 by omega), kd3, gd_t rfl, ly3_0 h3.lay, kd4, gd_t rfl, cW_n h3.sc (c := 17), pb_1, u1_1, bi_if]
      by_cases z : ow (tks T L j) 17 = true
      · have kj := ow_t.mp z
        obtain ⟨M4, e4, h4, f4⟩ := cnext_n h3 (by omega)
        rw [if_pos z, e4, pb_1, u1_1]
        rcases hS M4 fo (j + 1) (C ++ c) h4 (by rw [List.length_append]; omega) with ⟨M5, j5, c5, e5, h5, f5, ⟨g1, g2⟩, ty5, ks5, tl5⟩ | ⟨M5, k, p, e5, ⟨x1, x2, x3⟩, k0, kb⟩
        · change fRec_P1 D 3 SH M4 3 = _ at e5
          have q2 : M5 3 2 = fo := h5.1.2.2.2.1
          obtain ⟨M6, e6, h6, f6⟩ := cadd_n h5 (c := -8) (v := -8) rfl (by rw [List.length_append, List.length_append]; omega)
          rw [e5, pb_1, u2_1, if_neg (by decide), q2, kqo0 h.2.1, gd_t rfl, e6, pb_1, u1_1, w32_s (v := (q : Int) + 1) (by omega) (by omega)]
          have jK5 := h5.sc.1
          have kk : KTok T L K 1 1 0 i o j5 (c ++ c5 ++ [-8]) := tbin (op := 21) ks (Or.inr ⟨z, rfl, rfl⟩) ⟨by decide, by decide, by decide⟩ ks5 ⟨by omega, by omega⟩ (by omega) ho
          refine Or.inl ⟨by omega, _, rfl, by dsimp only; omega, j5, c ++ c5 ++ [-8], ?_, ffr_tr f3 (ffr_tr (ffr_nx f4) (ffr_tr f5 f6)), ⟨?_, by omega, by omega⟩, ?_, kk, tl5⟩
          · rw [← List.append_assoc, ← List.append_assoc]; exact h6
          · rw [List.length_append, List.length_append, List.length_singleton]; omega
          · exact Ty_le (Ty_2 ty ty5 (ft_ao (Or.inr rfl)) (by omega)) (by omega)
        · change fRec_P1 D 3 SH M4 3 = _ at e5
          rw [e5, pb_1, u2_1, if_pos rfl]
          exact Or.inr ⟨_, rfl, Or.inr ⟨M5, k, p, rfl, ⟨x1, x2, ffr_tr f3 (ffr_tr (ffr_nx f4) x3)⟩, k0, tbin_b (op := 21) ks (Or.inr ⟨z, rfl, rfl⟩) ⟨by decide, by decide⟩ kb (by omega) (by omega) ho⟩⟩
      · rw [if_neg z]
        exact Or.inr ⟨_, rfl, Or.inl ⟨M3, j, c, rfl, h3, f3, ⟨d1, d2⟩, ty, ks, tl, bf z⟩⟩
  · change fRec_P1 D 3 SH M 3 = _ at e1
    rw [e1, pb_1, u2_1, if_pos rfl]
    exact Or.inr ⟨M1, k, p, rfl, cb, k0, KTbad_up kb (by omega) (by omega)⟩
/-- every fact and test -/
theorem tests : ∀ (n o : Nat), o + n = 7 → (∀ D, 4 * n + 2 ≤ D → FTs T L K (fun M => fRec_P1 D 2 SH M 3) 4 3 2 o (4 + 3 * (7 - o)) (fun _ => True)) ∧ (∀ D, 4 * n + 4 ≤ D → FTs T L K (fun M => fRec_P1 D 4 SH M 3) 1 1 0 o (6 + 3 * (7 - o)) tT) := by
  have stp : ∀ (n o : Nat), o + n = 7 → (∀ D, 4 * n + 2 ≤ D → FTs T L K (fun M => fRec_P1 D 2 SH M 3) 4 3 2 o (4 + 3 * (7 - o)) (fun _ => True)) → (∀ D, 4 * n + 4 ≤ D → FTs T L K (fun M => fRec_P1 D 4 SH M 3) 1 1 0 o (6 + 3 * (7 - o)) tT) := fun n o hn hF D hD => by
    obtain ⟨D, rfl⟩ : ∃ d, D = d + 2 := ⟨D - 2, by omega⟩
    exact test_s (by omega) (both_s (by omega) (hF D (by omega)))
  intro n
  induction n with
  | zero =>
    intro o hn
    have hF : ∀ D, 4 * 0 + 2 ≤ D → FTs T L K (fun M => fRec_P1 D 2 SH M 3) 4 3 2 o (4 + 3 * (7 - o)) (fun _ => True) := fun D hD => by
      obtain ⟨D, rfl⟩ : ∃ d, D = d + 2 := ⟨D - 2, by omega⟩
      exact fact_s (by omega) (fun z => by omega) (fun z => by omega)
    exact ⟨hF, stp 0 o hn hF⟩
  | succ n ih =>
    intro o hn
    have hF : ∀ D, 4 * (n + 1) + 2 ≤ D → FTs T L K (fun M => fRec_P1 D 2 SH M 3) 4 3 2 o (4 + 3 * (7 - o)) (fun _ => True) := fun D hD => by
      obtain ⟨D, rfl⟩ : ∃ d, D = d + 2 := ⟨D - 2, by omega⟩
      obtain ⟨a, c⟩ := ih (o + 1) (by omega)
      exact fact_s (by omega) (fun z => a D (by omega)) (fun z => c D (by omega))
    exact ⟨hF, stp (n + 1) o hn hF⟩
end PCTE
