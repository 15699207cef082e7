/-! the class reads a part -/
section PCPA
variable {T : Int → Int} {L K : Nat}
def fwv (v : Int) : Int := if v = 3 then 0 else if v = 1 then 1 else if v = 13 then 2 else if v = 14 then 3 else if v = 15 then 4 else if v = 16 then 5 else -1
def fw (x : Tk) : Int := if x.1 = 4 then fwv x.2.1 else -1
theorem fw_all : (List.range 24).all (fun (n : Nat) => decide (fX6_factWord_J22 [] (fun _ _ => 0) ((n : Int) - 1) = some (fwv ((n : Int) - 1)))) = true := by decide +kernel
theorem fw_v {M : AwM} {v : Int} (v0 : -1 ≤ v) (v1 : v < 23) : fX6_factWord_J22 SH M v = some (fwv v) := by
  have a := of_decide_eq_true (List.all_eq_true.mp fw_all (v + 1).toNat (List.mem_range.mpr (by omega)))
  rw [show (((v + 1).toNat : Nat) : Int) - 1 = v by omega] at a
  have e : fX6_factWord_J22 SH M v = fX6_factWord_J22 [] (fun _ _ => 0) v := rfl
  rw [e, a]
section
variable {M : AwM} {fo : Int} {i o : Nat} {C : List Int}
theorem fw_n (h : CFo T L K M fo i o C) : fX6_factWord SH M 3 = some (fw (tks T L i)) := by
  have tok := tks_ok T L i
  have k8 := h.sc.k8
  have k9 := h.sc.k9
  unfold fX6_factWord fw
  rw [kd3, gd_t rfl, ly3_0 h.lay, kd4, gd_t rfl, k8]
  by_cases q : (tks T L i).1 = 4
  · have v := (tok.2.2.2.2.2.2.2.2.1 q).1
    rw [show ckd (tks T L i).1 = 4 by unfold ckd; rw [if_neg (by omega)]; exact q, if_pos (show (4 : Int) = 4 from rfl), if_pos q, k9 (by omega) (by omega), fw_v (by omega) (by omega)]
  · rw [if_neg (show ¬ ckd (tks T L i).1 = 4 by unfold ckd; split <;> omega), if_neg q, fw_v (by omega) (by omega)]; rfl
end
theorem fw_pc {x : Tk} (h2 : x.1 ≠ 2) : (fw x = -1 ∧ pcell x = none) ∨ ((0 ≤ fw x ∧ fw x ≤ 5) ∧ pcell x = some (fw x + 1, 0, -1 - fw x)) := by
  unfold pcell fw
  rw [if_neg h2]
  by_cases q : x.1 = 4
  · rw [if_pos q]
    have ok : ∀ k : Int, ow x k = decide (x.2.1 = k) := fun k => by
      unfold ow
      by_cases e : x.2.1 = k
      · rw [decide_eq_true ⟨q, e⟩, decide_eq_true e]
      · rw [decide_eq_false (fun z => e z.2), decide_eq_false e]
    rw [ok, ok, ok, ok, ok, ok]
    unfold fwv
    by_cases a : x.2.1 = 3
    · rw [if_pos a, if_pos (decide_eq_true a)]; exact Or.inr ⟨by decide, rfl⟩
    · rw [if_neg a, if_neg (show ¬ decide (x.2.1 = 3) = true by rw [decide_eq_false a]; decide)]
      by_cases a : x.2.1 = 1
      · rw [if_pos a, if_pos (decide_eq_true a)]; exact Or.inr ⟨by decide, rfl⟩
      · rw [if_neg a, if_neg (show ¬ decide (x.2.1 = 1) = true by rw [decide_eq_false a]; decide)]
        by_cases a : x.2.1 = 13
        · rw [if_pos a, if_pos (decide_eq_true a)]; exact Or.inr ⟨by decide, rfl⟩
        · rw [if_neg a, if_neg (show ¬ decide (x.2.1 = 13) = true by rw [decide_eq_false a]; decide)]
          by_cases a : x.2.1 = 14
          · rw [if_pos a, if_pos (decide_eq_true a)]; exact Or.inr ⟨by decide, rfl⟩
          · rw [if_neg a, if_neg (show ¬ decide (x.2.1 = 14) = true by rw [decide_eq_false a]; decide)]
            by_cases a : x.2.1 = 15
            · rw [if_pos a, if_pos (decide_eq_true a)]; exact Or.inr ⟨by decide, rfl⟩
            · rw [if_neg a, if_neg (show ¬ decide (x.2.1 = 15) = true by rw [decide_eq_false a]; decide)]
              by_cases a : x.2.1 = 16
              · rw [if_pos a, if_pos (decide_eq_true a)]; exact Or.inr ⟨by decide, rfl⟩
              · rw [if_neg a, if_neg (show ¬ decide (x.2.1 = 16) = true by rw [decide_eq_false a]; decide)]; exact Or.inl ⟨rfl, rfl⟩
  · rw [if_neg q, noW q, noW q, noW q, noW q, noW q, noW q]
    exact Or.inl ⟨rfl, rfl⟩
def tS (x : Tk) : Prop := ar x = false
/-- ( sum ) -/
theorem cpar_n {D o : Nat} (ho : o ≤ 7) (hS : o < 7 → FSp T L K (fun M => fRec_P0 D 4 SH M 3 0) 5 3 (o + 1) (3 * (7 - o)) tS) {M : AwM} {fo : Int} {i : Nat} {C : List Int} (h : CFo T L K M fo i o C) (hC : C.length + 1 ≤ i) (hw : sg (tks T L i) 40 = true) :
    (∃ M' j c, fX6_inParentheses_B (fRec_P0 D) SH M 3 = some (1, M') ∧ CFo T L K M' fo j o (C ++ c) ∧ ffr fo M' M ∧ (i + c.length ≤ j ∧ i < j) ∧ Ty c false (1 + 3 * (7 - o)) ∧ KSok T L K 7 5 i o j c) ∨
    (∃ M' k p, fX6_inParentheses_B (fRec_P0 D) SH M 3 = some (0, M') ∧ CBAD fo M' M k p ∧ 0 < k ∧ KSbad T L K 7 5 i o k p) := by
  have hk := sg_t.mp hw
  obtain ⟨en1, en2⟩ := center_n h (by omega)
  unfold fX6_inParentheses_B
  rw [kd3, gd_t rfl]
  by_cases z : o < 7
  · obtain ⟨M1, e1, h1, f1⟩ := en1 z
    rw [e1, pb_1, u2_1, if_neg (by decide)]
    rcases hS z M1 fo (i + 1) C h1 (by omega) with ⟨M2, j, c, e2, h2, f2, ⟨b1, b2⟩, ty, ks, tl⟩ | ⟨M2, k, p, e2, ⟨b1, b2, b3⟩, k0, kb⟩
    · change fRec_P0 D 4 SH M1 3 0 = _ at e2
      have q3 : M2 3 3 = ((o + 1 : Nat) : Int) := h2.1.2.2.1
      obtain ⟨h3, f3⟩ := copen_n (o' := o) h2 ho
      obtain ⟨s1, s2⟩ := csign_n (c := 41) h3
      rw [e2, pb_1, u2_1, if_neg (by decide), q3, w32_s (v := ((o + 1 : Nat) : Int) - 1) (by omega) (by omega), show ((o + 1 : Nat) : Int) - 1 = (o : Int) by omega, bd_1]
      by_cases zc : sg (tks T L j) 41 = true
      · obtain ⟨M4, e4, h4, f4⟩ := s1 zc
        rw [e4, pb_1, u2_1, gd_t (Or.inr rfl)]
        exact Or.inl ⟨M4, j + 1, c, rfl, h4, ffr_tr f1 (ffr_tr f2 (ffr_tr f3 f4)), ⟨by omega, by omega⟩, Ty_le ty (by omega), ks_par hw z ks tl zc (by omega) (Nat.le_refl _)⟩
      · obtain ⟨M4, e4, c1, c2, c3⟩ := s2 (bf zc)
        rw [e4, pb_1, u2_1, gd_t (Or.inl rfl)]
        exact Or.inr ⟨M4, 1, _, rfl, ⟨c1, c2, ffr_tr f1 (ffr_tr f2 (ffr_tr f3 c3))⟩, by decide, ks_parb hw (Or.inr ⟨z, Or.inr ⟨j, c, ks, tl, bf zc, by omega, rfl, rfl⟩⟩) (Nat.le_refl _)⟩
    · change fRec_P0 D 4 SH M1 3 0 = _ at e2
      rw [e2, pb_1, u2_1, if_pos rfl]
      exact Or.inr ⟨M2, k, p, rfl, ⟨b1, b2, ffr_tr f1 b3⟩, k0, ks_parb hw (Or.inr ⟨z, Or.inl kb⟩) (Nat.le_refl _)⟩
  · obtain ⟨M1, e1, c1, c2, c3⟩ := en2 (by omega)
    rw [e1, pb_1, u2_1, if_pos rfl]
    exact Or.inr ⟨M1, 5, _, rfl, ⟨c1, c2, c3⟩, by decide, ks_parb hw (Or.inl ⟨by omega, rfl, rfl⟩) (Nat.le_refl _)⟩
/-- min ( sum , sum ) -/
theorem cmm_n {D o : Nat} (ho : o ≤ 7) (hS : o < 7 → FSp T L K (fun M => fRec_P0 D 4 SH M 3 0) 5 3 (o + 1) (3 * (7 - o)) tS) {M : AwM} {fo : Int} {i : Nat} {C : List Int} (h : CFo T L K M fo i o C) (hC : C.length + 1 ≤ i) (hw : ow (tks T L i) 21 = true ∨ ow (tks T L i) 22 = true) {v : Int} (hv : v = if ow (tks T L i) 21 = true then -10 else -11) :
    (∃ M' j c, fX6_oneOfTwo_B (fRec_P0 D) SH M 3 v = some (1, M') ∧ CFo T L K M' fo j o (C ++ c) ∧ ffr fo M' M ∧ (i + c.length ≤ j ∧ i < j) ∧ Ty c false (1 + 3 * (7 - o)) ∧ KSok T L K 7 5 i o j c) ∨
    (∃ M' k p, fX6_oneOfTwo_B (fRec_P0 D) SH M 3 v = some (0, M') ∧ CBAD fo M' M k p ∧ 0 < k ∧ KSbad T L K 7 5 i o k p) := by
  have hk : (tks T L i).1 = 4 := by
    rcases hw with q | q <;> have := ow_t.mp q <;> omega
  obtain ⟨M1, e1, h1, f1⟩ := cnext_n h (by omega)
  have vv : v = -10 ∨ v = -11 := by
    rw [hv]; split
    · exact Or.inl rfl
    · exact Or.inr rfl
  unfold fX6_oneOfTwo_B
  rw [kd3, gd_t rfl, ly3_0 h.lay, kd4, gd_t rfl, e1, pb_1, u1_1, ly3_0 h1.lay, kd4, gd_t rfl, cS_n h1.sc, pb_1, u1_1, bi_if]
  by_cases zy : sg (tks T L (i + 1)) 40 = true
  · obtain ⟨en1, en2⟩ := center_n h1 (by have := sg_t.mp zy; omega)
    rw [if_pos zy]
    by_cases z : o < 7
    · obtain ⟨M2, e2, h2, f2⟩ := en1 z
      rw [e2, pb_1, u2_1, if_neg (by decide)]
      rcases hS z M2 fo (i + 1 + 1) C h2 (by omega) with ⟨M3, j, c, e3, h3, f3, ⟨b1, b2⟩, ty, ks, tl⟩ | ⟨M3, k, p, e3, ⟨b1, b2, b3⟩, k0, kb⟩
      · change fRec_P0 D 4 SH M2 3 0 = _ at e3
        obtain ⟨s1, s2⟩ := csign_n (c := 44) h3
        rw [e3, pb_1, u2_1, if_neg (by decide)]
        by_cases zc : sg (tks T L j) 44 = true
        · obtain ⟨M4, e4, h4, f4⟩ := s1 zc
          rw [e4, pb_1, u2_1, if_neg (by decide)]
          rcases hS z M4 fo (j + 1) (C ++ c) h4 (by rw [List.length_append]; omega) with ⟨M5, j2, c2, e5, h5, f5, ⟨d1, d2⟩, ty2, ks2, tl2⟩ | ⟨M5, k, p, e5, ⟨d1, d2, d3⟩, k0, kb⟩
          · change fRec_P0 D 4 SH M4 3 0 = _ at e5
            have q3 : M5 3 3 = ((o + 1 : Nat) : Int) := h5.1.2.2.1
            obtain ⟨h6, f6⟩ := copen_n (o' := o) h5 ho
            have q2 : up_ M5 3 3 (o : Int) 3 2 = fo := h6.1.2.2.2.1
            obtain ⟨M7, e7, h7, f7⟩ := cadd_n h6 (c := v) (v := v) (by unfold cce; rw [if_neg (by omega)]) (by rw [List.length_append, List.length_append]; omega)
            obtain ⟨s3, s4⟩ := csign_n (c := 41) h7
            rw [e5, pb_1, u2_1, if_neg (by decide), q3, w32_s (v := ((o + 1 : Nat) : Int) - 1) (by omega) (by omega), show ((o + 1 : Nat) : Int) - 1 = (o : Int) by omega, bd_1, q2, kqo0 h.2.1, gd_t rfl, e7, pb_1, u1_1]
            by_cases zd : sg (tks T L j2) 41 = true
            · obtain ⟨M8, e8, h8, f8⟩ := s3 zd
              rw [e8, pb_1, u2_1, gd_t (Or.inr rfl)]
              refine Or.inl ⟨M8, j2 + 1, c ++ c2 ++ [v], rfl, ?_, ffr_tr (ffr_nx f1) (ffr_tr f2 (ffr_tr f3 (ffr_tr f4 (ffr_tr f5 (ffr_tr f6 (ffr_tr f7 f8)))))), ⟨?_, by omega⟩, ?_, ?_⟩
              · rw [← List.append_assoc, ← List.append_assoc]; exact h8
              · rw [List.length_append, List.length_append, List.length_singleton]; omega
              · exact Ty_le (Ty_2 ty ty2 (ft_ar (by omega)) (by omega)) (by omega)
              · rw [hv]; exact ks_mm hw zy z ks tl zc ks2 tl2 zd ⟨by omega, by omega⟩ (Nat.le_refl _)
            · obtain ⟨M8, e8, c1, c2', c3⟩ := s4 (bf zd)
              rw [e8, pb_1, u2_1, gd_t (Or.inl rfl)]
              exact Or.inr ⟨M8, 1, _, rfl, ⟨c1, c2', ffr_tr (ffr_nx f1) (ffr_tr f2 (ffr_tr f3 (ffr_tr f4 (ffr_tr f5 (ffr_tr f6 (ffr_tr f7 c3))))))⟩, by decide, ks_mmb hw (Or.inr ⟨zy, Or.inr ⟨z, Or.inr ⟨j, c, ⟨ks, tl, by omega⟩, Or.inr ⟨zc, Or.inr ⟨j2, c2, ks2, tl2, bf zd, by omega, rfl, rfl⟩⟩⟩⟩⟩) (Nat.le_refl _)⟩
          · change fRec_P0 D 4 SH M4 3 0 = _ at e5
            rw [e5, pb_1, u2_1, if_pos rfl]
            exact Or.inr ⟨M5, k, p, rfl, ⟨d1, d2, ffr_tr (ffr_nx f1) (ffr_tr f2 (ffr_tr f3 (ffr_tr f4 d3)))⟩, k0, ks_mmb hw (Or.inr ⟨zy, Or.inr ⟨z, Or.inr ⟨j, c, ⟨ks, tl, by omega⟩, Or.inr ⟨zc, Or.inl kb⟩⟩⟩⟩) (Nat.le_refl _)⟩
        · obtain ⟨M4, e4, c1, c2, c3⟩ := s2 (bf zc)
          rw [e4, pb_1, u2_1, if_pos rfl]
          exact Or.inr ⟨M4, 1, _, rfl, ⟨c1, c2, ffr_tr (ffr_nx f1) (ffr_tr f2 (ffr_tr f3 c3))⟩, by decide, ks_mmb hw (Or.inr ⟨zy, Or.inr ⟨z, Or.inr ⟨j, c, ⟨ks, tl, by omega⟩, Or.inl ⟨bf zc, rfl, rfl⟩⟩⟩⟩) (Nat.le_refl _)⟩
      · change fRec_P0 D 4 SH M2 3 0 = _ at e3
        rw [e3, pb_1, u2_1, if_pos rfl]
        exact Or.inr ⟨M3, k, p, rfl, ⟨b1, b2, ffr_tr (ffr_nx f1) (ffr_tr f2 b3)⟩, k0, ks_mmb hw (Or.inr ⟨zy, Or.inr ⟨z, Or.inl kb⟩⟩) (Nat.le_refl _)⟩
    · obtain ⟨M2, e2, c1, c2, c3⟩ := en2 (by omega)
      rw [e2, pb_1, u2_1, if_pos rfl]
      exact Or.inr ⟨M2, 5, _, rfl, ⟨c1, c2, ffr_tr (ffr_nx f1) c3⟩, by decide, ks_mmb hw (Or.inr ⟨zy, Or.inl ⟨by omega, rfl, rfl⟩⟩) (Nat.le_refl _)⟩
  · rw [if_neg zy, cfail_1 h1.sc h1.lay, pb_1, u2_1, gd_t (Or.inl rfl)]
    obtain ⟨c1, c2, c3⟩ := cbad_u (M := M1) (fo := fo) (k := 1) (p := (tks T L (i + 1)).2.2.2.1)
    exact Or.inr ⟨_, 1, _, rfl, ⟨c1, c2, ffr_tr (ffr_nx f1) c3⟩, by decide, ks_mmb hw (Or.inl ⟨bf zy, rfl, rfl⟩) (Nat.le_refl _)⟩
theorem part_s {D o : Nat} (ho : o ≤ 7) (hS : o < 7 → FSp T L K (fun M => fRec_P0 D 4 SH M 3 0) 5 3 (o + 1) (3 * (7 - o)) tS) : FSp T L K (fun M => fRec_P0 (D + 2) 2 SH M 3 0) 7 5 o (1 + 3 * (7 - o)) (fun _ => True) := by
  intro M fo i C h hC
  have tok := tks_ok T L i
  have q2 : M 3 2 = fo := h.1.2.2.2.1
  have k8 := h.sc.k8
  have r0 : ∀ (M : AwM) (v : Int), fRec_P0 (D + 1) 0 SH M 3 v = fX6_oneOfTwo_B (fRec_P0 D) SH M 3 v := fun _ _ => rfl
  have r1 : ∀ (M : AwM), fRec_P0 (D + 1) 1 SH M 3 0 = fX6_inParentheses_B (fRec_P0 D) SH M 3 := fun _ => rfl
  have r2 : fRec_P0 (D + 2) 2 SH M 3 0 = fX6_part_B (fRec_P0 (D + 1)) SH M 3 := rfl
  dsimp only
  rw [r2]
  unfold fX6_part_B
  rw [kd3, gd_t rfl, ly3_0 h.lay, kd4, gd_t rfl, k8]
  by_cases z2 : (tks T L i).1 = 2
  · have vv := (tok.2.2.2.2.2.2.1 z2).1
    have k9 := h.sc.k9 (by omega) (by omega)
    obtain ⟨M1, e1, h1, f1⟩ := cadd_n h (c := (tks T L i).2.1) (v := (tks T L i).2.1) (by unfold cce; rw [if_neg (by omega)]) hC
    obtain ⟨M2, e2, h2, f2⟩ := cnext_n h1 (by omega)
    rw [show ckd (tks T L i).1 = 2 by unfold ckd; rw [if_neg (by omega)]; exact z2, if_pos rfl, q2, kqo0 h.2.1, gd_t rfl, k9, e1, pb_1, u1_1, ly3_0 h1.lay, kd4, gd_t rfl, e2, pb_1, u1_1]
    exact Or.inl ⟨M2, i + 1, [(tks T L i).2.1], rfl, h2, ffr_tr f1 (ffr_nx f2), ⟨by rw [List.length_singleton]; omega, by omega⟩, Ty_le (Ty_f (Or.inl vv)) (by omega), ks_cell (s := 0) (v := (tks T L i).2.1) (by unfold pcell; rw [if_pos z2]), trivial⟩
  · rw [if_neg (show ¬ ckd (tks T L i).1 = 2 by unfold ckd; split <;> omega), cS_n h.sc, pb_1, u1_1, bi_if]
    by_cases z40 : sg (tks T L i) 40 = true
    · rw [if_pos z40, r1]
      rcases cpar_n ho hS h hC z40 with ⟨M', j, c, e, a1, a2, a3, a4, a5⟩ | ⟨M', k, p, e, a1, a2, a3⟩
      · rw [e, pb_1, u2_1, gd_t (Or.inr rfl)]; exact Or.inl ⟨M', j, c, rfl, a1, a2, a3, a4, a5, trivial⟩
      · rw [e, pb_1, u2_1, gd_t (Or.inl rfl)]; exact Or.inr ⟨M', k, p, rfl, a1, a2, a3⟩
    · rw [if_neg z40]
      simp only [cW_n h.sc, pb_1, u1_1, bi_if]
      by_cases zm : ow (tks T L i) 21 = true ∨ ow (tks T L i) 22 = true
      · have goal : ∀ R : Option (Int × AwM), (pb (fX6_oneOfTwo_B (fRec_P0 D) SH M 3 (if ow (tks T L i) 21 = true then -10 else -11)) (u2 fun (x : Int) (M15 : AwM) => (gd_ (x = 0 ∨ x = 1) (some (x, M15)))) = R) → (∃ M' j c, R = some (1, M') ∧ CFo T L K M' fo j o (C ++ c) ∧ ffr fo M' M ∧ (i + c.length ≤ j ∧ i < j) ∧ Ty c false (1 + 3 * (7 - o)) ∧ KSok T L K 7 5 i o j c ∧ True) ∨ (∃ M' k p, R = some (0, M') ∧ CBAD fo M' M k p ∧ 0 < k ∧ KSbad T L K 7 5 i o k p) := fun R hR => by
          rw [← hR]
          rcases cmm_n ho hS h hC zm rfl with ⟨M', j, c, e, a1, a2, a3, a4, a5⟩ | ⟨M', k, p, e, a1, a2, a3⟩
          · rw [e, pb_1, u2_1, gd_t (Or.inr rfl)]; exact Or.inl ⟨M', j, c, rfl, a1, a2, a3, a4, a5, trivial⟩
          · rw [e, pb_1, u2_1, gd_t (Or.inl rfl)]; exact Or.inr ⟨M', k, p, rfl, a1, a2, a3⟩
        apply goal
        by_cases z21 : ow (tks T L i) 21 = true
        · rw [if_pos z21, if_pos z21, if_pos z21, r0]
        · rw [if_neg z21, if_neg z21, if_pos (zm.resolve_left z21), if_neg z21, r0]
      · have n21 : ow (tks T L i) 21 = false := bf (fun q => zm (Or.inl q))
        have n22 : ow (tks T L i) 22 = false := bf (fun q => zm (Or.inr q))
        rw [n21, n22, if_neg (show ¬ (false : Bool) = true by decide), if_neg (show ¬ (false : Bool) = true by decide), fw_n h, pb_1, u1_1]
        rcases fw_pc z2 with ⟨a, p⟩ | ⟨a, p⟩
        · rw [if_pos a, cfail_1 h.sc h.lay, pb_1, u2_1, gd_t (Or.inl rfl)]
          exact Or.inr ⟨_, 1, _, rfl, cbad_u, by decide, ks_bad (bf z40) n21 n22 p⟩
        · have hk : (tks T L i).1 = 4 := by
            refine Classical.byContradiction fun q => ?_
            have := a.1
            unfold fw at this
            rw [if_neg q] at this
            exact absurd this (by decide)
          obtain ⟨M1, e1, h1, f1⟩ := cadd_n h (c := -1 - fw (tks T L i)) (v := -1 - fw (tks T L i)) (by unfold cce; rw [if_neg (by omega)]) hC
          obtain ⟨M2, e2, h2, f2⟩ := cnext_n h1 (by omega)
          rw [if_neg (by omega), q2, kqo0 h.2.1, gd_t rfl, w32_s (v := -1 - fw (tks T L i)) (by omega) (by omega), e1, pb_1, u1_1, ly3_0 h1.lay, kd4, gd_t rfl, e2, pb_1, u1_1]
          exact Or.inl ⟨M2, i + 1, [-1 - fw (tks T L i)], rfl, h2, ffr_tr f1 (ffr_nx f2), ⟨by rw [List.length_singleton]; omega, by omega⟩, Ty_le (Ty_f (Or.inr (by omega))) (by omega), ks_cell p, trivial⟩
end PCPA
