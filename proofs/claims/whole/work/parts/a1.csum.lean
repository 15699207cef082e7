/-! the class reads a product and a sum -/
section PCSU
variable {T : Int → Int} {L K : Nat}
def pdd (x : Tk) : Int := if sg x 42 = true then -17 else if sg x 47 = true then -18 else if sg x 37 = true then -19 else -1
section
variable {M : AwM} {fo : Int} {i o : Nat} {C : List Int}
theorem pdd_n (h : CFo T L K M fo i o C) : fX6_productDeed SH M 3 = some (pdd (tks T L i)) := by
  unfold fX6_productDeed pdd
  rw [kd3, gd_t rfl, ly3_0 h.lay, kd4, gd_t rfl]
  simp only [cS_n h.sc, pb_1, u1_1, bi_if]
  by_cases a : sg (tks T L i) 42 = true
  · rw [if_pos a, if_pos a]
  · rw [if_neg a, if_neg a]
    by_cases a : sg (tks T L i) 47 = true
    · rw [if_pos a, if_pos a]
    · rw [if_neg a, if_neg a]
      by_cases a : sg (tks T L i) 37 = true
      · rw [if_pos a, if_pos a]
      · rw [if_neg a, if_neg a]
end
theorem pdd_k {x : Tk} (h : pdd x ≠ -1) : (ar x = true ∧ leA x = 6 ∧ rk (opA x) = 6 ∧ cel (opA x) = pdd x) ∧ (pdd x = -17 ∨ pdd x = -18 ∨ pdd x = -19) := by
  have v : ∀ c : Int, sg x c = true → ∀ d : Int, d ≠ c → sg x d = false := fun c hc d hd => bf (fun q => hd ((sg_t.mp q).2.symm.trans (sg_t.mp hc).2))
  unfold pdd at h ⊢
  unfold ar leA opA
  by_cases a : sg x 42 = true
  · rw [v 42 a 43 (by decide), v 42 a 45 (by decide), a, v 42 a 47 (by decide), v 42 a 37 (by decide)]
    exact ⟨⟨rfl, rfl, rfl, rfl⟩, Or.inl rfl⟩
  · rw [if_neg a] at h ⊢
    by_cases b : sg x 47 = true
    · rw [v 47 b 43 (by decide), v 47 b 45 (by decide), b, v 47 b 42 (by decide), v 47 b 37 (by decide)]
      exact ⟨⟨rfl, rfl, rfl, rfl⟩, Or.inr (Or.inl rfl)⟩
    · rw [if_neg b] at h ⊢
      by_cases c : sg x 37 = true
      · rw [v 37 c 43 (by decide), v 37 c 45 (by decide), c, v 37 c 42 (by decide), v 37 c 47 (by decide)]
        exact ⟨⟨rfl, rfl, rfl, rfl⟩, Or.inr (Or.inr rfl)⟩
      · rw [if_neg c] at h; exact absurd rfl h
theorem pdd_f {x : Tk} (h : pdd x = -1) : sg x 42 = false ∧ sg x 47 = false ∧ sg x 37 = false := by
  unfold pdd at h
  by_cases a : sg x 42 = true
  · rw [if_pos a] at h; exact absurd h (by decide)
  · rw [if_neg a] at h
    by_cases b : sg x 47 = true
    · rw [if_pos b] at h; exact absurd h (by decide)
    · rw [if_neg b] at h
      by_cases c : sg x 37 = true
      · rw [if_pos c] at h; exact absurd h (by decide)
      · exact ⟨bf a, bf b, bf c⟩
def tP (x : Tk) : Prop := pdd x = -1
theorem prod_s {D o : Nat} (ho : o ≤ 7) (hS : FSp T L K (fun M => fRec_P0 D 2 SH M 3 0) 7 5 o (1 + 3 * (7 - o)) (fun _ => True)) : FSp T L K (fun M => fRec_P0 (D + 1) 3 SH M 3 0) 6 4 o (2 + 3 * (7 - o)) tP := by
  intro M fo i C h hC
  have r3 : fRec_P0 (D + 1) 3 SH M 3 0 = fX6_product_B (fRec_P0 D) SH M 3 := rfl
  dsimp only
  rw [r3]
  unfold fX6_product_B
  rw [kd3, gd_t rfl]
  rcases hS M fo i C h hC with ⟨M1, j1, c1, e1, h1, f1, ⟨b1, b2⟩, ty1, ks1, _⟩ | ⟨M1, k, p, e1, cb, k0, kb⟩
  · change fRec_P0 D 2 SH M 3 0 = _ at e1
    rw [e1, pb_1, u2_1, if_neg (by decide), pdd_n h1, pb_1, u1_1]
    have key := lp_rel (body := u3 (fX6_product_L16 (fRec_P0 D) SH 3)) (P := fun q (t : Int × Int × AwM) => t.2.1 = (q : Int) ∧ ∃ j c, t.1 = pdd (tks T L j) ∧ CFo T L K t.2.2 fo j o (C ++ c) ∧ ffr fo t.2.2 M ∧ (i + c.length ≤ j ∧ i < j ∧ 2 * q < j) ∧ Ty c false (2 + 3 * (7 - o)) ∧ KSok T L K 6 4 i o j c) (X := fun r : AwM ⊕ AwM => (∃ M' j c, r = .inl M' ∧ CFo T L K M' fo j o (C ++ c) ∧ ffr fo M' M ∧ (i + c.length ≤ j ∧ i < j) ∧ Ty c false (2 + 3 * (7 - o)) ∧ KSok T L K 6 4 i o j c ∧ tP (tks T L j)) ∨ (∃ M' k p, r = .inr M' ∧ CBAD fo M' M k p ∧ 0 < k ∧ KSbad T L K 6 4 i o k p)) (n := 900) ?_ FU (pdd (tks T L j1), 0, M1) (FU_gt (by omega)) ⟨rfl, j1, c1, rfl, h1, f1, ⟨b1, b2, by omega⟩, Ty_le ty1 (by omega), KSok_up ks1 (by omega) (by omega)⟩
    · obtain ⟨r, er, hr⟩ := key
      rw [er, pb_1]
      rcases hr with ⟨M', j, c, rfl, a⟩ | ⟨M', k, p, rfl, a⟩
      · exact Or.inl ⟨M', j, c, rfl, a⟩
      · exact Or.inr ⟨M', k, p, rfl, a⟩
    · rintro q ⟨v, n, M3⟩ hq ⟨hn, j, c, hv, h3, f3, ⟨d1, d2, d3⟩, ty, ks⟩
      change n = (q : Int) at hn
      change v = _ at hv
      change CFo T L K M3 fo j o (C ++ c) at h3
      change ffr fo M3 M at f3
      subst hn hv
      have jK := h3.sc.1
      rw [u3_1]
      unfold fX6_product_L16
      rw [if_pos (show (q : Int) < 1600 by omega)]
      by_cases z : pdd (tks T L j) = -1
      · rw [if_pos z]
        exact Or.inr ⟨_, rfl, Or.inl ⟨M3, j, c, rfl, h3, f3, ⟨d1, d2⟩, ty, ks, z⟩⟩
      · obtain ⟨⟨a1, a2, a3, a4⟩, dv⟩ := pdd_k z
        have kj := ar_k a1
        obtain ⟨M4, e4, h4, f4⟩ := cnext_n h3 (by omega)
        rw [if_neg z, kd3, gd_t rfl, ly3_0 h3.lay, kd4, gd_t rfl, e4, pb_1, u1_1]
        rcases hS M4 fo (j + 1) (C ++ c) h4 (by rw [List.length_append]; omega) with ⟨M5, j5, c5, e5, h5, f5, ⟨g1, g2⟩, ty5, ks5, _⟩ | ⟨M5, k, p, e5, ⟨x1, x2, x3⟩, k0, kb⟩
        · change fRec_P0 D 2 SH M4 3 0 = _ at e5
          have q2 : M5 3 2 = fo := h5.1.2.2.2.1
          obtain ⟨M6, e6, h6, f6⟩ := cadd_n h5 (c := pdd (tks T L j)) (v := pdd (tks T L j)) (by unfold cce; rw [if_neg (by omega)]) (by rw [List.length_append, List.length_append]; omega)
          rw [e5, pb_1, u2_1, if_neg (by decide), q2, kqo0 h.2.1, gd_t rfl, e6, pb_1, u1_1, pdd_n h6, pb_1, u1_1, w32_s (v := (q : Int) + 1) (by omega) (by omega)]
          have jK5 := h5.sc.1
          have kk := kbin ks a1 ⟨a2, a3⟩ ks5 ⟨by omega, by omega⟩ (by omega) ho
          rw [a4] at kk
          refine Or.inl ⟨by omega, _, rfl, by dsimp only; omega, j5, c ++ c5 ++ [pdd (tks T L j)], rfl, ?_, ffr_tr f3 (ffr_tr (ffr_nx f4) (ffr_tr f5 f6)), ⟨?_, by omega, by omega⟩, ?_, kk⟩
          · rw [← List.append_assoc, ← List.append_assoc]; exact h6
          · rw [List.length_append, List.length_append, List.length_singleton]; omega
          · have t2 := Ty_2 ty (Ty_le ty5 (show 1 + 3 * (7 - o) ≤ 1 + 3 * (7 - o) from Nat.le_refl _)) (ft_ar (by omega : pdd (tks T L j) = -15 ∨ pdd (tks T L j) = -16 ∨ pdd (tks T L j) = -17 ∨ pdd (tks T L j) = -18 ∨ pdd (tks T L j) = -19 ∨ pdd (tks T L j) = -10 ∨ pdd (tks T L j) = -11)) (by omega)
            exact Ty_le t2 (by omega)
        · change fRec_P0 D 2 SH M4 3 0 = _ at e5
          rw [e5, pb_1, u2_1, if_pos rfl]
          exact Or.inr ⟨_, rfl, Or.inr ⟨M5, k, p, rfl, ⟨x1, x2, ffr_tr f3 (ffr_tr (ffr_nx f4) x3)⟩, k0, kbin_b ks a1 ⟨a2, a3⟩ kb (by omega) (by omega) ho⟩⟩
  · change fRec_P0 D 2 SH M 3 0 = _ at e1
    rw [e1, pb_1, u2_1, if_pos rfl]
    exact Or.inr ⟨M1, k, p, rfl, cb, k0, KSbad_up kb (by omega) (by omega)⟩
def sdd (x : Tk) : Int := if sg x 43 = true then -15 else -16
theorem sdd_k {x : Tk} (h : sg x 43 = true ∨ sg x 45 = true) : ar x = true ∧ leA x = 5 ∧ rk (opA x) = 5 ∧ cel (opA x) = sdd x := by
  have v : ∀ c : Int, sg x c = true → ∀ d : Int, d ≠ c → sg x d = false := fun c hc d hd => bf (fun q => hd ((sg_t.mp q).2.symm.trans (sg_t.mp hc).2))
  unfold sdd ar leA opA
  by_cases a : sg x 43 = true
  · rw [a, v 43 a 45 (by decide), v 43 a 42 (by decide), v 43 a 47 (by decide), v 43 a 37 (by decide)]
    exact ⟨rfl, rfl, rfl, rfl⟩
  · have b := h.resolve_left a
    rw [bf a, b, v 45 b 42 (by decide), v 45 b 47 (by decide), v 45 b 37 (by decide)]
    exact ⟨rfl, rfl, rfl, rfl⟩
theorem sum_s {D o : Nat} (ho : o ≤ 7) (hS : FSp T L K (fun M => fRec_P0 D 3 SH M 3 0) 6 4 o (2 + 3 * (7 - o)) tP) : FSp T L K (fun M => fRec_P0 (D + 1) 4 SH M 3 0) 5 3 o (3 + 3 * (7 - o)) tS := by
  intro M fo i C h hC
  have r4 : fRec_P0 (D + 1) 4 SH M 3 0 = fX6_sum_B (fRec_P0 D) SH M 3 := rfl
  dsimp only
  rw [r4]
  unfold fX6_sum_B
  rw [kd3, gd_t rfl]
  rcases hS M fo i C h hC with ⟨M1, j1, c1, e1, h1, f1, ⟨b1, b2⟩, ty1, ks1, tl1⟩ | ⟨M1, k, p, e1, cb, k0, kb⟩
  · change fRec_P0 D 3 SH M 3 0 = _ at e1
    rw [e1, pb_1, u2_1, if_neg (by decide)]
    have key := lp_rel (body := u2 (fX6_sum_L11 (fRec_P0 D) SH 3)) (P := fun q (t : Int × AwM) => t.1 = (q : Int) ∧ ∃ j c, CFo T L K t.2 fo j o (C ++ c) ∧ ffr fo t.2 M ∧ (i + c.length ≤ j ∧ i < j ∧ 2 * q < j) ∧ Ty c false (3 + 3 * (7 - o)) ∧ KSok T L K 5 3 i o j c ∧ tP (tks T L j)) (X := fun r : AwM ⊕ AwM => (∃ M' j c, r = .inl M' ∧ CFo T L K M' fo j o (C ++ c) ∧ ffr fo M' M ∧ (i + c.length ≤ j ∧ i < j) ∧ Ty c false (3 + 3 * (7 - o)) ∧ KSok T L K 5 3 i o j c ∧ tS (tks T L j)) ∨ (∃ M' k p, r = .inr M' ∧ CBAD fo M' M k p ∧ 0 < k ∧ KSbad T L K 5 3 i o k p)) (n := 900) ?_ FU (0, M1) (FU_gt (by omega)) ⟨rfl, j1, c1, h1, f1, ⟨b1, b2, by omega⟩, Ty_le ty1 (by omega), KSok_up ks1 (by omega) (by omega), tl1⟩
    · obtain ⟨r, er, hr⟩ := key
      rw [er, pb_1]
      rcases hr with ⟨M', j, c, rfl, a⟩ | ⟨M', k, p, rfl, a⟩
      · exact Or.inl ⟨M', j, c, rfl, a⟩
      · exact Or.inr ⟨M', k, p, rfl, a⟩
    · rintro q ⟨n, M3⟩ hq ⟨hn, j, c, h3, f3, ⟨d1, d2, d3⟩, ty, ks, tl⟩
      change n = (q : Int) at hn
      change CFo T L K M3 fo j o (C ++ c) at h3
      change ffr fo M3 M at f3
      subst hn
      have jK := h3.sc.1
      rw [u2_1]
      unfold fX6_sum_L11 fX6_sum_J42_11
      rw [if_pos (show (q : Int) < 1600 by omega), kd3, gd_t rfl, ly3_0 h3.lay, kd4, gd_t rfl]
      simp only [cS_n h3.sc, pb_1, u1_1, bi_if, gdT]
      by_cases z : sg (tks T L j) 43 = true ∨ sg (tks T L j) 45 = true
      · obtain ⟨a1, a2, a3, a4⟩ := sdd_k z
        have kj := ar_k a1
        have sv : sdd (tks T L j) = -15 ∨ sdd (tks T L j) = -16 := by
          unfold sdd; split
          · exact Or.inl rfl
          · exact Or.inr rfl
        have pre : ∀ Y, (if sg (tks T L j) 43 = true then (if sg (tks T L j) 43 = true then fX6_sum_J61_11 (fRec_P0 D) SH M3 3 (q : Int) (-15) else fX6_sum_J61_11 (fRec_P0 D) SH M3 3 (q : Int) (-16)) else if sg (tks T L j) 45 = true then (if sg (tks T L j) 43 = true then fX6_sum_J61_11 (fRec_P0 D) SH M3 3 (q : Int) (-15) else fX6_sum_J61_11 (fRec_P0 D) SH M3 3 (q : Int) (-16)) else Y) = fX6_sum_J61_11 (fRec_P0 D) SH M3 3 (q : Int) (sdd (tks T L j)) := fun Y => by
          unfold sdd
          by_cases w : sg (tks T L j) 43 = true
          · rw [if_pos w, if_pos w, if_pos w]
          · rw [if_neg w, if_pos (z.resolve_left w), if_neg w, if_neg w]
        rw [pre]
        unfold fX6_sum_J61_11
        obtain ⟨M4, e4, h4, f4⟩ := cnext_n h3 (by omega)
        rw [kd3, gd_t rfl, ly3_0 h3.lay, kd4, gd_t rfl, e4, pb_1, u1_1]
        rcases hS M4 fo (j + 1) (C ++ c) h4 (by rw [List.length_append]; omega) with ⟨M5, j5, c5, e5, h5, f5, ⟨g1, g2⟩, ty5, ks5, tl5⟩ | ⟨M5, k, p, e5, ⟨x1, x2, x3⟩, k0, kb⟩
        · change fRec_P0 D 3 SH M4 3 0 = _ at e5
          have q2 : M5 3 2 = fo := h5.1.2.2.2.1
          obtain ⟨M6, e6, h6, f6⟩ := cadd_n h5 (c := sdd (tks T L j)) (v := sdd (tks T L j)) (by unfold cce; rw [if_neg (by omega)]) (by rw [List.length_append, List.length_append]; omega)
          rw [e5, pb_1, u2_1, if_neg (by decide), q2, kqo0 h.2.1, gd_t rfl, e6, pb_1, u1_1, w32_s (v := (q : Int) + 1) (by omega) (by omega)]
          have jK5 := h5.sc.1
          have kk := kbin ks a1 ⟨a2, a3⟩ ks5 ⟨by omega, by omega⟩ (by omega) ho
          rw [a4] at kk
          refine Or.inl ⟨by omega, _, rfl, by dsimp only; omega, j5, c ++ c5 ++ [sdd (tks T L j)], ?_, ffr_tr f3 (ffr_tr (ffr_nx f4) (ffr_tr f5 f6)), ⟨?_, by omega, by omega⟩, ?_, kk, tl5⟩
          · rw [← List.append_assoc, ← List.append_assoc]; exact h6
          · rw [List.length_append, List.length_append, List.length_singleton]; omega
          · have t2 := Ty_2 ty ty5 (ft_ar (by omega : sdd (tks T L j) = -15 ∨ sdd (tks T L j) = -16 ∨ sdd (tks T L j) = -17 ∨ sdd (tks T L j) = -18 ∨ sdd (tks T L j) = -19 ∨ sdd (tks T L j) = -10 ∨ sdd (tks T L j) = -11)) (by omega)
            exact Ty_le t2 (by omega)
        · change fRec_P0 D 3 SH M4 3 0 = _ at e5
          rw [e5, pb_1, u2_1, if_pos rfl]
          exact Or.inr ⟨_, rfl, Or.inr ⟨M5, k, p, rfl, ⟨x1, x2, ffr_tr f3 (ffr_tr (ffr_nx f4) x3)⟩, k0, kbin_b ks a1 ⟨a2, a3⟩ kb (by omega) (by omega) ho⟩⟩
      · have n43 : sg (tks T L j) 43 = false := bf (fun w => z (Or.inl w))
        have n45 : sg (tks T L j) 45 = false := bf (fun w => z (Or.inr w))
        rw [n43, n45, if_neg (show ¬ (false : Bool) = true by decide), if_neg (show ¬ (false : Bool) = true by decide)]
        refine Or.inr ⟨_, rfl, Or.inl ⟨M3, j, c, rfl, h3, f3, ⟨d1, d2⟩, ty, ks, ?_⟩⟩
        obtain ⟨w1, w2, w3⟩ := pdd_f tl
        show ar (tks T L j) = false
        unfold ar
        rw [n43, n45, w1, w2, w3]
        rfl
  · change fRec_P0 D 3 SH M 3 0 = _ at e1
    rw [e1, pb_1, u2_1, if_pos rfl]
    exact Or.inr ⟨M1, k, p, rfl, cb, k0, KSbad_up kb (by omega) (by omega)⟩
/-- every sum -/
theorem sums : ∀ (n o D : Nat), o + n = 7 → 4 * n + 4 ≤ D → FSp T L K (fun M => fRec_P0 D 4 SH M 3 0) 5 3 o (3 + 3 * (7 - o)) tS
  | n, o, D, hn, hD => by
    obtain ⟨D, rfl⟩ : ∃ d, D = d + 4 := ⟨D - 4, by omega⟩
    refine sum_s (by omega) (prod_s (by omega) (part_s (D := D) (by omega) (fun ho => ?_)))
    cases n with
    | zero => omega
    | succ m =>
      have ih := sums m (o + 1) D (by omega) (by omega)
      rw [show 3 + 3 * (7 - (o + 1)) = 3 * (7 - o) by omega] at ih
      exact ih
end PCSU
