/-! the model tells goods, what fades, what is in vogue -/
section PMGD
variable {T : Int → Int} {L K : Nat} {b : Int} {D M : AwM} {i : Nat}
theorem MD_G {nm wo se : Int} (h : MD T L K M b D i) (hD : DC D) (hd : 0 ≤ D 0 2 ∧ D 0 2 < 10) (hn : M 189 (10 * b + D 0 2) = n8 nm) (hw : M 177 (10 * b + D 0 2) = wo) (hs : M 178 (10 * b + D 0 2) = se) : MD T L K (up_ M 176 b (D 0 2 + 1)) b (dG D nm wo se) i := by
  have f : mdf b (up_ M 176 b (D 0 2 + 1)) M := mdf_up (Or.inl (Or.inl ⟨Or.inr (Or.inr (Or.inl rfl)), rfl⟩))
  have ne : ∀ a j : Int, a ≠ 176 → up_ M 176 b (D 0 2 + 1) a j = M a j := fun a j x => up_of x
  have p00 : dG D nm wo se 0 2 = D 0 2 + 1 := up_at
  have p0 : ∀ k : Int, k ≠ 2 → dG D nm wo se 0 k = D 0 k := fun k hk => by unfold dG; rw [up_oi hk, up_of (by decide), up_of (by decide), up_of (by decide)]
  have pk : ∀ a : Int, a ≠ 0 → a ≠ 3 → a ≠ 4 → a ≠ 5 → dG D nm wo se a = D a := fun a x y z w => by
    funext j; unfold dG; rw [up_of x, up_of z, up_of y, up_of w]
  obtain ⟨_, ⟨⟨s1, s2, s3, s4, s5⟩, r1, r2, r3, r4, r5, r6, r7⟩, c, _⟩ := id h
  refine MD_s h f (fun a j x => ne a j (by omega)) ⟨⟨by rw [ne _ _ (by decide), p0 0 (by decide)]; exact s1, by rw [ne _ _ (by decide), p0 1 (by decide)]; exact s2, by rw [up_at, p00], by rw [ne _ _ (by decide), p0 3 (by decide)]; exact s4, by rw [ne _ _ (by decide), p0 4 (by decide)]; exact s5⟩, fun p x y => ?_, fun p x y => ?_, fun p x y => ?_, fun p x y => ?_, ?_, ?_, fun k w x y z u => ?_⟩ (fun c' x y => ?_) ⟨pk 6 (by decide) (by decide) (by decide) (by decide), pk 7 (by decide) (by decide) (by decide) (by decide), ne _ _ (by decide), ne _ _ (by decide)⟩
  · rw [p0 0 (by decide)] at y; rw [ne _ _ (by decide), pk 1 (by decide) (by decide) (by decide) (by decide)]; exact r1 p x y
  · rw [p0 1 (by decide)] at y; rw [ne _ _ (by decide), pk 2 (by decide) (by decide) (by decide) (by decide)]; exact r2 p x y
  · have e1p : dG D nm wo se 3 p = if p = D 0 2 then wo else D 3 p := by
      unfold dG; rw [up_of (by decide), up_of (by decide)]; by_cases q : p = D 0 2
      · rw [if_pos q, q, up_at]
      · rw [if_neg q, up_oi q, up_of (by decide)]
    rw [ne _ _ (by decide), e1p]
    rw [p00] at y
    by_cases q : p = D 0 2
    · rw [if_pos q, q]; exact hw
    · rw [if_neg q]; exact r3 p x (by omega)
  · have e1p : dG D nm wo se 4 p = if p = D 0 2 then se else D 4 p := by
      unfold dG; rw [up_of (by decide)]; by_cases q : p = D 0 2
      · rw [if_pos q, q, up_at]
      · rw [if_neg q, up_oi q, up_of (by decide), up_of (by decide)]
    rw [ne _ _ (by decide), e1p]
    rw [p00] at y
    by_cases q : p = D 0 2
    · rw [if_pos q, q]; exact hs
    · rw [if_neg q]; exact r4 p x (by omega)
  · rw [pk 6 (by decide) (by decide) (by decide) (by decide)]; exact MF_fr r5 (fun a j x => ne a j (by omega))
  · rw [pk 7 (by decide) (by decide) (by decide) (by decide)]; exact MF_fr r6 (fun a j x => ne a j (by omega))
  · have e5 : dG D nm wo se 5 (12 * k + w) = if 12 * k + w = 12 * 2 + D 0 2 then nm else D 5 (12 * k + w) := by
      unfold dG; rw [up_of (by decide), up_of (by decide), up_of (by decide)]; by_cases q : 12 * k + w = 12 * 2 + D 0 2
      · rw [if_pos q, q, up_at]
      · rw [if_neg q, up_oi q]
    rw [mnm_u (fun a j x y => ne a j (by omega)), e5]
    by_cases k0 : k = 2
    · subst k0
      rw [p00] at u
      by_cases q : w = D 0 2
      · rw [if_pos (by omega), q]; unfold mnm; rw [if_neg (by decide), if_neg (by decide)]; exact hn
      · rw [if_neg (by omega)]; exact r7 2 w x y z (by omega)
    · rw [p0 k k0] at u
      by_cases q : 12 * k + w = 12 * 2 + D 0 2
      · have hk := (hD.k k x y).2
        omega
      · rw [if_neg q]; exact r7 k w x y z u
  · rw [p0 1 (by decide)] at y; rw [ne _ _ (by decide), ne _ _ (by decide), ne _ _ (by decide), pk 8 (by decide) (by decide) (by decide) (by decide), pk 9 (by decide) (by decide) (by decide) (by decide), pk 10 (by decide) (by decide) (by decide) (by decide)]
    exact c c' x y
theorem mgoods_n (h : MD T L K M b D i) (hD : DC D) (hN : DNa D) (hi : 1 ≤ (tks T L i).1 ∧ (tks T L i).1 ≤ 4) : MOut T L K (fX9_waring SH M 167) M b (stG D (tks T L) i) := by
  have l := h.lay
  have b01 := h.b01
  have d0 := hD.2.2
  have s1 := h.2.1.1.2.2.1
  unfold stG fX9_waring
  rw [kd167, gd_t rfl, ly167_21 l, kd176, h.in', ga_t (by omega) (by omega), s1, newR_e]
  by_cases zf : D 0 2 = 10
  · obtain ⟨M', e, m⟩ := (mcount_n h hi (v := 1)).2 (by decide)
    rw [if_pos (show mx 2 ≤ D 0 2 by show (10 : Int) ≤ _; omega), if_pos zf]
    refine ⟨M', ?_, m⟩
    unfold fX9_waring_J20
    rw [kd167, gd_t rfl, e, pb_1, u2_1, if_pos rfl]
  · have in1 : ∀ a : Int, (a = 177 ∨ a = 178 ∨ a = 189) → inb b a (10 * b + D 0 2) := fun a x => Or.inr (Or.inl ⟨by omega, by omega, by omega⟩)
    obtain ⟨M1, e1, h1, f1⟩ := (mcount_n h hi (v := 0)).1 rfl
    obtain ⟨g1, g2⟩ := mfresh_n h1 hD hN
    have s1' := h1.2.1.1.2.2.1
    rw [if_neg (show ¬ mx 2 ≤ D 0 2 by show ¬ (10 : Int) ≤ _; omega), if_neg zf]
    unfold fX9_waring_J20
    rw [kd167, gd_t rfl, e1, pb_1, u2_1, if_neg (show ¬ (1 : Int) = 0 by decide), gd_t rfl, ly167_21 h1.lay, kd176, h1.in', ga_t (by omega) (by omega), s1', bd_1, w32_s (v := 10 * b) (by omega) (by omega), w32_s (v := 10 * b + D 0 2) (by omega) (by omega)]
    cases ef : frR D (tks T L (i + 1)) with
    | some f =>
      obtain ⟨v, M2, e2, m2⟩ := g2 f.1 f.2 ef
      have m3 := MBd_w (v := v) m2 (in1 189 (by omega))
      have l3 := LAY_md h1.lay m3.2.2
      have p3 : 0 < up_ M2 189 (10 * b + D 0 2) v 167 8 := by rw [m3.1]; exact frR_p ef
      have m4 := MBd_w (v := 0) m3 (in1 177 (by omega))
      have l4 := LAY_md h1.lay m4.2.2
      have p4 : 0 < up_ (up_ M2 189 (10 * b + D 0 2) v) 177 (10 * b + D 0 2) 0 167 8 := by rw [m4.1]; exact frR_p ef
      refine ⟨_, ?_, MBd_tr (mdf_ma f1) (MBd_w (v := 0) m4 (in1 178 (by omega)))⟩
      rw [e2, pb_1, u2_1, ly167_34 h1.lay, kd189, ga_t (by omega) (by omega), bd_1, mmustw_f p3, pb_1, u1_1, mnum_f p3, pb_1, u2_1, ly167_22 l3, kd177, ga_t (by omega) (by omega), bd_1, mmustw_f p4, pb_1, u1_1, mask_f p4, pb_1, u2_1, ly167_23 l4, kd178, ga_t (by omega) (by omega), bd_1, if_neg (by rw [up_of (by decide)]; omega)]
    | none =>
      obtain ⟨⟨z3, nd⟩, M2, e2, h2, f2⟩ := g1 ef
      have h2' := MD_w (a := 189) (v := n8f 8 (tks T L (i + 1)).2.1 0) h2 hD (Or.inr (Or.inr ⟨Or.inl rfl, rfl⟩))
      have f2' : mdf b (up_ M2 189 (10 * b + D 0 2) (n8f 8 (tks T L (i + 1)).2.1 0)) M := mdf_tr (mdf_ma f1) (mdf_tr (mdf_ma f2) (mdf_up (Or.inl (in1 189 (by omega)))))
      obtain ⟨w1, w2⟩ := mmustw_n h2' (w := 512970880104) (k := 3) (by decide) (by decide) (by decide)
      rw [e2, pb_1, u2_1, ly167_34 h1.lay, kd189, ga_t (by omega) (by omega), bd_1]
      dsimp only
      by_cases zw : ow (tks T L (i + 2)) 3 = true
      · obtain ⟨M3, e3, h3, f3⟩ := w1 zw
        obtain ⟨n1, n2⟩ := mnum_n h3 (lo := 0) (hi := 99)
        rw [if_pos zw, e3, pb_1, u1_1, ly167_22 h3.lay, kd177]
        cases en : nuR (tks T L (i + 3)) 0 99 with
        | some f =>
          obtain ⟨v, M4, e4, m4⟩ := n2 f.1 f.2 en
          have q4 := nuR_p en
          have m5 := MBd_w (v := v) m4 (in1 177 (by omega))
          have l5 := LAY_md h3.lay m5.2.2
          have p5 : 0 < up_ M4 177 (10 * b + D 0 2) v 167 8 := by rw [m5.1]; exact q4
          refine ⟨_, ?_, MBd_tr f2' (MBd_tr (mdf_ma f3) (MBd_w (v := 0) m5 (in1 178 (by omega))))⟩
          rw [e4, pb_1, u2_1, ga_t (by omega) (by omega), bd_1, mmustw_f p5, pb_1, u1_1, mask_f p5, pb_1, u2_1, ly167_23 l5, kd178, ga_t (by omega) (by omega), bd_1, if_neg (by rw [up_of (by decide)]; omega)]
        | none =>
          obtain ⟨M4, e4, h4, f4⟩ := n1 en
          have h4' := MD_w (a := 177) (v := (tks T L (i + 3)).2.1) h4 hD (Or.inr (Or.inr ⟨Or.inr (Or.inl rfl), rfl⟩))
          have f4' : mdf b (up_ M4 177 (10 * b + D 0 2) (tks T L (i + 3)).2.1) M := mdf_tr f2' (mdf_tr (mdf_ma f3) (mdf_tr (mdf_ma f4) (mdf_up (Or.inl (in1 177 (by omega))))))
          obtain ⟨x1, x2⟩ := mmustw_n h4' (w := 25209) (k := 7) (by decide) (by decide) (by decide)
          rw [e4, pb_1, u2_1, ga_t (by omega) (by omega), bd_1]
          dsimp only
          by_cases zx : ow (tks T L (i + 4)) 7 = true
          · obtain ⟨M5, e5, h5, f5⟩ := x1 zx
            obtain ⟨a1, a2⟩ := mask_n h5 hD hN (k := 0) (by decide) (by decide)
            rw [if_pos zx, e5, pb_1, u1_1, ly167_23 h5.lay, kd178, asR_0]
            cases ea : lkR D (tks T L (i + 5)) 0 with
            | some f =>
              obtain ⟨M6, e6, m6⟩ := a2 f.1 f.2 ea
              refine ⟨_, ?_, MBd_tr f4' (MBd_tr (mdf_ma f5) (MBd_w (v := 0) m6 (in1 178 (by omega))))⟩
              have q6 := lkR_p ea
              have := m6.1
              rw [e6, pb_1, u2_1, ga_t (by omega) (by omega), bd_1, if_neg (by rw [up_of (by decide)]; omega)]
            | none =>
              obtain ⟨_, M6, e6, h6, f6⟩ := a1 ea
              have h6' := MD_w (a := 178) (v := fnd D 0 (tks T L (i + 5)).2.1) h6 hD (Or.inr (Or.inr ⟨Or.inr (Or.inr rfl), rfl⟩))
              have f6' : mdf b (up_ M6 178 (10 * b + D 0 2) (fnd D 0 (tks T L (i + 5)).2.1)) M := mdf_tr f4' (mdf_tr (mdf_ma f5) (mdf_tr (mdf_ma f6) (mdf_up (Or.inl (in1 178 (by omega))))))
              have s6 := h6'.2.1.1.2.2.1
              refine ⟨_, ?_, mdf_tr f6' (mdf_up (Or.inl (Or.inl ⟨Or.inr (Or.inr (Or.inl rfl)), rfl⟩))), Or.inl (MD_G (nm := (tks T L (i + 1)).2.1) (wo := (tks T L (i + 3)).2.1) (se := fnd D 0 (tks T L (i + 5)).2.1) h6' hD (by omega) ?_ ?_ up_at)⟩
              · rw [e6, pb_1, u2_1, ga_t (by omega) (by omega), bd_1, if_pos h6'.h8, ly167_21 h6'.lay, h6'.in', kd176, ga_t (by omega) (by omega), bd_1, s6, w32_s (by omega) (by omega)]
              · rw [up_of (by decide), f6 _ _ (by omega), f5 _ _ (by omega), up_of (by decide), f4 _ _ (by omega), f3 _ _ (by omega), up_at]
                exact n8_up 6 8 _ 0 (by decide) nd
              · rw [up_of (by decide), f6 _ _ (by omega), f5 _ _ (by omega), up_at]
          · obtain ⟨M5, e5, m5⟩ := x2 (by cases q : ow (tks T L (i + 4)) 7 <;> simp_all)
            have p5 : 0 < M5 167 8 := by rw [m5.1]; decide
            have l5 := LAY_md h4'.lay m5.2.2
            rw [if_neg zx]
            refine ⟨_, ?_, MBd_tr f4' (MBd_w (v := 0) m5 (in1 178 (by omega)))⟩
            rw [e5, pb_1, u1_1, mask_f p5, pb_1, u2_1, ly167_23 l5, kd178, ga_t (by omega) (by omega), bd_1, if_neg (by rw [up_of (by decide)]; omega)]
      · obtain ⟨M3, e3, m3⟩ := w2 (by cases q : ow (tks T L (i + 2)) 3 <;> simp_all)
        have p3 : 0 < M3 167 8 := by rw [m3.1]; decide
        have l3 := LAY_md h2'.lay m3.2.2
        have m4 := MBd_w (v := 0) m3 (in1 177 (by omega))
        have l4 := LAY_md h2'.lay m4.2.2
        have p4 : 0 < up_ M3 177 (10 * b + D 0 2) 0 167 8 := by rw [m4.1]; decide
        rw [if_neg zw]
        refine ⟨_, ?_, MBd_tr f2' (MBd_w (v := 0) m4 (in1 178 (by omega)))⟩
        rw [e3, pb_1, u1_1, mnum_f p3, pb_1, u2_1, ly167_22 l3, kd177, ga_t (by omega) (by omega), bd_1, mmustw_f p4, pb_1, u1_1, mask_f p4, pb_1, u2_1, ly167_23 l4, kd178, ga_t (by omega) (by omega), bd_1, if_neg (by rw [up_of (by decide)]; omega)]
end PMGD
