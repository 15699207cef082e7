/-! the model tells a coin: the statement -/
section PMCC
variable {T : Int → Int} {L K : Nat} {b : Int} {D M : AwM} {i : Nat}
theorem mcoin_n (h : MD T L K M b D i) (hD : DC D) (hN : DNa D) (hi : 1 ≤ (tks T L i).1 ∧ (tks T L i).1 ≤ 4) : MOut T L K (fX9_coining SH M 167) M b (stC D (tks T L) i) := by
  have l := h.lay
  have b01 := h.b01
  have d0 := hD.1
  have d1 := hD.2.1
  have s1 := h.2.1.1.2.1
  have hFU : ∃ N, FU = N + 1 := ⟨99999, rfl⟩
  obtain ⟨N, hFU⟩ := hFU
  have hKL : K ≤ 1601 := (by have := h.1.2.2.2.2.2.2.2.1.2; omega)
  unfold stC fX9_coining
  rw [kd167, gd_t rfl, ly167_16 l, kd171, h.in', ga_t (by omega) (by omega), s1, newR_e]
  by_cases zf : D 0 1 = 12
  · obtain ⟨M', e, m⟩ := (mcount_n h hi (v := 1)).2 (by decide)
    rw [if_pos (show mx 1 ≤ D 0 1 by show (12 : Int) ≤ _; omega), if_pos zf]
    refine ⟨M', ?_, m⟩
    unfold fX9_coining_J20
    rw [kd167, gd_t rfl, e, pb_1, u2_1, if_pos rfl]
  · have in1 : ∀ a : Int, ((172 ≤ a ∧ a ≤ 175) ∨ a = 188) → inb b a (12 * b + D 0 1) := fun a x => Or.inr (Or.inr (Or.inl ⟨x, by omega, by omega⟩))
    obtain ⟨M1, e1, h1, f1⟩ := (mcount_n h hi (v := 0)).1 rfl
    obtain ⟨g1, g2⟩ := mfresh_n h1 hD hN
    have s1' := h1.2.1.1.2.1
    rw [if_neg (show ¬ mx 1 ≤ D 0 1 by show ¬ (12 : Int) ≤ _; omega), if_neg zf]
    unfold fX9_coining_J20
    rw [kd167, gd_t rfl, e1, pb_1, u2_1, if_neg (show ¬ (1 : Int) = 0 by decide), gd_t rfl, ly167_16 h1.lay, kd171, h1.in', ga_t (by omega) (by omega), s1', bd_1, w32_s (v := 12 * b) (by omega) (by omega), w32_s (v := 12 * b + D 0 1) (by omega) (by omega)]
    cases ef : frR D (tks T L (i + 1)) with
    | some f =>
      obtain ⟨v, M2, e2, m2⟩ := g2 f.1 f.2 ef
      have m3 := MBd_w (v := v) m2 (in1 188 (by omega))
      have l3 := LAY_md h1.lay m3.2.2
      have p3 : 0 < up_ M2 188 (12 * b + D 0 1) v 167 8 := by rw [m3.1]; exact frR_p ef
      have m4 := MBd_w (v := 0) m3 (in1 172 (by omega))
      have l4 := LAY_md h1.lay m4.2.2
      have p4 : 0 < up_ (up_ M2 188 (12 * b + D 0 1) v) 172 (12 * b + D 0 1) 0 167 8 := by rw [m4.1]; exact frR_p ef
      have x1 := MBd_w (v := 0) m4 (in1 173 (by omega))
      have x2 := MBd_w (v := sl_ 1 (0)) x1 (in1 174 (by omega))
      have x3 := MBd_w (v := 0) x2 (in1 175 (by omega))
      have xl1 := LAY_md h1.lay x1.2.2
      have xl2 := LAY_md h1.lay x2.2.2
      have xq := frR_p ef
      refine ⟨_, ?_, MBd_tr (mdf_ma f1) x3⟩
      rw [e2, pb_1, u2_1, ly167_33 h1.lay, kd188, ga_t (by omega) (by omega), bd_1, mmustw_f p3, pb_1, u1_1, mnum_f p3, pb_1, u2_1, ly167_17 l3, kd172, ga_t (by omega) (by omega), bd_1, mmustw_f p4, pb_1, u1_1, mask_f p4, pb_1, u2_1, ly167_18 l4, kd173, ga_t (by omega) (by omega), bd_1, ly167_18 xl1, kd173, ga_t (by omega) (by omega), ly167_19 xl1, kd174, ga_t (by omega) (by omega), up_at, bd_1, ly167_20 xl2, kd175, ga_t (by omega) (by omega), bd_1, mlex_f (by rw [x3.1]; exact xq), pb_1, u1_1, if_pos (by rw [x3.1]; exact xq)]
    | none =>
      obtain ⟨⟨z3, nd⟩, M2, e2, h2, f2⟩ := g1 ef
      have h2' := MD_w (a := 188) (v := n8f 8 (tks T L (i + 1)).2.1 0) h2 hD (Or.inr (Or.inl ⟨Or.inl rfl, rfl⟩))
      have f2' : mdf b (up_ M2 188 (12 * b + D 0 1) (n8f 8 (tks T L (i + 1)).2.1 0)) M := mdf_tr (mdf_ma f1) (mdf_tr (mdf_ma f2) (mdf_up (Or.inl (in1 188 (by omega)))))
      obtain ⟨w1, w2⟩ := mmustw_n h2' (w := 512970880104) (k := 3) (by decide) (by decide) (by decide)
      rw [e2, pb_1, u2_1, ly167_33 h1.lay, kd188, ga_t (by omega) (by omega), bd_1]
      dsimp only
      by_cases zw : ow (tks T L (i + 2)) 3 = true
      · obtain ⟨M3, e3, h3, f3⟩ := w1 zw
        obtain ⟨n1, n2⟩ := mnum_n h3 (lo := 1) (hi := 99)
        rw [if_pos zw, e3, pb_1, u1_1, ly167_17 h3.lay, kd172]
        cases en : nuR (tks T L (i + 3)) 1 99 with
        | some f =>
          obtain ⟨v, M4, e4, m4⟩ := n2 f.1 f.2 en
          have q4 := nuR_p en
          have m5 := MBd_w (v := v) m4 (in1 172 (by omega))
          have l5 := LAY_md h3.lay m5.2.2
          have p5 : 0 < up_ M4 172 (12 * b + D 0 1) v 167 8 := by rw [m5.1]; exact q4
          have x1 := MBd_w (v := 0) m5 (in1 173 (by omega))
          have x2 := MBd_w (v := sl_ 1 (0)) x1 (in1 174 (by omega))
          have x3 := MBd_w (v := 0) x2 (in1 175 (by omega))
          have xl1 := LAY_md h3.lay x1.2.2
          have xl2 := LAY_md h3.lay x2.2.2
          have xq := q4
          refine ⟨_, ?_, MBd_tr f2' (MBd_tr (mdf_ma f3) x3)⟩
          rw [e4, pb_1, u2_1, ga_t (by omega) (by omega), bd_1, mmustw_f p5, pb_1, u1_1, mask_f p5, pb_1, u2_1, ly167_18 l5, kd173, ga_t (by omega) (by omega), bd_1, ly167_18 xl1, kd173, ga_t (by omega) (by omega), ly167_19 xl1, kd174, ga_t (by omega) (by omega), up_at, bd_1, ly167_20 xl2, kd175, ga_t (by omega) (by omega), bd_1, mlex_f (by rw [x3.1]; exact xq), pb_1, u1_1, if_pos (by rw [x3.1]; exact xq)]
        | none =>
          obtain ⟨M4, e4, h4, f4⟩ := n1 en
          have h4' := MD_w (a := 172) (v := (tks T L (i + 3)).2.1) h4 hD (Or.inr (Or.inl ⟨Or.inr (by decide), rfl⟩))
          have f4' : mdf b (up_ M4 172 (12 * b + D 0 1) (tks T L (i + 3)).2.1) M := mdf_tr f2' (mdf_tr (mdf_ma f3) (mdf_tr (mdf_ma f4) (mdf_up (Or.inl (in1 172 (by omega))))))
          obtain ⟨x1, x2⟩ := mmustw_n h4' (w := 28518) (k := 4) (by decide) (by decide) (by decide)
          rw [e4, pb_1, u2_1, ga_t (by omega) (by omega), bd_1]
          dsimp only
          by_cases zx : ow (tks T L (i + 4)) 4 = true
          · obtain ⟨M5, e5, h5, f5⟩ := x1 zx
            obtain ⟨a1, a2⟩ := mask_n h5 hD hN (k := 0) (by decide) (by decide)
            rw [if_pos zx, e5, pb_1, u1_1, asR_0]
            cases ea : lkR D (tks T L (i + 5)) 0 with
            | some f =>
              obtain ⟨M6, e6, m6⟩ := a2 f.1 f.2 ea
              have x1 := MBd_w (v := 0) m6 (in1 173 (by omega))
              have x2 := MBd_w (v := sl_ 1 (0)) x1 (in1 174 (by omega))
              have x3 := MBd_w (v := 0) x2 (in1 175 (by omega))
              have xl1 := LAY_md h5.lay x1.2.2
              have xl2 := LAY_md h5.lay x2.2.2
              have xq := lkR_p ea
              refine ⟨_, ?_, MBd_tr f4' (MBd_tr (mdf_ma f5) x3)⟩
              rw [e6, pb_1, u2_1, ly167_18 h5.lay, kd173, ga_t (by omega) (by omega), bd_1, ly167_18 xl1, kd173, ga_t (by omega) (by omega), ly167_19 xl1, kd174, ga_t (by omega) (by omega), up_at, bd_1, ly167_20 xl2, kd175, ga_t (by omega) (by omega), bd_1, mlex_f (by rw [x3.1]; exact xq), pb_1, u1_1, if_pos (by rw [x3.1]; exact xq)]
            | none =>
              obtain ⟨⟨y0, y1'⟩, M6, e6, h6, f6⟩ := a1 ea
              have y1 : 0 ≤ fnd D 0 (tks T L (i + 5)).2.1 ∧ fnd D 0 (tks T L (i + 5)).2.1 < D 0 0 := y1'
              dsimp only
              have ha := MD_w (a := 173) (v := fnd D 0 (tks T L (i + 5)).2.1) h6 hD (Or.inr (Or.inl ⟨Or.inr (by decide), rfl⟩))
              have hb := MD_w (a := 174) (v := stb 0 (fnd D 0 (tks T L (i + 5)).2.1)) ha hD (Or.inr (Or.inl ⟨Or.inr (by decide), rfl⟩))
              have hc := MD_w (a := 175) (v := 0) hb hD (Or.inr (Or.inl ⟨Or.inr (by decide), rfl⟩))
              rw [e6, pb_1, u2_1, ly167_18 h5.lay, kd173, ga_t (by omega) (by omega), bd_1, ly167_18 ha.lay, kd173, ga_t (by omega) (by omega), ly167_19 ha.lay, kd174, ga_t (by omega) (by omega), up_at, sl1 y1.1 (by omega), bd_1, ly167_20 hb.lay, kd175, ga_t (by omega) (by omega), bd_1]
              have fm : ∀ a j : Int, a ≠ 167 → ¬ (173 ≤ a ∧ a ≤ 175) → up_ (up_ (up_ M6 173 (12 * b + D 0 1) (fnd D 0 (tks T L (i + 5)).2.1)) 174 (12 * b + D 0 1) (stb 0 (fnd D 0 (tks T L (i + 5)).2.1))) 175 (12 * b + D 0 1) 0 a j = up_ M4 172 (12 * b + D 0 1) (tks T L (i + 3)).2.1 a j := fun a j x y => by
                rw [up_of (by omega), up_of (by omega), up_of (by omega), f6 _ _ (by omega), f5 _ _ (by omega)]
              have v8 : up_ (up_ (up_ M6 173 (12 * b + D 0 1) (fnd D 0 (tks T L (i + 5)).2.1)) 174 (12 * b + D 0 1) (stb 0 (fnd D 0 (tks T L (i + 5)).2.1))) 175 (12 * b + D 0 1) 0 188 (12 * b + D 0 1) = n8 (tks T L (i + 1)).2.1 := by
                rw [fm _ _ (by decide) (by decide), up_of (by decide), f4 _ _ (by omega), f3 _ _ (by omega), up_at]
                exact n8_up 6 8 _ 0 (by decide) nd
              have v2 : up_ (up_ (up_ M6 173 (12 * b + D 0 1) (fnd D 0 (tks T L (i + 5)).2.1)) 174 (12 * b + D 0 1) (stb 0 (fnd D 0 (tks T L (i + 5)).2.1))) 175 (12 * b + D 0 1) 0 172 (12 * b + D 0 1) = (tks T L (i + 3)).2.1 := by
                rw [fm _ _ (by decide) (by decide), up_at]
              have v3 : up_ (up_ (up_ M6 173 (12 * b + D 0 1) (fnd D 0 (tks T L (i + 5)).2.1)) 174 (12 * b + D 0 1) (stb 0 (fnd D 0 (tks T L (i + 5)).2.1))) 175 (12 * b + D 0 1) 0 173 (12 * b + D 0 1) = fnd D 0 (tks T L (i + 5)).2.1 := by
                rw [up_of (by decide), up_of (by decide), up_at]
              have v4 : up_ (up_ (up_ M6 173 (12 * b + D 0 1) (fnd D 0 (tks T L (i + 5)).2.1)) 174 (12 * b + D 0 1) (stb 0 (fnd D 0 (tks T L (i + 5)).2.1))) 175 (12 * b + D 0 1) 0 174 (12 * b + D 0 1) = stb 0 (fnd D 0 (tks T L (i + 5)).2.1) := by
                rw [up_of (by decide), up_at]
              have v5 : up_ (up_ (up_ M6 173 (12 * b + D 0 1) (fnd D 0 (tks T L (i + 5)).2.1)) 174 (12 * b + D 0 1) (stb 0 (fnd D 0 (tks T L (i + 5)).2.1))) 175 (12 * b + D 0 1) 0 175 (12 * b + D 0 1) = 0 := up_at
              have fc : mdf b (up_ (up_ (up_ M6 173 (12 * b + D 0 1) (fnd D 0 (tks T L (i + 5)).2.1)) 174 (12 * b + D 0 1) (stb 0 (fnd D 0 (tks T L (i + 5)).2.1))) 175 (12 * b + D 0 1) 0) M := mdf_tr f4' (mdf_tr (mdf_ma f5) (mdf_tr (mdf_ma f6) (mdf_tr (mdf_up (Or.inl (in1 173 (by omega)))) (mdf_tr (mdf_up (Or.inl (in1 174 (by omega)))) (mdf_up (Or.inl (in1 175 (by omega))))))))
              generalize up_ (up_ (up_ M6 173 (12 * b + D 0 1) (fnd D 0 (tks T L (i + 5)).2.1)) 174 (12 * b + D 0 1) (stb 0 (fnd D 0 (tks T L (i + 5)).2.1))) 175 (12 * b + D 0 1) 0 = Mc at *
              have sc := hc.2.1.1.2.1
              by_cases z5 : (tks T L (i + 6)).1 = 5
              · rw [if_neg (fun q => by have := ow_t.mp q; omega)]
                refine ⟨up_ (up_ Mc 167 8 1) 167 9 ((tks T L (i + 6)).2.2.2.1 : Int), ?_, mdf_tr fc (mbd_u rfl).2.2, Or.inr ⟨z5, by rw [up_oi (by decide), up_at], up_at⟩⟩
                rw [mlex_5 hc.tk z5 hc.h8, pb_1, u1_1, if_pos (by rw [up_oi (by decide), up_at]; decide)]
              · rw [mlex_n hc.tk z5, pb_1, u1_1, hc.h8, if_neg (show ¬ (0 : Int) < 0 by decide), mwrd_n (w := 461414299507) hc.tk (tks_ok T L (i + 6)) z5 (k := 5) (by decide) (by decide) (by decide), pb_1, u1_1]
                cases q : ow (tks T L (i + 6)) 5 with
                | false =>
                  rw [if_neg (show ¬ (false = true) by decide), show bi false = (0 : Int) from rfl, if_pos (show (0 : Int) = 0 from rfl), hFU, mL142_0, pb_1, u1_1, hc.h8, if_pos rfl, ly167_16 hc.lay, hc.in', kd171, ga_t (by omega) (by omega), bd_1, sc, w32_s (by omega) (by omega)]
                  exact ⟨_, rfl, mdf_tr fc (mdf_up (Or.inl (Or.inl ⟨Or.inr (Or.inl rfl), rfl⟩))), Or.inl (MD_C hc hD (by omega) v8 v2 v3 v4 v5)⟩
                | true =>
                  obtain ⟨M7, e7, h7, f7⟩ := mdnx_n hc (show 1 ≤ (tks T L (i + 6)).1 ∧ (tks T L (i + 6)).1 ≤ 4 by have := ow_t.mp q; omega)
                  have v4' : M7 174 (12 * b + D 0 1) = stb 0 (fnd D 0 (tks T L (i + 5)).2.1) := by rw [f7 _ _ (by omega)]; exact v4
                  obtain ⟨M8, e8, k8⟩ := mknown_l hD hN (by omega) b01 (nm := (tks T L (i + 1)).2.1) (wo := (tks T L (i + 3)).2.1) (ho := fnd D 0 (tks T L (i + 5)).2.1) 1700 (i + 7) FU _ M7 h7 v4' (by omega) (ms_stb (ms_0 10) y1.1 (by omega)) (by decide)
                  rw [if_pos (show true = true from rfl), show bi true = (1 : Int) from rfl, if_neg (show ¬ (1 : Int) = 0 by decide), e7, pb_1, u1_1, e8, pb_1, u1_1]
                  generalize knF D (tks T L (i + 1)).2.1 (tks T L (i + 3)).2.1 (fnd D 0 (tks T L (i + 5)).2.1) (tks T L) 1700 (i + 7) (stb 0 (fnd D 0 (tks T L (i + 5)).2.1)) = r at *
                  have fd := mdf_tr fc (mdf_ma f7)
                  cases r with
                  | inl q =>
                    obtain ⟨k0, m8⟩ := k8
                    have := m8.1
                    exact ⟨M8, by rw [if_neg (by omega)], MBd_tr fd m8⟩
                  | inr q =>
                    obtain ⟨g8, S', eS, o⟩ := k8
                    rcases o with ⟨h8, t8, kf⟩ | ⟨o1, o2, o3⟩
                    · have sc' := h8.2.1.1.2.1
                      refine ⟨up_ M8 171 b (D 0 1 + 1), ?_, mdf_tr (mdf_tr fd g8) (mdf_up (Or.inl (Or.inl ⟨Or.inr (Or.inl rfl), rfl⟩))), Or.inl ?_⟩
                      · rw [h8.h8, if_pos rfl, ly167_16 h8.lay, h8.in', kd171, ga_t (by omega) (by omega), bd_1, sc', w32_s (by omega) (by omega)]
                      · rw [eS]
                        refine MD_C h8 hD (by omega) ?_ ?_ ?_ t8 ?_
                        · rw [kf _ _ (by decide) (by omega), f7 _ _ (by omega)]; exact v8
                        · rw [kf _ _ (by decide) (by omega), f7 _ _ (by omega)]; exact v2
                        · rw [kf _ _ (by decide) (by omega), f7 _ _ (by omega)]; exact v3
                        · rw [kf _ _ (by decide) (by omega), f7 _ _ (by omega)]; exact v5
                    · exact ⟨M8, by rw [o2, if_neg (by decide)], mdf_tr fd g8, Or.inr ⟨o1, o2, o3⟩⟩
          · obtain ⟨M5, e5, m5⟩ := x2 (by cases q : ow (tks T L (i + 4)) 4 <;> simp_all)
            have p5 : 0 < M5 167 8 := by rw [m5.1]; decide
            have l5 := LAY_md h4'.lay m5.2.2
            have y1 := MBd_w (v := 0) m5 (in1 173 (by omega))
            have y2 := MBd_w (v := sl_ 1 (0)) y1 (in1 174 (by omega))
            have y3 := MBd_w (v := 0) y2 (in1 175 (by omega))
            have yl1 := LAY_md h4'.lay y1.2.2
            have yl2 := LAY_md h4'.lay y2.2.2
            have yq := show (0 : Int) < 1 by decide
            rw [if_neg zx]
            refine ⟨_, ?_, MBd_tr f4' y3⟩
            rw [e5, pb_1, u1_1, mask_f p5, pb_1, u2_1, ly167_18 l5, kd173, ga_t (by omega) (by omega), bd_1, ly167_18 yl1, kd173, ga_t (by omega) (by omega), ly167_19 yl1, kd174, ga_t (by omega) (by omega), up_at, bd_1, ly167_20 yl2, kd175, ga_t (by omega) (by omega), bd_1, mlex_f (by rw [y3.1]; exact yq), pb_1, u1_1, if_pos (by rw [y3.1]; exact yq)]
      · obtain ⟨M3, e3, m3⟩ := w2 (by cases q : ow (tks T L (i + 2)) 3 <;> simp_all)
        have p3 : 0 < M3 167 8 := by rw [m3.1]; decide
        have l3 := LAY_md h2'.lay m3.2.2
        have m4 := MBd_w (v := 0) m3 (in1 172 (by omega))
        have l4 := LAY_md h2'.lay m4.2.2
        have p4 : 0 < up_ M3 172 (12 * b + D 0 1) 0 167 8 := by rw [m4.1]; decide
        have x1 := MBd_w (v := 0) m4 (in1 173 (by omega))
        have x2 := MBd_w (v := sl_ 1 (0)) x1 (in1 174 (by omega))
        have x3 := MBd_w (v := 0) x2 (in1 175 (by omega))
        have xl1 := LAY_md h2'.lay x1.2.2
        have xl2 := LAY_md h2'.lay x2.2.2
        have xq := show (0 : Int) < 1 by decide
        rw [if_neg zw]
        refine ⟨_, ?_, MBd_tr f2' x3⟩
        rw [e3, pb_1, u1_1, mnum_f p3, pb_1, u2_1, ly167_17 l3, kd172, ga_t (by omega) (by omega), bd_1, mmustw_f p4, pb_1, u1_1, mask_f p4, pb_1, u2_1, ly167_18 l4, kd173, ga_t (by omega) (by omega), bd_1, ly167_18 xl1, kd173, ga_t (by omega) (by omega), ly167_19 xl1, kd174, ga_t (by omega) (by omega), up_at, bd_1, ly167_20 xl2, kd175, ga_t (by omega) (by omega), bd_1, mlex_f (by rw [x3.1]; exact xq), pb_1, u1_1, if_pos (by rw [x3.1]; exact xq)]
end PMCC
