/-! the loop over statements: to its end -/
section PLO2
variable {T : Int → Int} {L K : Nat}
theorem tp_f {M : AwM} : tpost (some (.inr (.inr M))) = some (-1, M) := rfl
theorem tp_e {M : AwM} {v : Int} : tpost (some (.inl (v, M))) = some (v, M) := rfl
theorem loop_n (so : Int) : ∀ (f i v : Nat) (D M : AwM) (N : Nat), K < i + f → CD T L K M so D (nD D) i → DOK D → v ≤ 80 → f + 1 < N → ∃ r : (Int × Nat) ⊕ (AwM × Int), CLo T L K (lp (u2 (fX6_tell_L33 SH 3)) N ((v : Int), M)) M so r ∧ ((v = 80 ∧ (tks T L i).1 ≠ 0 ∧ r = .inl (6, (tks T L i).2.2.1)) ∨ (¬ (v = 80 ∧ (tks T L i).1 ≠ 0) ∧ ∀ (b : Int) (Mm : AwM) (N' : Nat), MD T L K Mm b D i → f + 2 < N' → MLo T L K (lp (u2 (fX9_society_L119 SH 167)) N' ((v : Int), Mm)) Mm b r))
  | 0, i, v, D, M, N, hf, h, _, _, _ => by
    have := h.sc.1.1
    omega
  | f + 1, i, v, D, M, N, hf, h, hD, hv, hN => by
    obtain ⟨N, rfl⟩ : ∃ n, N = n + 1 := ⟨N - 1, by omega⟩
    have step : ∀ R, (if (M 4 8) = 0 then some (.inr (.inl ((v : Int), M))) else (if (v : Int) = 80 then some (.inr (.inr (.inl M))) else pb (fX6_statement SH M 3) <| u2 fun (x20 : Int) (M21 : AwM) => ((if x20 = 0 then some (.inr (.inr (.inr M21))) else pb (fX6_sign SH M21 3 59) <| u2 fun (x24 : Int) (M25 : AwM) => ((if x24 = 0 then some (.inr (.inr (.inr M25))) else some (.inl ((w32 ((v : Int) + 1)), M25))))))) : Option ((Int × AwM) ⊕ ((Int × AwM) ⊕ (AwM ⊕ AwM)))) = R → u2 (fX6_tell_L33 SH 3) ((v : Int), M) = R := fun R hR => by
      rw [u2_1]
      unfold fX6_tell_L33
      rw [if_pos (by omega), kd3, gd_t rfl, ly3_0 h.lay, kd4, gd_t rfl]
      exact hR
    have k8 : M 4 8 = 0 ↔ (tks T L i).1 = 0 := by rw [h.sc.k8]; unfold ckd; split <;> omega
    by_cases z0 : (tks T L i).1 = 0
    · refine ⟨.inr (D, (v : Int)), ⟨⟨hD, by omega, by omega⟩, M, i, ?_, h, cdf_rf⟩, Or.inr ⟨fun q => q.2 z0, fun b Mm N' m hN' => ⟨Mm, i, ?_, m, mdf_rf⟩⟩⟩
      · rw [lp_st (step _ (if_pos (k8.mpr z0)))]; exact tp_e
      · obtain ⟨N', rfl⟩ : ∃ n, N' = n + 1 := ⟨N' - 1, by omega⟩
        refine lp_st ?_
        rw [u2_1]
        unfold fX9_society_L119
        rw [kd167, gd_t rfl, if_pos m.h8, if_pos ((m3_0 m.tk).mpr z0)]
    · by_cases z80 : v = 80
      · refine ⟨.inl (6, (tks T L i).2.2.1), ⟨show (0 : Int) < 6 by decide, _, ?_, cdb_u⟩, Or.inl ⟨z80, z0, rfl⟩⟩
        rw [lp_st (step _ (by rw [if_neg (fun q => z0 (k8.mp q)), if_pos (by omega)]))]
        show pb (fX6_fail SH M 3 6) (u2 fun (x31 : Int) (M32 : AwM) => (some ((-1), M32))) = _
        rw [cfail_k h.sc h.lay (by decide), pb_1, u2_1]
      · have n80 : ¬ (v = 80 ∧ (tks T L i).1 ≠ 0) := fun q => z80 q.1
        obtain ⟨r0, hc, hd, hm⟩ := stmt_n h hD
        have mstep : ∀ (Mm : AwM) (R : Option ((Int × AwM) ⊕ (Int × AwM))), Mm 167 8 = 0 → MTK Mm (tks T L i) → (pb (fX9_statement SH Mm 167) <| u1 fun (M43 : AwM) => (pb (fX9_finishes SH M43 167 ((v : Int) + 1)) <| u1 fun (M45 : AwM) => (some (.inl (((v : Int) + 1), M45))))) = R → u2 (fX9_society_L119 SH 167) ((v : Int), Mm) = R := fun Mm R h8 t hR => by
          rw [u2_1]
          unfold fX9_society_L119
          rw [kd167, gd_t rfl, if_pos h8, if_neg (fun q => z0 ((m3_0 t).mp q)), w32_s (v := (v : Int) + 1) (by omega) (by omega)]
          exact hR
        cases r0 with
        | inl q =>
          obtain ⟨k0, M', e, c⟩ := hc
          refine ⟨.inl q, ⟨k0, M', ?_, c⟩, Or.inr ⟨n80, fun b Mm N' m hN' => ?_⟩⟩
          · rw [lp_st (step _ (by rw [if_neg (fun q => z0 (k8.mp q)), if_neg (by omega), e, pb_1, u2_1, if_pos rfl]))]; exact tp_f
          · obtain ⟨Mm', e', c'⟩ := hm b Mm m
            have p' : 0 < Mm' 167 8 := by rw [c'.1]; exact k0
            obtain ⟨N', rfl⟩ : ∃ n, N' = n + 2 := ⟨N' - 2, by omega⟩
            refine ⟨(v : Int) + 1, Mm', ?_, c'⟩
            rw [lp_go (mstep Mm _ m.h8 m.tk (by rw [e', pb_1, u1_1, mfin_f p', pb_1, u1_1])), mlo_f p']
        | inr q =>
          obtain ⟨M1, e1, h1, f1⟩ := hc
          obtain ⟨D1, j⟩ := q
          obtain ⟨hD1, ij⟩ := hd D1 j rfl
          dsimp only at h1
          obtain ⟨s1, s2⟩ := csign_d (c := 59) h1
          by_cases zs : sg (tks T L j) 59 = true
          · obtain ⟨M2, e2, h2, f2⟩ := s1 zs
            obtain ⟨r, hr, ho⟩ := loop_n so f (j + 1) (v + 1) D1 M2 N (by omega) h2 hD1 (by omega) (by omega)
            refine ⟨r, ?_, Or.inr ⟨n80, fun b Mm N' m hN' => ?_⟩⟩
            · rw [lp_go (step (some (.inl (((v + 1 : Nat) : Int), M2))) (by rw [if_neg (fun q => z0 (k8.mp q)), if_neg (by omega), e1, pb_1, u2_1, if_neg (show ¬ (1 : Int) = 0 by decide), e2, pb_1, u2_1, if_neg (show ¬ (1 : Int) = 0 by decide), w32_s (v := (v : Int) + 1) (by omega) (by omega)]; rfl))]
              exact CLo_tr (cdf_tr f1 (cdf_nx f2)) hr
            · obtain ⟨Mm1, e3, f3, o3⟩ := hm b Mm m
              obtain ⟨N', rfl⟩ : ∃ n, N' = n + 2 := ⟨N' - 2, by omega⟩
              have g1 : (tks T L j).1 = 1 := (sg_t.mp zs).1
              have m1 : MD T L K Mm1 b D1 j := by
                rcases o3 with o3 | o3
                · exact o3
                · have := o3.1; dsimp only at this; omega
              obtain ⟨x1, x2⟩ := mfin_n (w := (v : Int) + 1) m1
              unfold finR at x1 x2
              rw [if_pos zs] at x1 x2
              rcases ho with ⟨y1, y2, rfl⟩ | ⟨y1, y2⟩
              · obtain ⟨Mm2, e4, c4⟩ := x2 6 _ (if_pos ⟨by omega, y2⟩)
                have p4 : 0 < Mm2 167 8 := by rw [c4.1]; decide
                refine ⟨(v : Int) + 1, Mm2, ?_, MBd_tr f3 c4⟩
                rw [lp_go (mstep Mm _ m.h8 m.tk (by rw [e3, pb_1, u1_1, e4, pb_1, u1_1])), mlo_f p4]
              · obtain ⟨Mm2, e4, m2, f4⟩ := x1 (if_neg (fun q => y1 ⟨by omega, q.2⟩))
                rw [lp_go (mstep Mm (some (.inl (((v + 1 : Nat) : Int), Mm2))) m.h8 m.tk (by rw [e3, pb_1, u1_1, e4, pb_1, u1_1]; rfl))]
                exact MLo_tr (mdf_tr f3 (mdf_ma f4)) (y2 b Mm2 (N' + 1) m2 (by omega))
          · have zs' : sg (tks T L j) 59 = false := bf zs
            obtain ⟨M2, e2, c2⟩ := s2 zs'
            refine ⟨.inl (1, (tks T L j).2.2.2.1), ⟨show (0 : Int) < 1 by decide, M2, ?_, CDB_tr f1 c2⟩, Or.inr ⟨n80, fun b Mm N' m hN' => ?_⟩⟩
            · rw [lp_st (step _ (by rw [if_neg (fun q => z0 (k8.mp q)), if_neg (by omega), e1, pb_1, u2_1, if_neg (show ¬ (1 : Int) = 0 by decide), e2, pb_1, u2_1, if_pos rfl]))]; exact tp_f
            · obtain ⟨Mm1, e3, f3, o3⟩ := hm b Mm m
              obtain ⟨N', rfl⟩ : ∃ n, N' = n + 2 := ⟨N' - 2, by omega⟩
              rcases o3 with m1 | ⟨o1, o2, o4⟩
              · obtain ⟨x1, x2⟩ := mfin_n (w := (v : Int) + 1) m1
                unfold finR at x1 x2
                rw [if_neg zs] at x1 x2
                obtain ⟨Mm2, e4, c4⟩ := x2 1 _ rfl
                have p4 : 0 < Mm2 167 8 := by rw [c4.1]; decide
                refine ⟨(v : Int) + 1, Mm2, ?_, MBd_tr f3 c4⟩
                rw [lp_go (mstep Mm _ m.h8 m.tk (by rw [e3, pb_1, u1_1, e4, pb_1, u1_1])), mlo_f p4]
              · have p4 : 0 < Mm1 167 8 := by rw [o2]; decide
                refine ⟨(v : Int) + 1, Mm1, ?_, o2, o4, f3⟩
                rw [lp_go (mstep Mm _ m.h8 m.tk (by rw [e3, pb_1, u1_1, mfin_f p4, pb_1, u1_1])), mlo_f p4]
end PLO2
