/-! a statement: both sides -/
section PSTM
variable {T : Int → Int} {L K : Nat} {D : AwM} {i : Nat}
theorem cst_e {M : AwM} {so : Int} (h : CD T L K M so D (nD D) i) : fX6_statement SH M 3 = fX6_statement_J22 SH M 3 (if (tks T L i).1 = 4 then (tks T L i).2.1 else -1) := by
  unfold fX6_statement
  rw [kd3, gd_t rfl, ly3_0 h.lay, kd4, gd_t rfl, h.sc.k8]
  by_cases z : (tks T L i).1 = 4
  · rw [if_pos ((ckd_i (by decide)).mpr z), if_pos z, h.sc.k9 (by omega) (by omega)]
  · rw [if_neg (fun q => z ((ckd_i (by decide)).mp q)), if_neg z]
theorem j22_g {M : AwM} {so : Int} {f : Option (Int × AwM)} {r : (Int × Nat) ⊕ (AwM × Nat)} (hc : COut T L K f M so r) : COut T L K (gd_ (kd_ SH 3 = (0, 6)) (pb f (u2 fun (x : Int) (M' : AwM) => (gd_ (x = 0 ∨ x = 1) (some (x, M')))))) M so r := by
  rw [kd3, gd_t rfl]
  unfold COut at hc ⊢
  cases r with
  | inl q =>
    obtain ⟨k0, M', e, c⟩ := hc
    exact ⟨k0, M', by rw [e, pb_1, u2_1, gd_t (Or.inl rfl)], c⟩
  | inr q =>
    obtain ⟨M', e, c⟩ := hc
    exact ⟨M', by rw [e, pb_1, u2_1, gd_t (Or.inr rfl)], c⟩
theorem MOut_g {M : AwM} {b : Int} {f : Option AwM} {r : (Int × Nat) ⊕ (AwM × Nat)} (hc : MOut T L K f M b r) : MOut T L K (pb f (u1 fun (M' : AwM) => some M')) M b r := by
  unfold MOut at hc ⊢
  cases r with
  | inl q =>
    obtain ⟨M', e, c⟩ := hc
    exact ⟨M', by rw [e, pb_1, u1_1], c⟩
  | inr q =>
    obtain ⟨M', e, c⟩ := hc
    exact ⟨M', by rw [e, pb_1, u1_1], c⟩
theorem cfail_o {M : AwM} {so : Int} (h : CD T L K M so D (nD D) i) : COut T L K (fX6_fail SH M 3 1) M so (.inl (1, (tks T L i).2.2.2.1)) :=
  ⟨show (0 : Int) < 1 by decide, _, cfail_1 h.sc h.lay, cdb_u⟩
theorem cst_o {M : AwM} {so : Int} {v : Int} (h : CD T L K M so D (nD D) i) (hv : v ≠ 0 ∧ v ≠ 2 ∧ v ≠ 6 ∧ (v < 8 ∨ 12 < v)) : COut T L K (fX6_statement_J22 SH M 3 v) M so (.inl (1, (tks T L i).2.2.2.1)) := by
  have g := j22_g (cfail_o h)
  unfold fX6_statement_J22
  rw [if_neg hv.1]
  by_cases z1 : v = 1
  · rw [if_pos z1]; exact g
  rw [if_neg z1, if_neg hv.2.1]
  by_cases z3 : v = 3
  · rw [if_pos z3]; exact g
  rw [if_neg z3]
  by_cases z4 : v = 4
  · rw [if_pos z4]; exact g
  rw [if_neg z4]
  by_cases z5 : v = 5
  · rw [if_pos z5]; exact g
  rw [if_neg z5, if_neg hv.2.2.1]
  by_cases z7 : v = 7
  · rw [if_pos z7]; exact g
  rw [if_neg z7, if_neg (by omega), if_neg (by omega), if_neg (by omega), if_neg (by omega), if_neg (by omega)]
  exact g
theorem mst_e {M : AwM} {b : Int} (h : MD T L K M b D i) (h5 : (tks T L i).1 ≠ 5) : fX9_statement SH M 167 = if ow (tks T L i) 0 = true then pb (fX9_personing SH M 167) (u1 fun (M46 : AwM) => some M46) else if ow (tks T L i) 2 = true then pb (fX9_coining SH M 167) (u1 fun (M46 : AwM) => some M46) else if ow (tks T L i) 6 = true then pb (fX9_waring SH M 167) (u1 fun (M46 : AwM) => some M46) else if ow (tks T L i) 8 = true then pb (fX9_snubbing SH M 167) (u1 fun (M46 : AwM) => some M46) else if ow (tks T L i) 9 = true then pb (fX9_telling SH M 167 1) (u1 fun (M46 : AwM) => some M46) else if ow (tks T L i) 10 = true then pb (fX9_telling SH M 167 0) (u1 fun (M46 : AwM) => some M46) else if ow (tks T L i) 11 = true then pb (fX9_presenting SH M 167) (u1 fun (M46 : AwM) => some M46) else if ow (tks T L i) 12 = true then pb (fX9_pricing SH M 167) (u1 fun (M46 : AwM) => some M46) else pb (fX9_blame SH M 167 1 (M 167 4)) (u1 fun (M46 : AwM) => some M46) := by
  have tok := tks_ok T L i
  have hw : ∀ w k : Int, 0 ≤ k → k < 23 → w = own8f k → fX9_isWord SH M 167 w = some (bi (ow (tks T L i) k)) := fun w k a c e => mwrd_n h.tk tok h5 a c e
  unfold fX9_statement
  rw [kd167, gd_t rfl, mlex_n h.tk h5, pb_1, u1_1, h.h8, if_neg (show ¬ (0 : Int) < 0 by decide)]
  rw [hw 123581014175598 0 (by decide) (by decide) (by decide), pb_1, u1_1, bi_if]
  rw [hw 1668245870 2 (by decide) (by decide) (by decide), pb_1, u1_1, bi_if]
  rw [hw 444251202675 6 (by decide) (by decide) (by decide), pb_1, u1_1, bi_if]
  rw [hw 1936618850 8 (by decide) (by decide) (by decide), pb_1, u1_1, bi_if]
  rw [hw 439720633715 9 (by decide) (by decide) (by decide), pb_1, u1_1, bi_if]
  rw [hw 508675192165 10 (by decide) (by decide) (by decide), pb_1, u1_1, bi_if]
  rw [hw 8102650225890325619 11 (by decide) (by decide) (by decide), pb_1, u1_1, bi_if]
  rw [hw 482955846501 12 (by decide) (by decide) (by decide), pb_1, u1_1, bi_if]
theorem dQ_ok {k : Int} {r : (Int × Nat) ⊕ (List Int × Nat)} {D' : AwM} {j : Nat} (h : DOK D) (hk : k = 6 ∨ k = 7) (hK : K ≤ 1600) (hr : FQ T L K k i r) (e : dR D k r = .inr (D', j)) : Dn D D' i j := by
  cases r with
  | inl q => exact absurd e (by simp [dR])
  | inr q =>
    obtain ⟨k6, k7, l1, l2, l3⟩ := hr
    have e' := Sum.inr.inj e
    rw [Prod.mk.injEq] at e'
    obtain ⟨rfl, rfl⟩ := e'
    refine ⟨DOK_Q h ?_, by omega⟩
    rcases hk with rfl | rfl
    · exact Or.inl ⟨rfl, FoOK_Ty (k6 rfl).2.1 (by decide) (by omega)⟩
    · exact Or.inr ⟨rfl, FoOK_Ty (k7 rfl).2.1 (by decide) (by omega)⟩
theorem stmt_n {M : AwM} {so : Int} (h : CD T L K M so D (nD D) i) (hD : DOK D) : ∃ r, COut T L K (fX6_statement SH M 3) M so r ∧ (∀ D' j, r = .inr (D', j) → Dn D D' i j) ∧ (∀ (b : Int) (Mm : AwM), MD T L K Mm b D i → MOut T L K (fX9_statement SH Mm 167) Mm b r) := by
  have tok := tks_ok T L i
  have dc := hD.dc
  have na := hD.na
  have st := hD.st
  have hK : K ≤ 1600 := h.1.2.2.2.2.2.1.2
  rw [cst_e h]
  have other : (∀ k : Int, (k = 0 ∨ k = 2 ∨ k = 6 ∨ (8 ≤ k ∧ k ≤ 12)) → ow (tks T L i) k = false) → ∀ (b : Int) (Mm : AwM), MD T L K Mm b D i → MOut T L K (fX9_statement SH Mm 167) Mm b (.inl (1, (tks T L i).2.2.2.1)) := fun ho b Mm m => by
    by_cases z5 : (tks T L i).1 = 5
    · refine ⟨_, ?_, mbd_u rfl⟩
      unfold fX9_statement
      rw [kd167, gd_t rfl, mlex_5 m.tk z5 m.h8, pb_1, u1_1, if_pos p8_1]
    · rw [mst_e m z5, ho 0 (by decide), ho 2 (by decide), ho 6 (by decide), ho 8 (by decide), ho 9 (by decide), ho 10 (by decide), ho 11 (by decide), ho 12 (by decide)]
      refine ⟨_, ?_, mbd_u (p := ((tks T L i).2.2.1 : Int)) (by rw [tkP_s T L i z5])⟩
      rw [if_neg (by decide), if_neg (by decide), if_neg (by decide), if_neg (by decide), if_neg (by decide), if_neg (by decide), if_neg (by decide), if_neg (by decide), m.tk.1, mblm_n m.h8, pb_1, u1_1]
  by_cases z4 : (tks T L i).1 = 4
  · have n4 := (tok.2.2.2.2.2.2.2.2.1 z4).1
    have hi : 1 ≤ (tks T L i).1 ∧ (tks T L i).1 ≤ 4 := by omega
    have e5 : (tks T L i).1 ≠ 5 := by omega
    have hno : ∀ k : Int, k ≠ (tks T L i).2.1 → ow (tks T L i) k = false := fun k hk => bf (fun q => hk (ow_t.mp q).2.symm)
    have hyes : ∀ k : Int, (tks T L i).2.1 = k → ow (tks T L i) k = true := fun k hk => ow_t.mpr ⟨z4, hk⟩
    rw [if_pos z4]
    by_cases v0 : (tks T L i).2.1 = 0
    · refine ⟨stP D (tks T L) i, ?_, fun D' j e => stP_ok hD e, fun b Mm m => ?_⟩
      · rw [v0]; exact j22_g (cperson_d h dc hi)
      · rw [mst_e m e5, if_pos (hyes 0 v0)]; exact MOut_g (mperson_n m dc na hi)
    by_cases v2 : (tks T L i).2.1 = 2
    · refine ⟨stC D (tks T L) i, ?_, fun D' j e => stC_ok hD e, fun b Mm m => ?_⟩
      · rw [v2]; exact j22_g (ccoin_d h dc hi)
      · rw [mst_e m e5, hno 0 (by omega), if_neg (by decide), if_pos (hyes 2 v2)]; exact MOut_g (mcoin_n m dc na hi)
    by_cases v6 : (tks T L i).2.1 = 6
    · refine ⟨stG D (tks T L) i, ?_, fun D' j e => stG_ok hD e, fun b Mm m => ?_⟩
      · rw [v6]; exact j22_g (cgoods_d h dc hi)
      · rw [mst_e m e5, hno 0 (by omega), if_neg (by decide), hno 2 (by omega), if_neg (by decide), if_pos (hyes 6 v6)]; exact MOut_g (mgoods_n m dc na hi)
    by_cases v8 : (tks T L i).2.1 = 8
    · refine ⟨stN D (tks T L) i, ?_, fun D' j e => stN_ok hD e, fun b Mm m => ?_⟩
      · rw [v8]; exact j22_g (csnub_d h dc st hi)
      · rw [mst_e m e5, hno 0 (by omega), if_neg (by decide), hno 2 (by omega), if_neg (by decide), hno 6 (by omega), if_neg (by decide), if_pos (hyes 8 v8)]; exact MOut_g (msnub_n m dc na st hi)
    by_cases v9 : (tks T L i).2.1 = 9
    · refine ⟨stF D (tks T L) i 3 99, ?_, fun D' j e => stF_ok hD (Or.inl ⟨rfl, rfl⟩) e, fun b Mm m => ?_⟩
      · rw [v9]; exact j22_g (ctell_d h hi (Or.inl ⟨rfl, rfl⟩))
      · rw [mst_e m e5, hno 0 (by omega), if_neg (by decide), hno 2 (by omega), if_neg (by decide), hno 6 (by omega), if_neg (by decide), hno 8 (by omega), if_neg (by decide), if_pos (hyes 9 v9)]; exact MOut_g (mtell_n m hi (Or.inl ⟨rfl, rfl, rfl⟩))
    by_cases v10 : (tks T L i).2.1 = 10
    · refine ⟨stF D (tks T L) i 4 100, ?_, fun D' j e => stF_ok hD (Or.inr ⟨rfl, rfl⟩) e, fun b Mm m => ?_⟩
      · rw [v10]; exact j22_g (ctell_d h hi (Or.inr ⟨rfl, rfl⟩))
      · rw [mst_e m e5, hno 0 (by omega), if_neg (by decide), hno 2 (by omega), if_neg (by decide), hno 6 (by omega), if_neg (by decide), hno 8 (by omega), if_neg (by decide), hno 9 (by omega), if_neg (by decide), if_pos (hyes 10 v10)]; exact MOut_g (mtell_n m hi (Or.inr ⟨rfl, rfl, rfl⟩))
    by_cases v11 : (tks T L i).2.1 = 11
    · have me : ∀ (b : Int) (Mm : AwM), MD T L K Mm b D i → fX9_statement SH Mm 167 = pb (fX9_presenting SH Mm 167) (u1 fun (M46 : AwM) => some M46) := fun b Mm m => by
        rw [mst_e m e5, hno 0 (by omega), if_neg (by decide), hno 2 (by omega), if_neg (by decide), hno 6 (by omega), if_neg (by decide), hno 8 (by omega), if_neg (by decide), hno 9 (by omega), if_neg (by decide), hno 10 (by omega), if_neg (by decide), if_pos (hyes 11 v11)]
      have f0 := hD.1.f6.1
      obtain ⟨c1, c2⟩ := cform_d h hi (Or.inl rfl)
      rw [if_pos rfl] at c1 c2
      by_cases z : 0 < D 6 (-1)
      · refine ⟨.inl (6, (tks T L i).2.2.1), ?_, fun D' j e => absurd e (by simp), fun b Mm m => ?_⟩
        · rw [v11]; exact j22_g (c1 z)
        · rw [me b Mm m]
          have := (mform_n m hi (Or.inl rfl) f0).1 z
          rw [if_pos rfl] at this
          exact MOut_g this
      · obtain ⟨r, hr, hc⟩ := c2 (by omega)
        refine ⟨dR D 6 r, ?_, fun D' j e => dQ_ok hD (Or.inl rfl) hK hr e, fun b Mm m => ?_⟩
        · rw [v11]; exact j22_g hc
        · rw [me b Mm m]
          have := (mform_n m hi (Or.inl rfl) f0).2 (by omega) r hr
          rw [if_pos rfl] at this
          exact MOut_g this
    by_cases v12 : (tks T L i).2.1 = 12
    · have me : ∀ (b : Int) (Mm : AwM), MD T L K Mm b D i → fX9_statement SH Mm 167 = pb (fX9_pricing SH Mm 167) (u1 fun (M46 : AwM) => some M46) := fun b Mm m => by
        rw [mst_e m e5, hno 0 (by omega), if_neg (by decide), hno 2 (by omega), if_neg (by decide), hno 6 (by omega), if_neg (by decide), hno 8 (by omega), if_neg (by decide), hno 9 (by omega), if_neg (by decide), hno 10 (by omega), if_neg (by decide), hno 11 (by omega), if_neg (by decide), if_pos (hyes 12 v12)]
      have f0 := hD.1.f7.1
      obtain ⟨c1, c2⟩ := cform_d h hi (Or.inr rfl)
      rw [if_neg (by decide)] at c1 c2
      by_cases z : 0 < D 7 (-1)
      · refine ⟨.inl (6, (tks T L i).2.2.1), ?_, fun D' j e => absurd e (by simp), fun b Mm m => ?_⟩
        · rw [v12]; exact j22_g (c1 z)
        · rw [me b Mm m]
          have := (mform_n m hi (Or.inr rfl) f0).1 z
          rw [if_neg (by decide)] at this
          exact MOut_g this
      · obtain ⟨r, hr, hc⟩ := c2 (by omega)
        refine ⟨dR D 7 r, ?_, fun D' j e => dQ_ok hD (Or.inr rfl) hK hr e, fun b Mm m => ?_⟩
        · rw [v12]; exact j22_g hc
        · rw [me b Mm m]
          have := (mform_n m hi (Or.inr rfl) f0).2 (by omega) r hr
          rw [if_neg (by decide)] at this
          exact MOut_g this
    exact ⟨.inl (1, (tks T L i).2.2.2.1), cst_o h (by omega), fun D' j e => absurd e (by simp), other (fun k hk => hno k (by omega))⟩
  · rw [if_neg z4]
    exact ⟨.inl (1, (tks T L i).2.2.2.1), cst_o h (by decide), fun D' j e => absurd e (by simp), other (fun k _ => noW z4 k)⟩
end PSTM
