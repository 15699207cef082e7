/-! the model tells a coin -/
section PMCO
variable {T : Int → Int} {L K : Nat} {b : Int} {D M : AwM} {i : Nat}
theorem MD_C {nm wo ho S : Int} (h : MD T L K M b D i) (hD : DC D) (hd : 0 ≤ D 0 1 ∧ D 0 1 < 12) (hn : M 188 (12 * b + D 0 1) = n8 nm) (hw : M 172 (12 * b + D 0 1) = wo) (hh : M 173 (12 * b + D 0 1) = ho) (hS : M 174 (12 * b + D 0 1) = S) (h0 : M 175 (12 * b + D 0 1) = 0) : MD T L K (up_ M 171 b (D 0 1 + 1)) b (dC D nm wo ho S) i := by
  have f : mdf b (up_ M 171 b (D 0 1 + 1)) M := mdf_up (Or.inl (Or.inl ⟨Or.inr (Or.inl rfl), rfl⟩))
  have ne : ∀ a j : Int, a ≠ 171 → up_ M 171 b (D 0 1 + 1) a j = M a j := fun a j x => up_of x
  have pk : ∀ a : Int, a ≠ 0 ∧ a ≠ 2 ∧ a ≠ 5 ∧ a ≠ 8 ∧ a ≠ 9 ∧ a ≠ 10 → dC D nm wo ho S a = D a := fun a x => dC_a x
  have p0 : ∀ k : Int, k ≠ 1 → dC D nm wo ho S 0 k = D 0 k := fun k hk => dC_0 hk
  obtain ⟨_, ⟨⟨s1, s2, s3, s4, s5⟩, r1, r2, r3, r4, r5, r6, r7⟩, c, _⟩ := id h
  refine MD_s h f (fun a j x => ne a j (by omega)) ⟨⟨?_, ?_, ?_, ?_, ?_⟩, fun p x y => ?_, fun p x y => ?_, fun p x y => ?_, fun p x y => ?_, ?_, ?_, fun k w x y z u => ?_⟩ (fun c' x y => ?_) ⟨pk 6 (by decide), pk 7 (by decide), ne _ _ (by decide), ne _ _ (by decide)⟩
  · rw [ne _ _ (by decide), p0 0 (by decide)]; exact s1
  · rw [up_at]; exact dC_01.symm
  · rw [ne _ _ (by decide), p0 2 (by decide)]; exact s3
  · rw [ne _ _ (by decide), p0 3 (by decide)]; exact s4
  · rw [ne _ _ (by decide), p0 4 (by decide)]; exact s5
  · rw [p0 0 (by decide)] at y; rw [ne _ _ (by decide), pk 1 (by decide)]; exact r1 p x y
  · rw [dC_01] at y
    rw [ne _ _ (by decide), dC_c.1]
    by_cases q : p = D 0 1
    · rw [if_pos q, q]; exact hw
    · rw [if_neg q]; exact r2 p x (by omega)
  · rw [p0 2 (by decide)] at y; rw [ne _ _ (by decide), pk 3 (by decide)]; exact r3 p x y
  · rw [p0 2 (by decide)] at y; rw [ne _ _ (by decide), pk 4 (by decide)]; exact r4 p x y
  · rw [pk 6 (by decide)]; exact MF_fr r5 (fun a j x => ne a j (by omega))
  · rw [pk 7 (by decide)]; exact MF_fr r6 (fun a j x => ne a j (by omega))
  · rw [mnm_u (fun a j x y => ne a j (by omega)), dC_5]
    by_cases k0 : k = 1
    · subst k0
      rw [dC_01] at u
      by_cases q : w = D 0 1
      · rw [if_pos (by omega), q]; unfold mnm; rw [if_neg (by decide), if_pos rfl]; exact hn
      · rw [if_neg (by omega)]; exact r7 1 w x y z (by omega)
    · rw [p0 k k0] at u
      by_cases q : 12 * k + w = 12 * 1 + D 0 1
      · have hk := (hD.k k x y).2
        have h0' := hD.1
        omega
      · rw [if_neg q]; exact r7 k w x y z u
  · rw [dC_01] at y
    rw [ne _ _ (by decide), ne _ _ (by decide), ne _ _ (by decide), dC_c.2.1, dC_c.2.2.1, dC_c.2.2.2]
    by_cases q : c' = D 0 1
    · rw [if_pos q, if_pos q, if_pos q, q]; exact ⟨hh, hS, h0⟩
    · rw [if_neg q, if_neg q, if_neg q]; exact c c' x (by omega)
/-- the loop over those who know a coin -/
def kfr (x : Int) (M' M : AwM) : Prop := ∀ a j : Int, a ≠ 167 → ¬ (a = 174 ∧ j = x) → M' a j = M a j
theorem mL142_0 {M : AwM} {x : Int} {N : Nat} : lp (u2 (fX9_coining_L142 SH 167 x)) (N + 1) (0, M) = some M := by
  refine lp_st ?_
  rw [u2_1]
  unfold fX9_coining_L142
  rw [if_pos rfl]
theorem mJ204_f {M : AwM} {x : Int} (h8 : 0 < M 167 8) : fX9_coining_J204_142 SH M 167 x = some (.inl (0, M)) := by
  unfold fX9_coining_J204_142
  rw [kd167, gd_t rfl, mlex_f h8, pb_1, u1_1, if_neg (by omega)]
theorem mJ181_f {M : AwM} {x y : Int} (h8 : 0 < M 167 8) : fX9_coining_J181_142 SH M 167 x y = some (.inl (0, M)) := by
  unfold fX9_coining_J181_142
  rw [kd167, gd_t rfl, if_neg (by omega), mJ204_f h8]
def KnX (T : Int → Int) (L K : Nat) (b : Int) (D M M' : AwM) (nm wo ho : Int) (r : (Int × Nat) ⊕ (AwM × Nat)) : Prop := match r with
  | .inl q => 0 < q.1 ∧ MBd b M' M q.1 q.2
  | .inr q => mdf b M' M ∧ ∃ S', q.1 = dC D nm wo ho S' ∧ ((MD T L K M' b D q.2 ∧ M' 174 (12 * b + D 0 1) = S' ∧ kfr (12 * b + D 0 1) M' M) ∨ ((tks T L q.2).1 = 5 ∧ M' 167 8 = 1 ∧ M' 167 9 = ((tks T L q.2).2.2.2.1 : Int)))
theorem KnX_tr {M1 M2 : AwM} {nm wo ho : Int} {r : (Int × Nat) ⊕ (AwM × Nat)} (h : mdf b M1 M) (h' : kfr (12 * b + D 0 1) M1 M) (k : KnX T L K b D M1 M2 nm wo ho r) : KnX T L K b D M M2 nm wo ho r := by
  unfold KnX at k ⊢
  cases r with
  | inl q => exact ⟨k.1, MBd_tr h k.2⟩
  | inr q =>
    obtain ⟨a, S', e, o⟩ := k
    refine ⟨mdf_tr h a, S', e, ?_⟩
    rcases o with ⟨o1, o2, o3⟩ | o
    · exact Or.inl ⟨o1, o2, fun a j x y => (o3 a j x y).trans (h' a j x y)⟩
    · exact Or.inr o
theorem mknown_l (hD : DC D) (hN : DNa D) (h12 : D 0 1 < 12) (hb01 : b = 0 ∨ b = 1) {nm wo ho : Int} : ∀ (f i N : Nat) (S : Int) (M : AwM), MD T L K M b D i → M 174 (12 * b + D 0 1) = S → K < i + f → ms 10 S → f + 2 < N → ∃ M', lp (u2 (fX9_coining_L142 SH 167 (12 * b + D 0 1))) N (1, M) = some M' ∧ KnX T L K b D M M' nm wo ho (knF D nm wo ho (tks T L) f i S)
  | 0, i, N, S, M, h, _, hf, _, _ => by
    have : i ≤ K := h.1.2.2.2.2.2.2.1
    omega
  | f + 1, i, N, S, M, h, hs, hf, hS, hNN => by
    have d0 := hD.1
    have d1 := hD.2.1
    obtain ⟨N', rfl⟩ : ∃ N', N = N' + 2 := ⟨N - 2, by omega⟩
    obtain ⟨g1, g2⟩ := mlook_n h hD hN (k := 0) (by decide) (by decide)
    have step : ∀ R, (gd_ (kd_ SH 167 = (0, 9)) (pb (fX9_looked SH M 167 0) <| u2 fun (x51 : Int) (M52 : AwM) => ((if (M52 167 8) = 0 then gd_ ((kd_ SH (M52 167 19)).1 = 1 ∧ (0 : Int) ≤ (12 * b + D 0 1) ∧ (12 * b + D 0 1) < ((kd_ SH (M52 167 19)).2 : Int)) (pb (fX9_has2 SH M52 (M52 (M52 167 19) (12 * b + D 0 1)) x51) <| u1 fun (x71 : Int) => ((if x71 = 0 then fX9_coining_J181_142 SH M52 167 (12 * b + D 0 1) x51 else pb (fX9_blame SH M52 167 3 (M52 167 4)) <| u1 fun (M74 : AwM) => (fX9_coining_J181_142 SH M74 167 (12 * b + D 0 1) x51)))) else fX9_coining_J181_142 SH M52 167 (12 * b + D 0 1) x51)))) = R → u2 (fX9_coining_L142 SH 167 (12 * b + D 0 1)) (1, M) = R := fun R hR => by
      rw [u2_1]
      unfold fX9_coining_L142
      rw [if_neg (by decide)]
      exact hR
    unfold knF
    rw [asR_k]
    cases eb : lkR D (tks T L i) 0 with
    | some q =>
      obtain ⟨p0, M3, e3, m3⟩ := g2 q.1 q.2 eb
      have p3 : 0 < M3 167 8 := by rw [m3.1]; exact p0
      refine ⟨M3, ?_, p0, m3⟩
      rw [lp_go (step _ (by rw [kd167, gd_t rfl, e3, pb_1, u2_1, if_neg (by omega), mJ181_f p3])), mL142_0]
    | none =>
      obtain ⟨⟨y1, y2⟩, e3⟩ := g1 eb
      dsimp only
      have lt := ms_lt hS (by decide)
      have hds := has2_n (sh := SH) (M := M) (k := fnd D 0 (tks T L i).2.1) hS (by decide) (by omega) (by omega)
      rw [hz_p y2.1] at hds
      by_cases zh : hb S (fnd D 0 (tks T L i).2.1) = true
      · have p3 : 0 < up_ (up_ M 167 8 3) 167 9 ((tks T L i).2.2.1 : Int) 167 8 := by rw [up_oi (by decide), up_at]; decide
        rw [if_pos zh]
        refine ⟨_, ?_, show (0 : Int) < 3 by decide, mbd_u rfl⟩
        rw [lp_go (step _ (by rw [kd167, gd_t rfl, e3, pb_1, u2_1, h.h8, if_pos rfl, ly167_19 h.lay, kd174, ga_t (by omega) (by omega), hs, hds, pb_1, u1_1, bi_if, if_pos zh, h.tk.1, mblm_n h.h8, pb_1, u1_1, mJ181_f p3])), mL142_0]
      · have h1 := MD_w (a := 174) (j := 12 * b + D 0 1) (v := stb S (fnd D 0 (tks T L i).2.1)) h hD (Or.inr (Or.inl ⟨Or.inr (by decide), rfl⟩))
        obtain ⟨M2, e2, h2, f2⟩ := mdnx_n h1 (by omega)
        have s2 : M2 174 (12 * b + D 0 1) = stb S (fnd D 0 (tks T L i).2.1) := by rw [f2 _ _ (by omega), up_at]
        have fr2 : mdf b M2 M := mdf_tr (mdf_up (Or.inl (Or.inr (Or.inr (Or.inl ⟨by decide, by omega, by omega⟩))))) (mdf_ma f2)
        have kf2 : kfr (12 * b + D 0 1) M2 M := fun a j x y => by rw [f2 _ _ (by omega), up_nn y]
        rw [if_neg zh]
        dsimp only
        have pre : ∀ R, fX9_coining_J204_142 SH M2 167 (12 * b + D 0 1) = R → u2 (fX9_coining_L142 SH 167 (12 * b + D 0 1)) (1, M) = R := fun R hR => step R (by
          rw [kd167, gd_t rfl, e3, pb_1, u2_1, h.h8, if_pos rfl, ly167_19 h.lay, kd174, ga_t (by omega) (by omega), hs, hds, pb_1, u1_1, bi_if, if_neg zh]
          unfold fX9_coining_J181_142
          rw [kd167, gd_t rfl, h.h8, if_pos rfl, ly167_19 h.lay, kd174, ga_t (by omega) (by omega), hs, stb_n lt.1 lt.2 (by omega) (by omega), bd_1, e2, pb_1, u1_1]
          exact hR)
        by_cases z3 : (tks T L (i + 1)).1 = 3
        · rw [if_pos z3]
          obtain ⟨M', e', k'⟩ := mknown_l hD hN h12 hb01 (nm := nm) (wo := wo) (ho := ho) f (i + 1) (N' + 1) _ M2 h2 s2 (by omega) (ms_stb hS (by omega) (by omega)) (by omega)
          refine ⟨M', ?_, KnX_tr fr2 kf2 k'⟩
          rw [lp_go (pre (some (.inl (1, M2))) ?_)]
          · exact e'
          · unfold fX9_coining_J204_142
            have m3 := h2.tk.2.2.2.2.2.2.2.1 z3
            rw [kd167, gd_t rfl, mlex_n h2.tk (by omega), pb_1, u1_1, h2.h8, if_pos rfl, m3.1, if_pos rfl, misown_n h2.tk (Or.inl z3), pb_1, u1_1, decide_eq_false (by omega), if_pos (show bi false = 0 from rfl)]
        · rw [if_neg z3]
          by_cases z5 : (tks T L (i + 1)).1 = 5
          · refine ⟨up_ (up_ M2 167 8 1) 167 9 ((tks T L (i + 1)).2.2.2.1 : Int), ?_, mdf_tr fr2 (mbd_u rfl).2.2, _, rfl, Or.inr ⟨z5, by rw [up_oi (by decide), up_at], up_at⟩⟩
            rw [lp_go (pre (some (.inl (0, up_ (up_ M2 167 8 1) 167 9 ((tks T L (i + 1)).2.2.2.1 : Int)))) ?_), mL142_0]
            unfold fX9_coining_J204_142
            rw [kd167, gd_t rfl, mlex_5 h2.tk z5 h2.h8, pb_1, u1_1, if_neg (by rw [up_oi (by decide), up_at]; decide)]
          · refine ⟨M2, ?_, fr2, _, rfl, Or.inl ⟨h2, s2, kf2⟩⟩
            rw [lp_go (pre (some (.inl (0, M2))) ?_), mL142_0]
            unfold fX9_coining_J204_142
            rw [kd167, gd_t rfl, mlex_n h2.tk z5, pb_1, u1_1, h2.h8, if_pos rfl]
            by_cases z4 : (tks T L (i + 1)).1 = 4
            · have m4 := h2.tk.2.2.2.2.2.2.2.2 z4
              rw [m4.1, if_pos rfl, misown_n h2.tk (Or.inr z4), pb_1, u1_1, decide_eq_true z4, if_neg (show ¬ bi true = 0 by decide)]
            · have k06 := (tks_ok T L (i + 1)).1
              have e3 : ¬ M2 167 3 = 1 := by
                obtain ⟨_, _, _, _, m0, m1', m2, m3, m4⟩ := h2.tk
                rcases (show (tks T L (i + 1)).1 = 0 ∨ (tks T L (i + 1)).1 = 1 ∨ (tks T L (i + 1)).1 = 2 ∨ (tks T L (i + 1)).1 = 6 by omega) with q | q | q | q
                · rw [m0 q]; decide
                · rw [(m1' (Or.inl q)).1]; decide
                · rw [(m2 q).1]; decide
                · rw [(m1' (Or.inr q)).1]; decide
              rw [if_neg e3]
end PMCO
