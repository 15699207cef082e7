/-! the model tells what fades, what is in vogue, snubs -/
section PMFA
variable {T : Int → Int} {L K : Nat} {b : Int} {D M : AwM} {i : Nat}
theorem MD_F {k a v : Int} (h : MD T L K M b D i) (hk : (k = 3 ∧ a = 179) ∨ (k = 4 ∧ a = 180)) : MD T L K (up_ M a b v) b (dF D k v) i := by
  have f : mdf b (up_ M a b v) M := mdf_up (Or.inl (Or.inl ⟨by omega, rfl⟩))
  have ne : ∀ a' j : Int, a' ≠ a → up_ M a b v a' j = M a' j := fun a' j x => up_of x
  have p0 : ∀ j : Int, j ≠ k → dF D k v 0 j = D 0 j := fun j hj => by unfold dF; rw [up_oi hj]
  have pk : ∀ a' : Int, a' ≠ 0 → dF D k v a' = D a' := fun a' x => by funext j; unfold dF; rw [up_of x]
  obtain ⟨_, ⟨⟨s1, s2, s3, s4, s5⟩, r1, r2, r3, r4, r5, r6, r7⟩, c, _⟩ := id h
  refine MD_s h f (fun a' j x => ne a' j (by omega)) ⟨⟨?_, ?_, ?_, ?_, ?_⟩, fun p x y => ?_, fun p x y => ?_, fun p x y => ?_, fun p x y => ?_, ?_, ?_, fun k' w x y z u => ?_⟩ (fun c' x y => ?_) ⟨pk 6 (by decide), pk 7 (by decide), ne _ _ (by omega), ne _ _ (by omega)⟩
  · rw [ne _ _ (by omega), p0 0 (by omega)]; exact s1
  · rw [ne _ _ (by omega), p0 1 (by omega)]; exact s2
  · rw [ne _ _ (by omega), p0 2 (by omega)]; exact s3
  · rcases hk with ⟨rfl, rfl⟩ | ⟨rfl, rfl⟩
    · rw [up_at]; exact up_at.symm
    · rw [ne _ _ (by decide), p0 3 (by decide)]; exact s4
  · rcases hk with ⟨rfl, rfl⟩ | ⟨rfl, rfl⟩
    · rw [ne _ _ (by decide), p0 4 (by decide)]; exact s5
    · rw [up_at]; exact up_at.symm
  · rw [p0 0 (by omega)] at y; rw [ne _ _ (by omega), pk 1 (by decide)]; exact r1 p x y
  · rw [p0 1 (by omega)] at y; rw [ne _ _ (by omega), pk 2 (by decide)]; exact r2 p x y
  · rw [p0 2 (by omega)] at y; rw [ne _ _ (by omega), pk 3 (by decide)]; exact r3 p x y
  · rw [p0 2 (by omega)] at y; rw [ne _ _ (by omega), pk 4 (by decide)]; exact r4 p x y
  · rw [pk 6 (by decide)]; exact MF_fr r5 (fun a j x => ne a j (by omega))
  · rw [pk 7 (by decide)]; exact MF_fr r6 (fun a j x => ne a j (by omega))
  · rw [p0 k' (by omega)] at u
    rw [mnm_u (fun a j x y => ne a j (by omega)), pk 5 (by decide)]; exact r7 k' w x y z u
  · rw [p0 1 (by omega)] at y; rw [ne _ _ (by omega), ne _ _ (by omega), ne _ _ (by omega), pk 8 (by decide), pk 9 (by decide), pk 10 (by decide)]
    exact c c' x y
/-- fades, vogue -/
theorem mtell_n (h : MD T L K M b D i) (hi : 1 ≤ (tks T L i).1 ∧ (tks T L i).1 ≤ 4) {k hi' v1 : Int} (hk : (k = 3 ∧ hi' = 99 ∧ v1 = 1) ∨ (k = 4 ∧ hi' = 100 ∧ v1 = 0)) : MOut T L K (fX9_telling SH M 167 v1) M b (stF D (tks T L) i k hi') := by
  have b01 := h.b01
  obtain ⟨M1, e1, h1, f1⟩ := (mcount_n h hi (v := 0)).1 rfl
  obtain ⟨n1, n2⟩ := mnum_n h1 (lo := 0) (hi := hi')
  unfold stF fX9_telling
  rw [kd167, gd_t rfl, e1, pb_1, u2_1, if_neg (show ¬ (1 : Int) = 0 by decide)]
  cases en : nuR (tks T L (i + 1)) 0 hi' with
  | some f =>
    obtain ⟨v, M2, e2, m2⟩ := n2 f.1 f.2 en
    have q2 := nuR_p en
    have := m2.1
    refine ⟨M2, ?_, MBd_tr (mdf_ma f1) m2⟩
    rcases hk with ⟨rfl, rfl, rfl⟩ | ⟨rfl, rfl, rfl⟩
    · rw [if_neg (by decide)]
      unfold fX9_telling_J22
      rw [kd167, gd_t rfl, e2, pb_1, u2_1, gd_t rfl, if_pos (show 0 < M2 167 8 by omega)]
    · rw [if_pos rfl]
      unfold fX9_telling_J22
      rw [kd167, gd_t rfl, e2, pb_1, u2_1, gd_t rfl, if_pos (show 0 < M2 167 8 by omega)]
  | none =>
    obtain ⟨M2, e2, h2, f2⟩ := n1 en
    have f2' : mdf b M2 M := mdf_tr (mdf_ma f1) (mdf_ma f2)
    rcases hk with ⟨rfl, rfl, rfl⟩ | ⟨rfl, rfl, rfl⟩
    · refine ⟨up_ M2 179 b (tks T L (i + 1)).2.1, ?_, mdf_tr f2' (mdf_up (Or.inl (Or.inl ⟨by decide, rfl⟩))), Or.inl (MD_F h2 (Or.inl ⟨rfl, rfl⟩))⟩
      rw [if_neg (by decide)]
      unfold fX9_telling_J22
      rw [kd167, gd_t rfl, e2, pb_1, u2_1, gd_t rfl, h2.h8, if_neg (show ¬ (0 : Int) < 0 by decide), if_neg (by decide), ly167_24 h2.lay, kd179, h2.in', ga_t (by omega) (by omega), bd_1]
    · refine ⟨up_ M2 180 b (tks T L (i + 1)).2.1, ?_, mdf_tr f2' (mdf_up (Or.inl (Or.inl ⟨by decide, rfl⟩))), Or.inl (MD_F h2 (Or.inr ⟨rfl, rfl⟩))⟩
      rw [if_pos rfl]
      unfold fX9_telling_J22
      rw [kd167, gd_t rfl, e2, pb_1, u2_1, gd_t rfl, h2.h8, if_neg (show ¬ (0 : Int) < 0 by decide), if_pos rfl, ly167_25 h2.lay, kd180, h2.in', ga_t (by omega) (by omega), bd_1]
theorem asR_k {D : AwM} {x : Tk} {k bar : Int} : asR D x k bar = match lkR D x k with | some f => some f | none => if hb bar (fnd D k x.2.1) = true then some (3, x.2.2.1) else none := by
  unfold asR lkR
  by_cases z : x.1 = 3
  · rw [if_pos z, if_pos z]
    by_cases q : fnd D k x.2.1 = -1
    · rw [if_pos (Or.inl q), if_pos q]
    · rw [if_neg q]
      by_cases r : hb bar (fnd D k x.2.1) = true
      · rw [if_pos (Or.inr r)]; exact (if_pos r).symm
      · rw [if_neg (fun s => s.elim q r)]; exact (if_neg r).symm
  · rw [if_neg z, if_neg z]
theorem MD_N {c p : Int} (h : MD T L K M b D i) (c0 : 0 ≤ c) (c1 : c < 12) : MD T L K (up_ M 175 (12 * b + c) (stb (D 10 c) p)) b (dN D c p) i := by
  have f : mdf b (up_ M 175 (12 * b + c) (stb (D 10 c) p)) M := mdf_up (Or.inl (Or.inr (Or.inr (Or.inl ⟨by decide, by omega, by omega⟩))))
  have ne : ∀ a' j : Int, a' ≠ 175 → up_ M 175 (12 * b + c) (stb (D 10 c) p) a' j = M a' j := fun a' j x => up_of x
  have pk : ∀ a' : Int, a' ≠ 10 → dN D c p a' = D a' := fun a' x => by funext j; unfold dN; rw [up_of x]
  obtain ⟨_, ⟨⟨s1, s2, s3, s4, s5⟩, r1, r2, r3, r4, r5, r6, r7⟩, cc, _⟩ := id h
  refine MD_s h f (fun a' j x => ne a' j (by omega)) ⟨⟨?_, ?_, ?_, ?_, ?_⟩, fun p x y => ?_, fun p x y => ?_, fun p x y => ?_, fun p x y => ?_, ?_, ?_, fun k' w x y z u => ?_⟩ (fun c' x y => ?_) ⟨pk 6 (by decide), pk 7 (by decide), ne _ _ (by decide), ne _ _ (by decide)⟩
  · rw [ne _ _ (by decide), pk 0 (by decide)]; exact s1
  · rw [ne _ _ (by decide), pk 0 (by decide)]; exact s2
  · rw [ne _ _ (by decide), pk 0 (by decide)]; exact s3
  · rw [ne _ _ (by decide), pk 0 (by decide)]; exact s4
  · rw [ne _ _ (by decide), pk 0 (by decide)]; exact s5
  · rw [pk 0 (by decide)] at y; rw [ne _ _ (by decide), pk 1 (by decide)]; exact r1 p x y
  · rw [pk 0 (by decide)] at y; rw [ne _ _ (by decide), pk 2 (by decide)]; exact r2 p x y
  · rw [pk 0 (by decide)] at y; rw [ne _ _ (by decide), pk 3 (by decide)]; exact r3 p x y
  · rw [pk 0 (by decide)] at y; rw [ne _ _ (by decide), pk 4 (by decide)]; exact r4 p x y
  · rw [pk 6 (by decide)]; exact MF_fr r5 (fun a j x => ne a j (by omega))
  · rw [pk 7 (by decide)]; exact MF_fr r6 (fun a j x => ne a j (by omega))
  · rw [pk 0 (by decide)] at u
    rw [mnm_u (fun a j x y => ne a j (by omega)), pk 5 (by decide)]; exact r7 k' w x y z u
  · rw [pk 0 (by decide)] at y; rw [ne _ _ (by decide), ne _ _ (by decide), pk 8 (by decide), pk 9 (by decide)]
    have q := cc c' x y
    refine ⟨q.1, q.2.1, ?_⟩
    by_cases ec : c' = c
    · rw [ec, up_at]; exact up_at.symm
    · rw [up_oi (by omega)]; exact q.2.2.trans (up_oi ec).symm
/-- snub -/
theorem mJ65_f {M : AwM} {x y : Int} (h8 : 0 < M 167 8) : fX9_snubbing_J65 SH M 167 x y = some M := by
  unfold fX9_snubbing_J65
  rw [kd167, gd_t rfl, if_pos h8]
theorem msnub_n (h : MD T L K M b D i) (hD : DC D) (hN : DNa D) (hS : DSt D) (hi : 1 ≤ (tks T L i).1 ∧ (tks T L i).1 ≤ 4) : MOut T L K (fX9_snubbing SH M 167) M b (stN D (tks T L) i) := by
  have b01 := h.b01
  have d0 := hD.1
  have d1' := hD.2.1
  obtain ⟨M1, e1, h1, f1⟩ := (mcount_n h hi (v := 0)).1 rfl
  obtain ⟨g1, g2⟩ := mask_n h1 hD hN (k := 1) (by decide) (by decide)
  unfold stN fX9_snubbing
  rw [kd167, gd_t rfl, e1, pb_1, u2_1, if_neg (show ¬ (1 : Int) = 0 by decide), asR_0, h1.in', w32_s (v := 12 * b) (by omega) (by omega)]
  cases ea : lkR D (tks T L (i + 1)) 1 with
  | some f =>
    obtain ⟨M2, e2, m2⟩ := g2 f.1 f.2 ea
    have p2 : 0 < M2 167 8 := by rw [m2.1]; exact lkR_p ea
    refine ⟨M2, ?_, MBd_tr (mdf_ma f1) m2⟩
    rw [e2, pb_1, u2_1, mlook_f p2, pb_1, u2_1, if_neg (by omega), mJ65_f p2]
  | none =>
    obtain ⟨⟨x1, x2⟩, M2, e2, h2, f2⟩ := g1 ea
    obtain ⟨g3, g4⟩ := mlook_n h2 hD hN (k := 0) (by decide) (by decide)
    dsimp only
    rw [e2, pb_1, u2_1, asR_k]
    generalize fnd D 1 (tks T L (i + 1)).2.1 = c at *
    have sc := hS c x2.1 x2.2
    have m9 : ms 10 (D 9 c) := ms_up sc.2.1 (by omega)
    have m0 : ms 10 (D 10 c) := ms_up sc.2.2 (by omega)
    have mo : ms 12 (or_ (D 9 c) (D 10 c)) := ms_up (or_hb (k := 0) m9 m0 (by decide)).1 (by omega)
    have r2 := h2.2.2.1 c x2.1 x2.2
    rw [w32_s (v := 12 * b + c) (by omega) (by omega)]
    cases eb : lkR D (tks T L (i + 2)) 0 with
    | some f =>
      obtain ⟨p0, M3, e3, m3⟩ := g4 f.1 f.2 eb
      have p3 : 0 < M3 167 8 := by rw [m3.1]; exact p0
      refine ⟨M3, ?_, MBd_tr (mdf_ma f1) (MBd_tr (mdf_ma f2) m3)⟩
      rw [e3, pb_1, u2_1, if_neg (by omega), mJ65_f p3]
    | none =>
      obtain ⟨⟨y1, y2⟩, e3⟩ := g3 eb
      rw [e3, pb_1, u2_1, h2.h8, if_pos (show (0 : Int) = 0 from rfl), ly167_19 h2.lay, kd174, ga_t (by omega) (by omega), ly167_20 h2.lay, kd175, ga_t (by omega) (by omega), r2.2.1, r2.2.2]
      generalize fnd D 0 (tks T L (i + 2)).2.1 = p at *
      rw [has2_n mo (by decide) (by omega) (by omega), pb_1, u1_1, bi_if, hz_p y2.1]
      dsimp only
      by_cases zh : hb (or_ (D 9 c) (D 10 c)) p = true
      · rw [if_pos zh, if_pos zh, h2.tk.1, mblm_n h2.h8, pb_1, u1_1, mJ65_f (by rw [up_oi (by decide), up_at]; decide)]
        exact ⟨_, rfl, MBd_tr (mdf_ma f1) (MBd_tr (mdf_ma f2) (mbd_u rfl))⟩
      · obtain ⟨M4, e4, h4, f4⟩ := mdnx_n h2 (by omega)
        have r4 := h4.2.2.1 c x2.1 x2.2
        have lt := ms_lt m0 (by decide)
        rw [if_neg zh, if_neg zh]
        refine ⟨up_ M4 175 (12 * b + c) (stb (D 10 c) p), ?_, mdf_tr (mdf_ma f1) (mdf_tr (mdf_ma f2) (mdf_tr (mdf_ma f4) (mdf_up (Or.inl (Or.inr (Or.inr (Or.inl ⟨by decide, by omega, by omega⟩))))))), Or.inl (MD_N h4 x2.1 (by omega))⟩
        unfold fX9_snubbing_J65
        rw [kd167, gd_t rfl, h2.h8, if_neg (show ¬ (0 : Int) < 0 by decide), e4, pb_1, u1_1, ly167_20 h4.lay, kd175, ga_t (by omega) (by omega), r4.2.2, stb_n lt.1 lt.2 (by omega) (by omega), bd_1]
end PMFA
