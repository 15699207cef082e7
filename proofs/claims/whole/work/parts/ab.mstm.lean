/-! the model's statements: people and goods -/
section PMST
variable (T : Int → Int) (L K : Nat)
def MOut (f : Option AwM) (M : AwM) (b : Int) (r : (Int × Nat) ⊕ (AwM × Nat)) : Prop := match r with
  | .inl q => ∃ M', f = some M' ∧ MBd b M' M q.1 q.2
  | .inr q => ∃ M', f = some M' ∧ mdf b M' M ∧ (MD T L K M' b q.1 q.2 ∨ ((tks T L q.2).1 = 5 ∧ M' 167 8 = 1 ∧ M' 167 9 = ((tks T L q.2).2.2.2.1 : Int)))
variable {T : Int → Int} {L K : Nat} {b : Int} {D M : AwM} {i : Nat}
theorem MD_s {M' D' : AwM} (h : MD T L K M b D i) (hf : mdf b M' M) (h0 : ∀ a j : Int, a ≤ 168 → M' a j = M a j) (hs : MS M' b D') (hc : ∀ c : Int, 0 ≤ c → c < D' 0 1 → M' 173 (12 * b + c) = D' 8 c ∧ M' 174 (12 * b + c) = D' 9 c ∧ M' 175 (12 * b + c) = D' 10 c) (h6 : D' 6 = D 6 ∧ D' 7 = D 7 ∧ M' 182 b = M 182 b ∧ M' 184 b = M 184 b) : MD T L K M' b D' i := by
  obtain ⟨⟨a1, a2, a3, a4, a5, a6, a7, a8⟩, s, c, ⟨cf, d1, d2, d3, d4⟩⟩ := h
  have mt : MTK M' (tks T L i) := by
    unfold MTK
    rw [h0 167 4 (by omega), h0 167 5 (by omega), h0 167 12 (by omega), h0 167 3 (by omega), h0 167 6 (by omega), h0 167 7 (by omega)]
    exact a5
  refine ⟨⟨LAY_md a1 hf, ⟨⟨(h0 _ _ (by omega)).trans a2.1.1, (h0 _ _ (by omega)).trans a2.1.2⟩, a2.2.1, fun k x y => ⟨(a2.2.2 k x y).1, (h0 _ _ (by omega)).trans (a2.2.2 k x y).2⟩⟩, (h0 _ _ (by omega)).trans a3, (h0 _ _ (by omega)).trans a4, mt, a6, a7, a8⟩, hs, hc, cf, (h0 _ _ (by omega)).trans d1, d2, fun z => ?_, fun z => ?_⟩
  · rw [h6.1] at z; rw [h6.2.2.1]; exact d3 z
  · rw [h6.2.1] at z; rw [h6.2.2.2]; exact d4 z
theorem MF_fr {M M' : AwM} {b fr bh : Int} {f : Int → Int} (h : MF M b fr bh f) (hp : ∀ a i : Int, (a = fr ∨ a = bh ∨ a = 185 ∨ a = 186) → M' a i = M a i) : MF M' b fr bh f := by
  unfold MF
  rw [hp fr b (by omega), hp bh b (by omega)]
  refine ⟨h.1, fun z => ?_⟩
  obtain ⟨x1, x2, x3, x4⟩ := h.2 z
  refine ⟨x1, x2, x3, fun k y1 y2 => ?_⟩
  rw [hp 185 _ (by omega), hp 186 _ (by omega)]
  exact x4 k y1 y2
theorem mnm_u {M M' : AwM} {b k w : Int} (h : ∀ a j : Int, 187 ≤ a → a ≤ 189 → M' a j = M a j) : mnm M' b k w = mnm M b k w := by
  unfold mnm
  rw [h _ _ (by decide) (by decide), h _ _ (by decide) (by decide), h _ _ (by decide) (by decide)]
/-- one more person is told -/
theorem MD_P {nm ra : Int} (h : MD T L K M b D i) (hd : 0 ≤ D 0 0 ∧ D 0 0 < 10) (hn : M 187 (10 * b + D 0 0) = n8 nm) (hr : M 170 (10 * b + D 0 0) = ra) : MD T L K (up_ M 169 b (D 0 0 + 1)) b (dP D nm ra) i := by
  have f : mdf b (up_ M 169 b (D 0 0 + 1)) M := mdf_up (Or.inl (Or.inl ⟨Or.inl rfl, rfl⟩))
  have ne : ∀ a j : Int, a ≠ 169 → up_ M 169 b (D 0 0 + 1) a j = M a j := fun a j x => up_of x
  have p00 : dP D nm ra 0 0 = D 0 0 + 1 := up_at
  have p0 : ∀ k : Int, k ≠ 0 → dP D nm ra 0 k = D 0 k := fun k hk => by unfold dP; rw [up_oi hk, up_of (by decide), up_of (by decide)]
  have pk : ∀ a : Int, a ≠ 0 → a ≠ 1 → a ≠ 5 → dP D nm ra a = D a := fun a x y z => by
    funext j; unfold dP; rw [up_of x, up_of y, up_of z]
  obtain ⟨_, ⟨⟨s1, s2, s3, s4, s5⟩, r1, r2, r3, r4, r5, r6, r7⟩, c, _⟩ := id h
  refine MD_s h f (fun a j x => ne a j (by omega)) ⟨⟨by rw [up_at, p00], by rw [ne _ _ (by decide), p0 1 (by decide)]; exact s2, by rw [ne _ _ (by decide), p0 2 (by decide)]; exact s3, by rw [ne _ _ (by decide), p0 3 (by decide)]; exact s4, by rw [ne _ _ (by decide), p0 4 (by decide)]; exact s5⟩, fun p x y => ?_, fun p x y => ?_, fun p x y => ?_, fun p x y => ?_, ?_, ?_, fun k w x y z u => ?_⟩ (fun c' x y => ?_) ⟨pk 6 (by decide) (by decide) (by decide), pk 7 (by decide) (by decide) (by decide), ne _ _ (by decide), ne _ _ (by decide)⟩
  · have e1p : dP D nm ra 1 p = if p = D 0 0 then ra else D 1 p := by
      unfold dP; rw [up_of (by decide)]; by_cases q : p = D 0 0
      · rw [if_pos q, q, up_at]
      · rw [if_neg q, up_oi q, up_of (by decide)]
    rw [ne _ _ (by decide), e1p]
    rw [p00] at y
    by_cases q : p = D 0 0
    · rw [if_pos q, q]; exact hr
    · rw [if_neg q]; exact r1 p x (by omega)
  · rw [p0 1 (by decide)] at y; rw [ne _ _ (by decide), pk 2 (by decide) (by decide) (by decide)]; exact r2 p x y
  · rw [p0 2 (by decide)] at y; rw [ne _ _ (by decide), pk 3 (by decide) (by decide) (by decide)]; exact r3 p x y
  · rw [p0 2 (by decide)] at y; rw [ne _ _ (by decide), pk 4 (by decide) (by decide) (by decide)]; exact r4 p x y
  · rw [pk 6 (by decide) (by decide) (by decide)]; exact MF_fr r5 (fun a j x => ne a j (by omega))
  · rw [pk 7 (by decide) (by decide) (by decide)]; exact MF_fr r6 (fun a j x => ne a j (by omega))
  · have e5 : dP D nm ra 5 (12 * k + w) = if 12 * k + w = 12 * 0 + D 0 0 then nm else D 5 (12 * k + w) := by
      unfold dP; rw [up_of (by decide), up_of (by decide)]; by_cases q : 12 * k + w = 12 * 0 + D 0 0
      · rw [if_pos q, q, up_at]
      · rw [if_neg q, up_oi q]
    rw [mnm_u (fun a j x y => ne a j (by omega)), e5]
    by_cases k0 : k = 0
    · subst k0
      rw [p00] at u
      by_cases q : w = D 0 0
      · rw [if_pos (by omega), q]; unfold mnm; rw [if_pos rfl]; exact hn
      · rw [if_neg (by omega)]; exact r7 0 w x y z (by omega)
    · rw [p0 k k0] at u
      rw [if_neg (by omega)]; exact r7 k w x y z u
  · rw [p0 1 (by decide)] at y; rw [ne _ _ (by decide), ne _ _ (by decide), ne _ _ (by decide), pk 8 (by decide) (by decide) (by decide), pk 9 (by decide) (by decide) (by decide), pk 10 (by decide) (by decide) (by decide)]
    exact c c' x y
theorem frR_p {D : AwM} {y : Tk} {k : Int} {p : Nat} (h : frR D y = some (k, p)) : 0 < k := by
  unfold frR at h
  split at h
  · split at h
    · have := Option.some.inj h; rw [Prod.mk.injEq] at this; omega
    · exact absurd h (by simp)
  · have := Option.some.inj h; rw [Prod.mk.injEq] at this; omega
theorem nuR_p {y : Tk} {lo hi k : Int} {p : Nat} (h : nuR y lo hi = some (k, p)) : 0 < k := by
  unfold nuR at h
  split at h
  · split at h
    · exact absurd h (by simp)
    · have := Option.some.inj h; rw [Prod.mk.injEq] at this; omega
  · have := Option.some.inj h; rw [Prod.mk.injEq] at this; omega
theorem lkR_p {D : AwM} {y : Tk} {c k : Int} {p : Nat} (h : lkR D y c = some (k, p)) : 0 < k := by
  unfold lkR at h
  split at h
  · split at h
    · have := Option.some.inj h; rw [Prod.mk.injEq] at this; omega
    · exact absurd h (by simp)
  · have := Option.some.inj h; rw [Prod.mk.injEq] at this; omega
theorem mperson_n (h : MD T L K M b D i) (hD : DC D) (hN : DNa D) (hi : 1 ≤ (tks T L i).1 ∧ (tks T L i).1 ≤ 4) : MOut T L K (fX9_personing SH M 167) M b (stP D (tks T L) i) := by
  have l := h.lay
  have b01 := h.b01
  have d0 := hD.1
  have s1 := h.2.1.1.1
  unfold stP fX9_personing
  rw [kd167, gd_t rfl, ly167_14 l, kd169, h.in', ga_t (by omega) (by omega), s1, newR_e]
  by_cases zf : D 0 0 = 10
  · obtain ⟨M', e, m⟩ := (mcount_n h hi (v := 1)).2 (by decide)
    rw [if_pos (show mx 0 ≤ D 0 0 by show (10 : Int) ≤ _; omega), if_pos zf]
    refine ⟨M', ?_, m⟩
    unfold fX9_personing_J20
    rw [kd167, gd_t rfl, e, pb_1, u2_1, if_pos rfl]
  · obtain ⟨M1, e1, h1, f1⟩ := (mcount_n h hi (v := 0)).1 rfl
    obtain ⟨g1, g2⟩ := mfresh_n h1 hD hN
    have s1' := h1.2.1.1.1
    rw [if_neg (show ¬ mx 0 ≤ D 0 0 by show ¬ (10 : Int) ≤ _; omega), if_neg zf]
    unfold fX9_personing_J20
    rw [kd167, gd_t rfl, e1, pb_1, u2_1, if_neg (show ¬ (1 : Int) = 0 by decide), gd_t rfl, ly167_14 h1.lay, kd169, h1.in', ga_t (by omega) (by omega), s1', bd_1, w32_s (v := 10 * b) (by omega) (by omega), w32_s (v := 10 * b + D 0 0) (by omega) (by omega)]
    cases ef : frR D (tks T L (i + 1)) with
    | some f =>
      obtain ⟨v, M2, e2, m2⟩ := g2 f.1 f.2 ef
      have m3 := MBd_w (a := 187) (i := 10 * b + D 0 0) (v := v) m2 (Or.inr (Or.inl ⟨by omega, by omega, by omega⟩))
      have l3 := LAY_md h1.lay m3.2.2
      have p3 : 0 < up_ M2 187 (10 * b + D 0 0) v 167 8 := by rw [m3.1]; exact frR_p ef
      refine ⟨_, ?_, MBd_tr (mdf_ma f1) (MBd_w (a := 170) (i := 10 * b + D 0 0) (v := 0) m3 (Or.inr (Or.inl ⟨by omega, by omega, by omega⟩)))⟩
      rw [e2, pb_1, u2_1, ly167_32 h1.lay, kd187, ga_t (by omega) (by omega), bd_1, mmustw_f p3, pb_1, u1_1, mnum_f p3, pb_1, u2_1, ly167_15 l3, kd170, ga_t (by omega) (by omega), bd_1, if_neg (by rw [up_of (by decide)]; omega)]
    | none =>
      obtain ⟨⟨z3, nd⟩, M2, e2, h2, f2⟩ := g1 ef
      have h2' := MD_w (a := 187) (v := n8f 8 (tks T L (i + 1)).2.1 0) h2 hD (Or.inl ⟨Or.inl rfl, rfl⟩)
      have f2' : mdf b (up_ M2 187 (10 * b + D 0 0) (n8f 8 (tks T L (i + 1)).2.1 0)) M := mdf_tr (mdf_ma f1) (mdf_tr (mdf_ma f2) (mdf_up (Or.inl (Or.inr (Or.inl ⟨by omega, by omega, by omega⟩)))))
      obtain ⟨w1, w2⟩ := mmustw_n h2' (w := 1918987883) (k := 1) (by decide) (by decide) (by decide)
      rw [e2, pb_1, u2_1, ly167_32 h1.lay, kd187, ga_t (by omega) (by omega), bd_1]
      dsimp only
      by_cases zw : ow (tks T L (i + 2)) 1 = true
      · obtain ⟨M3, e3, h3, f3⟩ := w1 zw
        obtain ⟨n1, n2⟩ := mnum_n h3 (lo := 0) (hi := 9)
        rw [if_pos zw, e3, pb_1, u1_1, ly167_15 h3.lay, kd170]
        cases en : nuR (tks T L (i + 3)) 0 9 with
        | some f =>
          obtain ⟨v, M4, e4, m4⟩ := n2 f.1 f.2 en
          refine ⟨_, ?_, MBd_tr f2' (MBd_tr (mdf_ma f3) (MBd_w (a := 170) (i := 10 * b + D 0 0) (v := v) m4 (Or.inr (Or.inl ⟨by omega, by omega, by omega⟩))))⟩
          have p4 := nuR_p en
          have := m4.1
          rw [e4, pb_1, u2_1, ga_t (by omega) (by omega), bd_1, if_neg (by rw [up_of (by decide)]; omega)]
        | none =>
          obtain ⟨M4, e4, h4, f4⟩ := n1 en
          have h4' := MD_w (a := 170) (v := (tks T L (i + 3)).2.1) h4 hD (Or.inl ⟨Or.inr rfl, rfl⟩)
          have f4' : mdf b (up_ M4 170 (10 * b + D 0 0) (tks T L (i + 3)).2.1) M := mdf_tr f2' (mdf_tr (mdf_ma f3) (mdf_tr (mdf_ma f4) (mdf_up (Or.inl (Or.inr (Or.inl ⟨by omega, by omega, by omega⟩))))))
          have s4 := h4'.2.1.1.1
          refine ⟨_, ?_, mdf_tr f4' (mdf_up (Or.inl (Or.inl ⟨Or.inl rfl, rfl⟩))), Or.inl (MD_P (nm := (tks T L (i + 1)).2.1) (ra := (tks T L (i + 3)).2.1) h4' (by omega) ?_ up_at)⟩
          · rw [e4, pb_1, u2_1, ga_t (by omega) (by omega), bd_1, if_pos h4'.h8, ly167_14 h4'.lay, h4'.in', kd169, ga_t (by omega) (by omega), bd_1, s4, w32_s (by omega) (by omega)]
          · rw [up_of (by decide), f4 _ _ (by omega), f3 _ _ (by omega), up_at]
            exact n8_up 6 8 _ 0 (by decide) nd
      · obtain ⟨M3, e3, m3⟩ := w2 (by cases q : ow (tks T L (i + 2)) 1 <;> simp_all)
        have p3 : 0 < M3 167 8 := by rw [m3.1]; decide
        have l3 := LAY_md h2'.lay m3.2.2
        rw [if_neg zw]
        refine ⟨_, ?_, MBd_tr f2' (MBd_w (a := 170) (i := 10 * b + D 0 0) (v := 0) m3 (Or.inr (Or.inl ⟨by omega, by omega, by omega⟩)))⟩
        rw [e3, pb_1, u1_1, mnum_f p3, pb_1, u2_1, ly167_15 l3, kd170, ga_t (by omega) (by omega), bd_1, if_neg (by rw [up_of (by decide)]; omega)]
end PMST
