/-! the class tells a coin -/
section PCCO
def dC (D : AwM) (nm wo ho S : Int) : AwM := up_ (up_ (up_ (up_ (up_ (up_ D 5 (12 * 1 + D 0 1) nm) 2 (D 0 1) wo) 8 (D 0 1) ho) 9 (D 0 1) S) 10 (D 0 1) 0) 0 1 (D 0 1 + 1)
theorem dC_01 {D : AwM} {nm wo ho S : Int} : dC D nm wo ho S 0 1 = D 0 1 + 1 := up_at
theorem dC_0 {D : AwM} {nm wo ho S k : Int} (h : k ≠ 1) : dC D nm wo ho S 0 k = D 0 k := by
  unfold dC; rw [up_oi h, up_of (by decide), up_of (by decide), up_of (by decide), up_of (by decide), up_of (by decide)]
theorem dC_a {D : AwM} {nm wo ho S a : Int} (h : a ≠ 0 ∧ a ≠ 2 ∧ a ≠ 5 ∧ a ≠ 8 ∧ a ≠ 9 ∧ a ≠ 10) : dC D nm wo ho S a = D a := by
  funext j; unfold dC; rw [up_of (by omega), up_of (by omega), up_of (by omega), up_of (by omega), up_of (by omega), up_of (by omega)]
theorem dC_5 {D : AwM} {nm wo ho S j : Int} : dC D nm wo ho S 5 j = if j = 12 * 1 + D 0 1 then nm else D 5 j := by
  unfold dC; rw [up_of (by decide), up_of (by decide), up_of (by decide), up_of (by decide), up_of (by decide)]
  by_cases e : j = 12 * 1 + D 0 1
  · rw [if_pos e, e, up_at]
  · rw [if_neg e, up_oi e]
theorem dC_c {D : AwM} {nm wo ho S c : Int} : dC D nm wo ho S 2 c = (if c = D 0 1 then wo else D 2 c) ∧ dC D nm wo ho S 8 c = (if c = D 0 1 then ho else D 8 c) ∧ dC D nm wo ho S 9 c = (if c = D 0 1 then S else D 9 c) ∧ dC D nm wo ho S 10 c = (if c = D 0 1 then 0 else D 10 c) := by
  unfold dC
  refine ⟨?_, ?_, ?_, ?_⟩
  · rw [up_of (by decide), up_of (by decide), up_of (by decide), up_of (by decide)]
    by_cases e : c = D 0 1
    · rw [if_pos e, e]; unfold up_; simp
    · rw [if_neg e, up_oi e, up_of (by decide)]
  · rw [up_of (by decide), up_of (by decide), up_of (by decide)]
    by_cases e : c = D 0 1
    · rw [if_pos e, e]; unfold up_; simp
    · rw [if_neg e, up_oi e, up_of (by decide), up_of (by decide)]
  · rw [up_of (by decide), up_of (by decide)]
    by_cases e : c = D 0 1
    · rw [if_pos e, e]; unfold up_; simp
    · rw [if_neg e, up_oi e, up_of (by decide), up_of (by decide), up_of (by decide)]
  · rw [up_of (by decide)]
    by_cases e : c = D 0 1
    · rw [if_pos e, e]; unfold up_; simp
    · rw [if_neg e, up_oi e, up_of (by decide), up_of (by decide), up_of (by decide), up_of (by decide)]
theorem FN_cg {g g' : Int → Int} {n nm r : Int} (hg : ∀ w : Int, 0 ≤ w → w < n → g w = g' w) (h : FN g n nm r) : FN g' n nm r := by
  rcases h with ⟨a, b, c, d⟩ | ⟨a, b⟩
  · exact Or.inl ⟨a, b, (hg r a b).symm.trans c, fun w x y => by rw [← hg w x (by omega)]; exact d w x y⟩
  · exact Or.inr ⟨a, fun w x y => by rw [← hg w x y]; exact b w x y⟩
theorem fnd_dC {D : AwM} {nm wo ho S nm' : Int} (h : 0 ≤ D 0 0 ∧ D 0 0 ≤ 12) (h1 : 0 ≤ D 0 1) : fnd (dC D nm wo ho S) 0 nm' = fnd D 0 nm' := by
  have a := fnd_c (D := dC D nm wo ho S) (k := 0) (nm := nm') (by rw [dC_0 (by decide)]; exact h.1)
  have b := fnd_c (D := D) (k := 0) (nm := nm') h.1
  rw [dC_0 (by decide)] at a
  refine FN_u (FN_cg (fun w x y => ?_) a) b
  rw [dC_5, if_neg (by omega)]
theorem asR_dC {D : AwM} {nm wo ho S bar : Int} {x : Tk} (h : 0 ≤ D 0 0 ∧ D 0 0 ≤ 12) (h1 : 0 ≤ D 0 1) : asR (dC D nm wo ho S) x 0 bar = asR D x 0 bar := by
  unfold asR
  rw [fnd_dC h h1]
theorem sl1 {k : Int} (k0 : 0 ≤ k) (k1 : k < 12) : sl_ 1 k = stb 0 k := by
  obtain ⟨n, rfl⟩ := Int.eq_ofNat_of_zero_le k0
  have p : 2 ^ n ≤ 2 ^ 11 := Nat.pow_le_pow_right (by decide) (by omega)
  rw [show (1 : Int) = ((1 : Nat) : Int) from rfl, sl_n (by omega) (by omega)]
  unfold stb
  rw [Int.toNat_natCast, Nat.one_mul]
  show ((2 ^ n : Nat) : Int) = ((0 ||| 2 ^ n : Nat) : Int)
  rw [Nat.zero_or]
def knF (D : AwM) (nm wo ho : Int) (t : Nat → Tk) : Nat → Nat → Int → (Int × Nat) ⊕ (AwM × Nat)
  | 0, _, _ => .inl (0, 0)
  | f + 1, i, S => match asR D (t i) 0 S with
    | some q => .inl q
    | none => if (t (i + 1)).1 = 3 then knF D nm wo ho t f (i + 1) (stb S (fnd D 0 (t i).2.1)) else .inr (dC D nm wo ho (stb S (fnd D 0 (t i).2.1)), i + 1)
def stC (D : AwM) (t : Nat → Tk) (i : Nat) : (Int × Nat) ⊕ (AwM × Nat) := match newR D (t i) (t (i + 1)) 1 with
  | some f => .inl f
  | none => if ow (t (i + 2)) 3 = true then (match nuR (t (i + 3)) 1 99 with
    | some f => .inl f
    | none => if ow (t (i + 4)) 4 = true then (match asR D (t (i + 5)) 0 0 with
      | some f => .inl f
      | none => if ow (t (i + 6)) 5 = true then knF D (t (i + 1)).2.1 (t (i + 3)).2.1 (fnd D 0 (t (i + 5)).2.1) t 1700 (i + 7) (stb 0 (fnd D 0 (t (i + 5)).2.1)) else .inr (dC D (t (i + 1)).2.1 (t (i + 3)).2.1 (fnd D 0 (t (i + 5)).2.1) (stb 0 (fnd D 0 (t (i + 5)).2.1)), i + 6)) else .inl (1, (t (i + 4)).2.2.2.1)) else .inl (1, (t (i + 2)).2.2.2.1)
variable {T : Int → Int} {L K : Nat} {so : Int} {D : AwM}
/-- the new coin's cells -/
theorem cC_w {M : AwM} {i : Nat} (h : CD T L K M so D (nU D 1) i) (hD : DC D) (h12 : D 0 1 < 12) {nm wo ho S : Int} (hn : M (so + 2) (12 * 1 + D 0 1) = nm) : CD T L K (up_ (up_ (up_ (up_ M (so + 4) (D 0 1) wo) (so + 5) (D 0 1) ho) (so + 6) (D 0 1) S) (so + 7) (D 0 1) 0) so (dC D nm wo ho S) (nD (dC D nm wo ho S)) i := by
  have hso := h.hso
  have d1' := hD.2.1
  obtain ⟨⟨a1, a2, a3, a4, a5, a6⟩, ⟨b1, b2, b3, b4, b5⟩, c1, c2, c3, c4, ⟨d1, d2⟩, ⟨e1', e2'⟩⟩ := id h
  have ne : ∀ a j : Int, ¬ (so + 4 ≤ a ∧ a ≤ so + 7) → up_ (up_ (up_ (up_ M (so + 4) (D 0 1) wo) (so + 5) (D 0 1) ho) (so + 6) (D 0 1) S) (so + 7) (D 0 1) 0 a j = M a j := fun a j x => by
    rw [up_of (by omega), up_of (by omega), up_of (by omega), up_of (by omega)]
  refine CD_s h (LAY_s hso (Or.inl (by omega)) (LAY_s hso (Or.inl (by omega)) (LAY_s hso (Or.inl (by omega)) (LAY_s hso (Or.inl (by omega)) h.lay)))) (fun a j x _ => ne _ _ (by omega)) ⟨ne _ _ (by omega), ne _ _ (by omega)⟩ ⟨?_, ?_, ?_, ?_, ?_⟩ ⟨fun p x y => ?_, fun c x y => ?_, fun c x y => ?_, fun k w x y z u => ?_⟩ ⟨⟨?_, fun q x y => ?_⟩, ⟨?_, fun q x y => ?_⟩⟩
  · rw [ne _ _ (by omega), b1]; exact (dC_0 (by decide)).symm
  · rw [ne _ _ (by omega), b2]; exact dC_01.symm
  · rw [ne _ _ (by omega), b3]; exact (dC_0 (by decide)).symm
  · rw [ne _ _ (by omega), b4, dC_0 (by decide)]
  · rw [ne _ _ (by omega), b5, dC_0 (by decide)]
  · rw [dC_0 (by decide)] at y
    rw [ne _ _ (by omega), dC_a (by decide)]; exact c1 p x y
  · rw [dC_01] at y
    obtain ⟨p2, p8, p9, p10⟩ := dC_c (D := D) (nm := nm) (wo := wo) (ho := ho) (S := S) (c := c)
    rw [p2, p8, p9, p10]
    by_cases e : c = D 0 1
    · subst e
      rw [if_pos rfl, if_pos rfl, if_pos rfl, if_pos rfl]
      refine ⟨?_, ?_, ?_, up_at⟩
      · rw [up_of (by omega), up_of (by omega), up_of (by omega), up_at]
      · rw [up_of (by omega), up_of (by omega), up_at]
      · rw [up_of (by omega), up_at]
    · rw [if_neg e, if_neg e, if_neg e, if_neg e]
      have q := c2 c x (by omega)
      refine ⟨?_, ?_, ?_, ?_⟩
      · rw [up_oi e, up_oi e, up_oi e, up_oi e]; exact q.1
      · rw [up_oi e, up_oi e, up_oi e, up_oi e]; exact q.2.1
      · rw [up_oi e, up_oi e, up_oi e, up_oi e]; exact q.2.2.1
      · rw [up_oi e, up_oi e, up_oi e, up_oi e]; exact q.2.2.2
  · rw [dC_0 (by decide)] at y
    rw [ne _ _ (by omega), ne _ _ (by omega), dC_a (by decide), dC_a (by decide)]; exact c3 c x y
  · rw [ne _ _ (by omega), dC_5]
    by_cases ek : k = 1
    · subst ek
      rw [dC_01] at u
      by_cases ew : w = D 0 1
      · rw [ew, if_pos rfl]; exact hn
      · rw [if_neg (by omega)]; exact c4 1 w x y z (by omega)
    · rw [dC_0 ek] at u
      have hk := hD.k k x y
      rw [if_neg (by omega)]; exact c4 k w x y z u
  · rw [ne _ _ (by omega), dC_a (by decide)]; exact d1
  · rw [dC_a (by decide)] at y ⊢; rw [ne _ _ (by omega)]; exact d2 q x y
  · rw [ne _ _ (by omega), dC_a (by decide)]; exact e1'
  · rw [dC_a (by decide)] at y ⊢; rw [ne _ _ (by omega)]; exact e2' q x y
/-- one more whom it knows -/
theorem cC_k {M : AwM} {i : Nat} {nm wo ho S S' : Int} (h : CD T L K M so (dC D nm wo ho S) (nD (dC D nm wo ho S)) i) : CD T L K (up_ M (so + 6) (D 0 1) S') so (dC D nm wo ho S') (nD (dC D nm wo ho S')) i := by
  have hso := h.hso
  obtain ⟨⟨a1, a2, a3, a4, a5, a6⟩, ⟨b1, b2, b3, b4, b5⟩, c1, c2, c3, c4, ⟨d1, d2⟩, ⟨e1', e2'⟩⟩ := id h
  have e0 : dC D nm wo ho S' 0 = dC D nm wo ho S 0 := by
    funext j
    by_cases e : j = 1
    · rw [e, dC_01, dC_01]
    · rw [dC_0 e, dC_0 e]
  have en : nD (dC D nm wo ho S') = nD (dC D nm wo ho S) := by unfold nD; rw [e0]
  rw [en]
  refine CD_s h (LAY_s hso (Or.inl (by omega)) h.lay) (fun a j x _ => up_of (by omega)) ⟨up_of (by omega), up_of (by omega)⟩ ⟨?_, ?_, ?_, ?_, ?_⟩ ⟨fun p x y => ?_, fun c x y => ?_, fun c x y => ?_, fun k w x y z u => ?_⟩ ⟨⟨?_, fun q x y => ?_⟩, ⟨?_, fun q x y => ?_⟩⟩
  · rw [up_of (by omega)]; exact b1
  · rw [up_of (by omega)]; exact b2
  · rw [up_of (by omega)]; exact b3
  · rw [up_of (by omega), e0]; exact b4
  · rw [up_of (by omega), e0]; exact b5
  · rw [e0] at y
    rw [up_of (by omega), dC_a (by decide)]
    have := c1 p x y
    rwa [dC_a (by decide)] at this
  · rw [e0] at y
    obtain ⟨p2, p8, p9, p10⟩ := dC_c (D := D) (nm := nm) (wo := wo) (ho := ho) (S := S) (c := c)
    obtain ⟨q2, q8, q9, q10⟩ := dC_c (D := D) (nm := nm) (wo := wo) (ho := ho) (S := S') (c := c)
    have q := c2 c x y
    rw [p2, p8, p9, p10] at q
    rw [q2, q8, q9, q10, up_of (by omega), up_of (by omega), up_of (show so + 7 ≠ so + 6 by omega)]
    refine ⟨q.1, q.2.1, ?_, q.2.2.2⟩
    by_cases e : c = D 0 1
    · rw [if_pos e, e, up_at]
    · have := q.2.2.1
      rw [if_neg e] at this
      rw [if_neg e, up_oi e]; exact this
  · rw [e0] at y
    rw [up_of (by omega), up_of (by omega), dC_a (by decide), dC_a (by decide)]
    have := c3 c x y
    rwa [dC_a (by decide), dC_a (by decide)] at this
  · rw [e0] at u
    rw [up_of (by omega), dC_5]
    have := c4 k w x y z u
    rwa [dC_5] at this
  · rw [up_of (by omega), dC_a (by decide)]
    rwa [dC_a (by decide)] at d1
  · rw [dC_a (by decide)] at y ⊢
    rw [up_of (by omega)]
    have := d2 q x (by rw [dC_a (by decide)]; exact y)
    rwa [dC_a (by decide)] at this
  · rw [up_of (by omega), dC_a (by decide)]
    rwa [dC_a (by decide)] at e1'
  · rw [dC_a (by decide)] at y ⊢
    rw [up_of (by omega)]
    have := e2' q x (by rw [dC_a (by decide)]; exact y)
    rwa [dC_a (by decide)] at this
theorem cknown_l (hD : DC D) (h12 : D 0 1 < 12) {nm wo ho : Int} : ∀ (f i n N : Nat) (S : Int) (M : AwM), CD T L K M so (dC D nm wo ho S) (nD (dC D nm wo ho S)) i → (n = 0 ∨ (tks T L i).1 = 3) → K < i + f → n ≤ i → ms (D 0 0).toNat S → f + 1 < N → ∃ r, lp (u2 (fX6_tellKnown_L9 SH 3 (D 0 1))) N ((n : Int), M) = some r ∧ (match knF D nm wo ho (tks T L) f i S with
    | .inl q => 0 < q.1 ∧ ∃ M', r = .inr M' ∧ CDB so M' M q.1 q.2
    | .inr q => ∃ M', r = .inl M' ∧ CD T L K M' so q.1 (nD q.1) q.2 ∧ cdf so M' M)
  | 0, i, n, N, S, M, h, h3, hf, hn, hS, hN => by
    have := h.sc.1
    omega
  | f + 1, i, n, N, S, M, h, h3, hf, hn, hS, hN => by
    obtain ⟨N, rfl⟩ : ∃ k, N = k + 1 := ⟨N - 1, by omega⟩
    have hso := h.hso
    have l := h.lay
    have d0 := hD.1
    have d1' := hD.2.1
    have iK := h.sc.1
    have sS : M (so + 6) (D 0 1) = S := by
      have := (h.2.2.2.1 (D 0 1) d1'.1 (by rw [dC_01]; omega)).2.2.1
      rw [this, dC_c.2.2.1, if_pos rfl]
    have mS : ms 12 S := ms_up hS (by omega)
    obtain ⟨g1, g2⟩ := cask_d h (k := 0) (bar := S) (by decide) (by decide) rfl (by rw [dC_0 (by decide)]; omega) mS
    rw [asR_dC ⟨d0.1, by omega⟩ d1'.1, fnd_dC ⟨d0.1, by omega⟩ d1'.1, dC_0 (show (0 : Int) ≠ 1 by decide)] at g1
    rw [asR_dC ⟨d0.1, by omega⟩ d1'.1] at g2
    have body : u2 (fX6_tellKnown_L9 SH 3 (D 0 1)) ((n : Int), M) = fX6_tellKnown_J31_9 SH M 3 (D 0 1) (n : Int) := by
      rw [u2_1]
      unfold fX6_tellKnown_L9
      rw [if_pos (show (n : Int) < 1600 by
        rcases h3 with q | q
        · omega
        · have := h.lt (by omega); omega)]
      by_cases z : n = 0
      · rw [if_pos (by omega)]
      · have k8 := h.sc.k8
        rw [if_neg (by omega), kd3, gd_t rfl, ly3_0 l, kd4, gd_t rfl, k8, if_pos ((ckd_i (by decide)).mpr (h3.resolve_left z))]
    unfold knF
    cases ea : asR D (tks T L i) 0 S with
    | some q =>
      obtain ⟨k0, e5⟩ := g2 q.1 q.2 ea
      refine ⟨.inr (FM M q.1 q.2), ?_, k0, _, rfl, cdb_f⟩
      rw [lp_st (r := .inr (FM M q.1 q.2))]
      rw [body]
      unfold fX6_tellKnown_J31_9
      rw [kd3, gd_t rfl, h.so', kso0 hso, gd_t rfl, lso0_5 l hso, kso6 hso, ga_t d1'.1 (by omega), sS, e5, pb_1, u2_1, if_pos rfl]
    | none =>
      obtain ⟨⟨x1, x2, x3⟩, M1, e1, h1, f1⟩ := g1 ea
      dsimp only
      generalize fnd D 0 (tks T L i).2.1 = p at *
      have lt := ms_lt mS (by decide)
      have sS1 : M1 (so + 6) (D 0 1) = S := by rw [f1 _ _ (by omega)]; exact sS
      have h2 := cC_k (S' := stb S p) h1
      have mS' : ms (D 0 0).toNat (stb S p) := ms_stb hS (by omega) (by omega)
      have f2 : cdf so (up_ M1 (so + 6) (D 0 1) (stb S p)) M := cdf_tr (cdf_nx f1) (fun a j _ _ r => up_of (by omega))
      have stp : u2 (fX6_tellKnown_L9 SH 3 (D 0 1)) ((n : Int), M) = some (.inl (((n + 1 : Nat) : Int), up_ M1 (so + 6) (D 0 1) (stb S p))) := by
        rw [body]
        unfold fX6_tellKnown_J31_9
        rw [kd3, gd_t rfl, h.so', kso0 hso, gd_t rfl, lso0_5 l hso, kso6 hso, ga_t d1'.1 (by omega), sS]
        have n1 : w32 ((n : Int) + 1) = ((n + 1 : Nat) : Int) := by
          rw [w32_s (by omega) (by omega)]; omega
        rw [e1, pb_1, u2_1, if_neg (by omega), h1.so', kso0 hso, gd_t rfl, lso0_5 h1.lay hso, kso6 hso, ga_t d1'.1 (by omega), sS1, stb_n lt.1 lt.2 (by omega) (by omega), bd_1, n1]
      have iK2 := h.lt (by omega)
      by_cases z3 : (tks T L (i + 1)).1 = 3
      · rw [if_pos z3]
        obtain ⟨r, er, hr⟩ := cknown_l hD h12 f (i + 1) (n + 1) N (stb S p) _ h2 (Or.inr z3) (by omega) (by omega) mS' (by omega)
        refine ⟨r, by rw [lp_go stp]; exact er, ?_⟩
        revert hr
        cases knF D nm wo ho (tks T L) f (i + 1) (stb S p) with
        | inl q =>
          rintro ⟨k0, M', r1, b⟩
          exact ⟨k0, M', r1, CDB_tr f2 b⟩
        | inr q =>
          rintro ⟨M', r1, c1, c2⟩
          exact ⟨M', r1, c1, cdf_tr f2 c2⟩
      · rw [if_neg z3]
        obtain ⟨N, rfl⟩ : ∃ k, N = k + 1 := ⟨N - 1, by omega⟩
        have k8 := h2.sc.k8
        refine ⟨.inl _, ?_, _, rfl, h2, f2⟩
        rw [lp_go stp]
        refine lp_st ?_
        rw [u2_1]
        unfold fX6_tellKnown_L9
        by_cases zn : ((n + 1 : Nat) : Int) < 1600
        · rw [if_pos zn, if_neg (by omega), kd3, gd_t rfl, ly3_0 h2.lay, kd4, gd_t rfl, k8, if_neg (fun q => z3 ((ckd_i (by decide)).mp q))]
        · rw [if_neg zn]
theorem ccoin_d {M : AwM} {i : Nat} (h : CD T L K M so D (nD D) i) (hD : DC D) (hi : 1 ≤ (tks T L i).1 ∧ (tks T L i).1 ≤ 4) : COut T L K (fX6_tellCoin SH M 3) M so (stC D (tks T L) i) := by
  obtain ⟨n1, n2⟩ := cnew_d h hD hi (k := 1) (by decide) (by decide)
  have hso := h.hso
  unfold stC fX6_tellCoin
  rw [kd3, gd_t rfl]
  cases e : newR D (tks T L i) (tks T L (i + 1)) 1 with
  | some f =>
    obtain ⟨k0, M', e', b⟩ := n2 f.1 f.2 e
    exact ⟨k0, M', by rw [e', pb_1, u2_1, if_pos rfl], b⟩
  | none =>
    obtain ⟨⟨z3, cm'⟩, M1, e1, h1, nm1, f1⟩ := n1 e
    have m12 : D 0 1 < 12 := cm'
    have d0 := hD.2.1
    have d1' := hD.1
    obtain ⟨w1, w2⟩ := cword_d (c := 3) h1
    rw [e1, pb_1, u2_1, if_neg (by omega)]
    dsimp only
    by_cases zw : ow (tks T L (i + 2)) 3 = true
    · obtain ⟨M2, e2, h2, f2⟩ := w1 zw
      obtain ⟨u1', u2'⟩ := cnumb_d (lo := 1) (hi := 99) h2
      rw [if_pos zw, e2, pb_1, u2_1, if_neg (by decide)]
      cases en : nuR (tks T L (i + 3)) 1 99 with
      | some f =>
        obtain ⟨k0, e3⟩ := u2' f.1 f.2 en
        exact ⟨k0, FM M2 f.1 f.2, by rw [e3, pb_1, u2_1, if_pos rfl], fm_4.1, fm_4.2, cdf_tr (cdf_tr f1 (cdf_nx f2)) (cdb_f (so := so)).2.2⟩
      | none =>
        obtain ⟨⟨v1, v2, v3⟩, M3, e3, h3, f3⟩ := u1' en
        obtain ⟨y1, y2⟩ := cword_d (c := 4) h3
        rw [e3, pb_1, u2_1, if_neg (by omega)]
        dsimp only
        by_cases zy : ow (tks T L (i + 4)) 4 = true
        · obtain ⟨M4, e4, h4, f4⟩ := y1 zy
          obtain ⟨g1, g2⟩ := cask_d h4 (k := 0) (bar := 0) (by decide) (by decide) (show nU D 1 0 = D 0 0 from if_neg (by decide)) ⟨d1'.1, by omega⟩ ms0
          rw [if_pos zy, e4, pb_1, u2_1, if_neg (by decide)]
          have fr : cdf so M4 M := cdf_tr f1 (cdf_tr (cdf_nx f2) (cdf_tr (cdf_nx f3) (cdf_nx f4)))
          cases ea : asR D (tks T L (i + 5)) 0 0 with
          | some f =>
            obtain ⟨k0, e5⟩ := g2 f.1 f.2 ea
            exact ⟨k0, FM M4 f.1 f.2, by rw [e5, pb_1, u2_1, if_pos rfl], fm_4.1, fm_4.2, cdf_tr fr (cdb_f (so := so)).2.2⟩
          | none =>
            obtain ⟨⟨x1, x2, x3⟩, M5, e5, h5, f5⟩ := g1 ea
            have nm3 : M5 (so + 2) (12 * 1 + D 0 1) = (tks T L (i + 1)).2.1 := by rw [f5 _ _ (by omega), f4 _ _ (by omega), f3 _ _ (by omega), f2 _ _ (by omega)]; exact nm1
            dsimp only
            generalize (tks T L (i + 1)).2.1 = nm at *
            generalize (tks T L (i + 3)).2.1 = wo at *
            generalize fnd D 0 (tks T L (i + 5)).2.1 = ho at *
            have h6 := cC_w (wo := wo) (ho := ho) (S := stb 0 ho) h5 hD m12 nm3
            have f6 : cdf so (up_ (up_ (up_ (up_ M5 (so + 4) (D 0 1) wo) (so + 5) (D 0 1) ho) (so + 6) (D 0 1) (stb 0 ho)) (so + 7) (D 0 1) 0) M := cdf_tr fr (cdf_tr (cdf_nx f5) (fun a j _ _ r => by rw [up_of (by omega), up_of (by omega), up_of (by omega), up_of (by omega)]))
            have l6 := h6.lay
            rw [e5, pb_1, u2_1, if_neg (by omega), h5.so', kso0 hso, gd_t rfl, lso0_3 h5.lay hso, kso4 hso, ga_t d0.1 (by omega), bd_1]
            rw [up_of (show (3 : Int) ≠ so + 4 by omega), h5.so', kso0 hso, gd_t rfl, up_of (show so ≠ so + 4 by omega), lso0_4 h5.lay hso, kso5 hso, ga_t d0.1 (by omega), bd_1]
            rw [up_of (show (3 : Int) ≠ so + 5 by omega), up_of (show (3 : Int) ≠ so + 4 by omega), h5.so', kso0 hso, gd_t rfl, up_of (show so ≠ so + 5 by omega), up_of (show so ≠ so + 4 by omega), lso0_5 h5.lay hso, kso6 hso, ga_t d0.1 (by omega), sl1 (by omega) (by omega), bd_1]
            rw [up_of (show (3 : Int) ≠ so + 6 by omega), up_of (show (3 : Int) ≠ so + 5 by omega), up_of (show (3 : Int) ≠ so + 4 by omega), h5.so', kso0 hso, gd_t rfl, up_of (show so ≠ so + 6 by omega), up_of (show so ≠ so + 5 by omega), up_of (show so ≠ so + 4 by omega), lso0_6 h5.lay hso, kso7 hso, ga_t d0.1 (by omega), bd_1, ly3_0 l6, kd4, gd_t rfl, cW_n h6.sc, pb_1, u1_1, bi_if]
            by_cases zk : ow (tks T L (i + 6)) 5 = true
            · have := ow_t.mp zk
              obtain ⟨M7, e7, h7, f7⟩ := cdnx_n h6 (show 1 ≤ (tks T L (i + 6)).1 ∧ (tks T L (i + 6)).1 ≤ 4 by omega)
              obtain ⟨r, er, hr⟩ := cknown_l hD m12 1700 (i + 7) 0 FU (stb 0 ho) M7 h7 (Or.inl rfl) (by have := h7.sc.1; omega) (by omega) (ms_stb (ms_n.mpr ⟨0, rfl, Nat.two_pow_pos _⟩) (by omega) (by omega)) (FU_gt (by omega))
              have er' : lp (u2 (fX6_tellKnown_L9 SH 3 (D 0 1))) FU (0, M7) = some r := er
              have fr7 : cdf so M7 M := cdf_tr f6 (cdf_nx f7)
              unfold fX6_tellKnown
              rw [if_pos zk, if_pos zk, kd3, gd_t rfl, ly3_0 l6, kd4, gd_t rfl, e7, pb_1, u1_1, er']
              revert hr
              cases knF D nm wo ho (tks T L) 1700 (i + 7) (stb 0 ho) with
              | inl q =>
                rintro ⟨k0, M', rfl, bb⟩
                exact ⟨k0, M', rfl, CDB_tr fr7 bb⟩
              | inr q =>
                rintro ⟨M', rfl, cc1, cc2⟩
                exact ⟨M', rfl, cc1, cdf_tr fr7 cc2⟩
            · rw [if_neg zk, if_neg zk]
              exact ⟨_, rfl, h6, f6⟩
        · obtain ⟨M4, e4, b⟩ := y2 (bf zy)
          rw [if_neg zy, e4, pb_1, u2_1, if_pos rfl]
          exact ⟨show (0 : Int) < 1 by decide, M4, rfl, CDB_tr (cdf_tr f1 (cdf_tr (cdf_nx f2) (cdf_nx f3))) b⟩
    · obtain ⟨M2, e2, b⟩ := w2 (bf zw)
      rw [if_neg zw, e2, pb_1, u2_1, if_pos rfl]
      exact ⟨show (0 : Int) < 1 by decide, M2, rfl, CDB_tr f1 b⟩
end PCCO
