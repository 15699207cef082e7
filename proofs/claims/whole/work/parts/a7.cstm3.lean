/-! the class's statements: goods, what fades, snubs -/
section PCS3
variable {T : Int → Int} {L K : Nat} {M : AwM} {so : Int} {D : AwM} {i : Nat}
theorem cgoods_d (h : CD T L K M so D (nD D) i) (hD : DC D) (hi : 1 ≤ (tks T L i).1 ∧ (tks T L i).1 ≤ 4) : COut T L K (fX6_tellGoods SH M 3) M so (stG D (tks T L) i) := by
  obtain ⟨n1, n2⟩ := cnew_d h hD hi (k := 2) (by decide) (by decide)
  have hso := h.hso
  unfold stG fX6_tellGoods
  rw [kd3, gd_t rfl]
  cases e : newR D (tks T L i) (tks T L (i + 1)) 2 with
  | some f =>
    obtain ⟨k0, M', e', b⟩ := n2 f.1 f.2 e
    exact ⟨k0, M', by rw [e', pb_1, u2_1, if_pos rfl], b⟩
  | none =>
    obtain ⟨⟨z3, cm'⟩, M1, e1, h1, nm1, f1⟩ := n1 e
    have m10 : D 0 2 < 10 := cm'
    have d0 := hD.2.2
    have d1' := hD.1
    obtain ⟨w1, w2⟩ := cword_d (c := 3) h1
    rw [e1, pb_1, u2_1, if_neg (by omega)]
    dsimp only
    by_cases zw : ow (tks T L (i + 2)) 3 = true
    · obtain ⟨M2, e2, h2, f2⟩ := w1 zw
      obtain ⟨u1', u2'⟩ := cnumb_d (lo := 0) (hi := 99) h2
      rw [if_pos zw, e2, pb_1, u2_1, if_neg (by decide)]
      cases en : nuR (tks T L (i + 3)) 0 99 with
      | some f =>
        obtain ⟨k0, e3⟩ := u2' f.1 f.2 en
        refine ⟨k0, FM M2 f.1 f.2, by rw [e3, pb_1, u2_1, if_pos rfl], fm_4.1, fm_4.2, cdf_tr (cdf_tr f1 (cdf_nx f2)) (cdb_f (so := so)).2.2⟩
      | none =>
        obtain ⟨⟨v1, v2, v3⟩, M3, e3, h3, f3⟩ := u1' en
        obtain ⟨y1, y2⟩ := cword_d (c := 7) h3
        rw [e3, pb_1, u2_1, if_neg (by omega)]
        dsimp only
        by_cases zy : ow (tks T L (i + 4)) 7 = true
        · obtain ⟨M4, e4, h4, f4⟩ := y1 zy
          obtain ⟨g1, g2⟩ := cask_d h4 (k := 0) (bar := 0) (by decide) (by decide) (show nU D 2 0 = D 0 0 from if_neg (by decide)) ⟨d1'.1, by omega⟩ ms0
          rw [if_pos zy, e4, pb_1, u2_1, if_neg (by decide)]
          have fr : cdf so M4 M := cdf_tr f1 (cdf_tr (cdf_nx f2) (cdf_tr (cdf_nx f3) (cdf_nx f4)))
          cases ea : asR D (tks T L (i + 5)) 0 0 with
          | some f =>
            obtain ⟨k0, e5⟩ := g2 f.1 f.2 ea
            refine ⟨k0, up_ (up_ (FM M4 f.1 f.2) (so + 8) (D 0 2) (tks T L (i + 3)).2.1) (so + 9) (D 0 2) (-1), ?_, by rw [up_of (by omega), up_of (by omega)]; exact fm_4.1, by rw [up_of (by omega), up_of (by omega)]; exact fm_4.2, cdf_tr fr (cdf_tr (cdb_f (so := so)).2.2 (fun a j _ _ r => by rw [up_of (by omega), up_of (by omega)]))⟩
            rw [e5, pb_1, u2_1, FM_o (Or.inr rfl), h4.so', kso0 hso, gd_t rfl, lso0_7 (FM_lay h4.lay) hso, kso8 hso, ga_t (by omega) (by omega), bd_1, up_of (show (3 : Int) ≠ so + 8 by omega), FM_o (Or.inr rfl), h4.so', kso0 hso, gd_t rfl, up_of (show so ≠ so + 8 by omega), lso0_8 (FM_lay h4.lay) hso, kso9 hso, ga_t (by omega) (by omega), bd_1, if_pos rfl]
          | none =>
            obtain ⟨⟨x1, x2, x3⟩, M5, e5, h5, f5⟩ := g1 ea
            have nm3 : M5 (so + 2) (12 * 2 + D 0 2) = (tks T L (i + 1)).2.1 := by rw [f5 _ _ (by omega), f4 _ _ (by omega), f3 _ _ (by omega), f2 _ _ (by omega)]; exact nm1
            obtain ⟨⟨a1, a2, a3, a4, a5, a6⟩, ⟨b1, b2, b3, b4, b5⟩, c1, c2, c3, c4, ⟨d1, d2⟩, ⟨e1', e2'⟩⟩ := id h5
            dsimp only
            generalize (tks T L (i + 1)).2.1 = nm at *
            generalize (tks T L (i + 3)).2.1 = wo at *
            generalize fnd D 0 (tks T L (i + 5)).2.1 = se at *
            have p02 : dG D nm wo se 0 2 = D 0 2 + 1 := up_at
            have p0 : ∀ k : Int, k ≠ 2 → dG D nm wo se 0 k = D 0 k := fun k hk => by unfold dG; rw [up_oi hk, up_of (by decide), up_of (by decide), up_of (by decide)]
            have pk : ∀ a : Int, a ≠ 0 → a ≠ 3 → a ≠ 4 → a ≠ 5 → dG D nm wo se a = D a := fun a x y z u => by
              funext j; unfold dG; rw [up_of x, up_of z, up_of y, up_of u]
            refine ⟨up_ (up_ M5 (so + 8) (D 0 2) wo) (so + 9) (D 0 2) se, ?_, ?_, cdf_tr fr (cdf_tr (cdf_nx f5) (fun a j _ _ r => by rw [up_of (by omega), up_of (by omega)]))⟩
            · rw [e5, pb_1, u2_1, h5.so', kso0 hso, gd_t rfl, lso0_7 h5.lay hso, kso8 hso, ga_t (by omega) (by omega), bd_1, up_of (show (3 : Int) ≠ so + 8 by omega), h5.so', kso0 hso, gd_t rfl, up_of (show so ≠ so + 8 by omega), lso0_8 h5.lay hso, kso9 hso, ga_t (by omega) (by omega), bd_1, if_neg (by omega)]
            · show CD T L K _ so (dG D nm wo se) (nD (dG D nm wo se)) (i + 6)
              refine CD_s h5 (LAY_s hso (Or.inl (by omega)) (LAY_s hso (Or.inl (by omega)) h5.lay)) (fun a j x _ => by rw [up_of (by omega), up_of (by omega)]) ⟨by rw [up_of (by omega), up_of (by omega)], fun {_} => by rw [up_of (by omega), up_of (by omega)]⟩ ⟨?_, ?_, ?_, ?_, ?_⟩ ⟨fun p x y => ?_, fun c x y => ?_, fun c x y => ?_, fun k w x y z u => ?_⟩ ⟨⟨?_, fun q x y => ?_⟩, ⟨?_, fun q x y => ?_⟩⟩
              · rw [up_of (by omega), up_of (by omega), b1]; exact (p0 0 (by decide)).symm
              · rw [up_of (by omega), up_of (by omega), b2]; exact (p0 1 (by decide)).symm
              · rw [up_of (by omega), up_of (by omega), b3]; exact p02.symm
              · rw [up_of (by omega), up_of (by omega), b4, p0 3 (by decide)]
              · rw [up_of (by omega), up_of (by omega), b5, p0 4 (by decide)]
              · rw [p0 0 (by decide)] at y
                rw [up_of (by omega), up_of (by omega), pk 1 (by decide) (by decide) (by decide) (by decide)]; exact c1 p x y
              · rw [p0 1 (by decide)] at y
                rw [up_of (by omega), up_of (by omega), up_of (by omega), up_of (by omega), up_of (by omega), up_of (by omega), up_of (by omega), up_of (by omega), pk 2 (by decide) (by decide) (by decide) (by decide), pk 8 (by decide) (by decide) (by decide) (by decide), pk 9 (by decide) (by decide) (by decide) (by decide), pk 10 (by decide) (by decide) (by decide) (by decide)]; exact c2 c x y
              · rw [p02] at y
                have e3p : dG D nm wo se 3 c = up_ D 3 (D 0 2) wo 3 c := by
                  unfold dG; rw [up_of (by decide), up_of (by decide)]; unfold up_; simp
                have e4p : dG D nm wo se 4 c = up_ D 4 (D 0 2) se 4 c := by
                  unfold dG; rw [up_of (by decide)]; unfold up_; simp
                rw [e3p, e4p, up_of (show so + 8 ≠ so + 9 by omega)]
                by_cases ep : c = D 0 2
                · rw [ep, up_at, up_at, up_at, up_at]; exact ⟨rfl, rfl⟩
                · rw [up_oi ep, up_oi ep, up_oi ep, up_oi ep, up_oi ep]; exact c3 c x (by omega)
              · rw [up_of (by omega), up_of (by omega)]
                have e5 : ∀ j : Int, dG D nm wo se 5 j = up_ D 5 (12 * 2 + D 0 2) nm 5 j := fun j => by
                  unfold dG; rw [up_of (by decide), up_of (by decide), up_of (by decide)]
                rw [e5]
                by_cases ek : k = 2
                · subst ek
                  rw [p02] at u
                  by_cases ew : w = D 0 2
                  · rw [ew, up_at]; exact nm3
                  · rw [up_oi (by omega)]; exact c4 2 w x y z (by omega)
                · rw [p0 k ek] at u
                  have hk := hD.k k x y
                  rw [up_oi (by omega)]; exact c4 k w x y z u
              · rw [up_of (by omega), up_of (by omega), pk 6 (by decide) (by decide) (by decide) (by decide)]; exact d1
              · rw [pk 6 (by decide) (by decide) (by decide) (by decide)] at y ⊢; rw [up_of (by omega), up_of (by omega)]; exact d2 q x y
              · rw [up_of (by omega), up_of (by omega), pk 7 (by decide) (by decide) (by decide) (by decide)]; exact e1'
              · rw [pk 7 (by decide) (by decide) (by decide) (by decide)] at y ⊢; rw [up_of (by omega), up_of (by omega)]; exact e2' q x y
        · obtain ⟨M4, e4, b⟩ := y2 (bf zy)
          rw [if_neg zy, e4, pb_1, u2_1, if_pos rfl]
          exact ⟨show (0 : Int) < 1 by decide, M4, rfl, CDB_tr (cdf_tr f1 (cdf_tr (cdf_nx f2) (cdf_nx f3))) b⟩
    · obtain ⟨M2, e2, b⟩ := w2 (bf zw)
      rw [if_neg zw, e2, pb_1, u2_1, if_pos rfl]
      exact ⟨show (0 : Int) < 1 by decide, M2, rfl, CDB_tr f1 b⟩
/-- fades, vogue -/
theorem ctell_d (h : CD T L K M so D (nD D) i) (hi : 1 ≤ (tks T L i).1 ∧ (tks T L i).1 ≤ 4) {k hi' : Int} (hk : (k = 3 ∧ hi' = 99) ∨ (k = 4 ∧ hi' = 100)) : COut T L K (if k = 3 then fX6_tellFades SH M 3 else fX6_tellVogue SH M 3) M so (stF D (tks T L) i k hi') := by
  have hso := h.hso
  obtain ⟨M1, e1, h1, f1⟩ := cdnx_n h hi
  obtain ⟨u1', u2'⟩ := cnumb_d (lo := 0) (hi := hi') h1
  have pre : ∀ R : Option (Int × AwM), (pb (fX6_number SH M1 3 0 hi') (u2 fun (x6 : Int) (M7 : AwM) => gd_ (kd_ SH so = (0, 5)) (bd_ (up_ M7 so (k + 8) x6) fun (M9 : AwM) => gd_ (kd_ SH (M9 3 1) = (0, 5)) (if M9 (M9 3 1) (k + 8) = (-1) then some (0, M9) else some (1, M9))))) = R → (if k = 3 then fX6_tellFades SH M 3 else fX6_tellVogue SH M 3) = R := fun R hR => by
    rcases hk with ⟨rfl, rfl⟩ | ⟨rfl, rfl⟩
    · rw [if_pos rfl]
      unfold fX6_tellFades
      rw [kd3, gd_t rfl, ly3_0 h.lay, kd4, gd_t rfl, e1, pb_1, u1_1, h1.so']
      exact hR
    · rw [if_neg (by decide)]
      unfold fX6_tellVogue
      rw [kd3, gd_t rfl, ly3_0 h.lay, kd4, gd_t rfl, e1, pb_1, u1_1, h1.so']
      exact hR
  unfold stF
  cases en : nuR (tks T L (i + 1)) 0 hi' with
  | some f =>
    obtain ⟨k0, e3⟩ := u2' f.1 f.2 en
    refine ⟨k0, up_ (FM M1 f.1 f.2) so (k + 8) (-1), pre _ ?_, by rw [up_of (by omega)]; exact fm_4.1, by rw [up_of (by omega)]; exact fm_4.2, cdf_tr (cdf_nx f1) (cdf_tr (cdb_f (so := so)).2.2 (fun a j _ _ r => up_nn (by omega)))⟩
    rw [e3, pb_1, u2_1, kso0 hso, gd_t rfl, bd_1, up_of (show (3 : Int) ≠ so by omega), FM_o (Or.inr rfl), h1.so', kso0 hso, gd_t rfl, up_at, if_pos rfl]
  | none =>
    obtain ⟨⟨v1, v2, v3⟩, M3, e3, h3, f3⟩ := u1' en
    obtain ⟨⟨a1, a2, a3, a4, a5, a6⟩, ⟨b1, b2, b3, b4, b5⟩, c1, c2, c3, c4, ⟨d1, d2⟩, ⟨e1', e2'⟩⟩ := id h3
    dsimp only
    generalize (tks T L (i + 1)).2.1 = v at *
    have pj : ∀ j : Int, j ≠ k → dF D k v 0 j = D 0 j := fun j hj => up_oi hj
    have pa : ∀ a : Int, a ≠ 0 → dF D k v a = D a := fun a ha => by funext j; exact up_of ha
    refine ⟨up_ M3 so (k + 8) v, pre _ ?_, ?_, cdf_tr (cdf_nx f1) (cdf_tr (cdf_nx f3) (fun a j _ _ r => up_nn (by omega)))⟩
    · rw [e3, pb_1, u2_1, kso0 hso, gd_t rfl, bd_1, up_of (show (3 : Int) ≠ so by omega), h3.so', kso0 hso, gd_t rfl, up_at, if_neg (by omega)]
    · show CD T L K _ so (dF D k v) (nD (dF D k v)) (i + 2)
      refine CD_s h3 (LAY_s hso (Or.inr (Or.inl ⟨rfl, by omega⟩)) h3.lay) (fun a j x _ => up_of (by omega)) ⟨up_of (by omega), up_of (by omega)⟩ ⟨?_, ?_, ?_, ?_, ?_⟩ ⟨fun p x y => ?_, fun c x y => ?_, fun c x y => ?_, fun k' w x y z u => ?_⟩ ⟨⟨?_, fun q x y => ?_⟩, ⟨?_, fun q x y => ?_⟩⟩
      · rw [up_of (by omega), b1]; exact (pj 0 (by omega)).symm
      · rw [up_of (by omega), b2]; exact (pj 1 (by omega)).symm
      · rw [up_of (by omega), b3]; exact (pj 2 (by omega)).symm
      · rcases hk with ⟨rfl, rfl⟩ | ⟨rfl, rfl⟩
        · rw [show (3 : Int) + 8 = 11 by decide, up_at]; exact up_at.symm
        · rw [up_oi (by decide), b4]; exact (pj 3 (by decide)).symm
      · rcases hk with ⟨rfl, rfl⟩ | ⟨rfl, rfl⟩
        · rw [up_oi (by decide), b5]; exact (pj 4 (by decide)).symm
        · rw [show (4 : Int) + 8 = 12 by decide, up_at]; exact up_at.symm
      · rw [pj 0 (by omega)] at y; rw [up_of (by omega), pa 1 (by decide)]; exact c1 p x y
      · rw [pj 1 (by omega)] at y
        rw [up_of (by omega), up_of (by omega), up_of (by omega), up_of (by omega), pa 2 (by decide), pa 8 (by decide), pa 9 (by decide), pa 10 (by decide)]; exact c2 c x y
      · rw [pj 2 (by omega)] at y
        rw [up_of (by omega), up_of (by omega), pa 3 (by decide), pa 4 (by decide)]; exact c3 c x y
      · rw [pj k' (by omega)] at u; rw [up_of (by omega), pa 5 (by decide)]; exact c4 k' w x y z u
      · rw [up_of (by omega), pa 6 (by decide)]; exact d1
      · rw [pa 6 (by decide)] at y ⊢; rw [up_of (by omega)]; exact d2 q x y
      · rw [up_of (by omega), pa 7 (by decide)]; exact e1'
      · rw [pa 7 (by decide)] at y ⊢; rw [up_of (by omega)]; exact e2' q x y
/-- sets within the draft -/
def DSt (D : AwM) : Prop := ∀ c : Int, 0 ≤ c → c < D 0 1 → (0 ≤ D 8 c ∧ D 8 c < D 0 0) ∧ ms (D 0 0).toNat (D 9 c) ∧ ms (D 0 0).toNat (D 10 c)
/-- snub -/
theorem csnub_d (h : CD T L K M so D (nD D) i) (hD : DC D) (hS : DSt D) (hi : 1 ≤ (tks T L i).1 ∧ (tks T L i).1 ≤ 4) : COut T L K (fX6_tellSnub SH M 3) M so (stN D (tks T L) i) := by
  have hso := h.hso
  have d0 := hD.1
  have d1' := hD.2.1
  obtain ⟨M1, e1, h1, f1⟩ := cdnx_n h hi
  obtain ⟨g1, g2⟩ := cask_d h1 (k := 1) (bar := 0) (by decide) (by decide) rfl d1' ms0
  unfold stN fX6_tellSnub
  rw [kd3, gd_t rfl, ly3_0 h.lay, kd4, gd_t rfl, e1, pb_1, u1_1]
  cases ea : asR D (tks T L (i + 1)) 1 0 with
  | some f =>
    obtain ⟨k0, e5⟩ := g2 f.1 f.2 ea
    exact ⟨k0, FM M1 f.1 f.2, by rw [e5, pb_1, u2_1, if_pos rfl], fm_4.1, fm_4.2, cdf_tr (cdf_nx f1) (cdb_f (so := so)).2.2⟩
  | none =>
    obtain ⟨⟨x1, x2, x3⟩, M2, e2, h2, f2⟩ := g1 ea
    dsimp only
    generalize fnd D 1 (tks T L (i + 1)).2.1 = c at *
    have sc := hS c x2.1 x2.2
    have m9 : ms 10 (D 9 c) := ms_up sc.2.1 (by omega)
    have m0 : ms 10 (D 10 c) := ms_up sc.2.2 (by omega)
    have mo : ms 12 (or_ (D 9 c) (D 10 c)) := ms_up (or_hb (k := 0) m9 m0 (by decide)).1 (by omega)
    obtain ⟨g3, g4⟩ := cask_d h2 (k := 0) (bar := or_ (D 9 c) (D 10 c)) (by decide) (by decide) rfl ⟨d0.1, by omega⟩ mo
    have r2 := h2.2.2.2.1 c x2.1 x2.2
    rw [e2, pb_1, u2_1, if_neg (by omega), h2.so', kso0 hso, gd_t rfl, lso0_5 h2.lay hso, kso6 hso, ga_t (by omega) (by omega), lso0_6 h2.lay hso, kso7 hso, ga_t (by omega) (by omega), r2.2.2.1, r2.2.2.2]
    cases eb : asR D (tks T L (i + 2)) 0 (or_ (D 9 c) (D 10 c)) with
    | some f =>
      obtain ⟨k0, e5⟩ := g4 f.1 f.2 eb
      exact ⟨k0, FM M2 f.1 f.2, by rw [e5, pb_1, u2_1, if_pos rfl], fm_4.1, fm_4.2, cdf_tr (cdf_nx f1) (cdf_tr (cdf_nx f2) (cdb_f (so := so)).2.2)⟩
    | none =>
      obtain ⟨⟨y1, y2, y3⟩, M3, e3, h3, f3⟩ := g3 eb
      dsimp only
      generalize fnd D 0 (tks T L (i + 2)).2.1 = p at *
      have r3 := h3.2.2.2.1 c x2.1 x2.2
      have lt := ms_lt m0 (by decide)
      obtain ⟨⟨a1, a2, a3, a4, a5, a6⟩, ⟨b1, b2, b3, b4, b5⟩, c1, c2, c3, c4, ⟨d1, d2⟩, ⟨e1', e2'⟩⟩ := id h3
      have pa : ∀ a : Int, a ≠ 10 → dN D c p a = D a := fun a ha => by funext j; exact up_of ha
      refine ⟨up_ M3 (so + 7) c (stb (D 10 c) p), ?_, ?_, cdf_tr (cdf_nx f1) (cdf_tr (cdf_nx f2) (cdf_tr (cdf_nx f3) (fun a j _ _ r => up_of (by omega))))⟩
      · rw [e3, pb_1, u2_1, if_neg (by omega), h3.so', kso0 hso, gd_t rfl, lso0_6 h3.lay hso, kso7 hso, ga_t (by omega) (by omega), r3.2.2.2, stb_n lt.1 lt.2 (by omega) (by omega), bd_1]
      · show CD T L K _ so (dN D c p) (nD (dN D c p)) (i + 3)
        have en : nD (dN D c p) = nD D := by unfold nD; rw [pa 0 (by decide)]
        rw [en]
        refine CD_s h3 (LAY_s hso (Or.inl (by omega)) h3.lay) (fun a j x _ => up_of (by omega)) ⟨up_of (by omega), up_of (by omega)⟩ ⟨?_, ?_, ?_, ?_, ?_⟩ ⟨fun p x y => ?_, fun c' x y => ?_, fun c x y => ?_, fun k' w x y z u => ?_⟩ ⟨⟨?_, fun q x y => ?_⟩, ⟨?_, fun q x y => ?_⟩⟩
        · rw [up_of (by omega)]; exact b1
        · rw [up_of (by omega)]; exact b2
        · rw [up_of (by omega)]; exact b3
        · rw [up_of (by omega), pa 0 (by decide)]; exact b4
        · rw [up_of (by omega), pa 0 (by decide)]; exact b5
        · rw [pa 0 (by decide)] at y; rw [up_of (by omega), pa 1 (by decide)]; exact c1 p x y
        · rw [pa 0 (by decide)] at y
          have q := c2 c' x y
          rw [up_of (by omega), up_of (by omega), up_of (by omega), pa 2 (by decide), pa 8 (by decide), pa 9 (by decide)]
          refine ⟨q.1, q.2.1, q.2.2.1, ?_⟩
          by_cases ec : c' = c
          · rw [ec, up_at]; exact up_at.symm
          · rw [up_oi ec]; exact q.2.2.2.trans (up_oi ec).symm
        · rw [pa 0 (by decide)] at y; rw [up_of (by omega), up_of (by omega), pa 3 (by decide), pa 4 (by decide)]; exact c3 c x y
        · rw [pa 0 (by decide)] at u; rw [up_of (by omega), pa 5 (by decide)]; exact c4 k' w x y z u
        · rw [up_of (by omega), pa 6 (by decide)]; exact d1
        · rw [pa 6 (by decide)] at y ⊢; rw [up_of (by omega)]; exact d2 q x y
        · rw [up_of (by omega), pa 7 (by decide)]; exact e1'
        · rw [pa 7 (by decide)] at y ⊢; rw [up_of (by omega)]; exact e2' q x y
end PCS3
