/-! the class's statements but formulas and coins -/
section PCS2
variable (T : Int → Int) (L K : Nat)
def COut (f : Option (Int × AwM)) (M : AwM) (so : Int) (r : (Int × Nat) ⊕ (AwM × Nat)) : Prop := match r with
  | .inl q => 0 < q.1 ∧ ∃ M', f = some (0, M') ∧ CDB so M' M q.1 q.2
  | .inr q => ∃ M', f = some (1, M') ∧ CD T L K M' so q.1 (nD q.1) q.2 ∧ cdf so M' M
def dP (D : AwM) (nm ra : Int) : AwM := up_ (up_ (up_ D 5 (12 * 0 + D 0 0) nm) 1 (D 0 0) ra) 0 0 (D 0 0 + 1)
def dG (D : AwM) (nm wo se : Int) : AwM := up_ (up_ (up_ (up_ D 5 (12 * 2 + D 0 2) nm) 3 (D 0 2) wo) 4 (D 0 2) se) 0 2 (D 0 2 + 1)
def dF (D : AwM) (k v : Int) : AwM := up_ D 0 k v
def dN (D : AwM) (c p : Int) : AwM := up_ D 10 c (stb (D 10 c) p)
def stP (D : AwM) (t : Nat → Tk) (i : Nat) : (Int × Nat) ⊕ (AwM × Nat) := match newR D (t i) (t (i + 1)) 0 with
  | some f => .inl f
  | none => if ow (t (i + 2)) 1 = true then (match nuR (t (i + 3)) 0 9 with
    | some f => .inl f
    | none => .inr (dP D (t (i + 1)).2.1 (t (i + 3)).2.1, i + 4)) else .inl (1, (t (i + 2)).2.2.2.1)
def stG (D : AwM) (t : Nat → Tk) (i : Nat) : (Int × Nat) ⊕ (AwM × Nat) := match newR D (t i) (t (i + 1)) 2 with
  | some f => .inl f
  | none => if ow (t (i + 2)) 3 = true then (match nuR (t (i + 3)) 0 99 with
    | some f => .inl f
    | none => if ow (t (i + 4)) 7 = true then (match asR D (t (i + 5)) 0 0 with
      | some f => .inl f
      | none => .inr (dG D (t (i + 1)).2.1 (t (i + 3)).2.1 (fnd D 0 (t (i + 5)).2.1), i + 6)) else .inl (1, (t (i + 4)).2.2.2.1)) else .inl (1, (t (i + 2)).2.2.2.1)
def stF (D : AwM) (t : Nat → Tk) (i : Nat) (k hi : Int) : (Int × Nat) ⊕ (AwM × Nat) := match nuR (t (i + 1)) 0 hi with
  | some f => .inl f
  | none => .inr (dF D k (t (i + 1)).2.1, i + 2)
def stN (D : AwM) (t : Nat → Tk) (i : Nat) : (Int × Nat) ⊕ (AwM × Nat) := match asR D (t (i + 1)) 1 0 with
  | some f => .inl f
  | none => match asR D (t (i + 2)) 0 (or_ (D 9 (fnd D 1 (t (i + 1)).2.1)) (D 10 (fnd D 1 (t (i + 1)).2.1))) with
    | some f => .inl f
    | none => .inr (dN D (fnd D 1 (t (i + 1)).2.1) (fnd D 0 (t (i + 2)).2.1), i + 3)
variable {T : Int → Int} {L K : Nat}
section
variable {M : AwM} {so : Int} {D : AwM} {i : Nat}
theorem ms0 : ms 12 0 := ms_n.mpr ⟨0, rfl, by decide⟩
theorem cdb_f {k : Int} {p : Nat} {M : AwM} : CDB so (FM M k p) M k p := cdb_u
theorem FM_o {k : Int} {p : Nat} {M : AwM} {a j : Int} (h : a ≠ 3 ∨ j = 1) : FM M k p a j = M a j := by
  unfold FM
  rw [up_nn (by omega), up_nn (by omega)]
theorem fm_4 {k : Int} {p : Nat} {M : AwM} : FM M k p 3 4 = k ∧ FM M k p 3 5 = (p : Int) := by
  unfold FM
  exact ⟨by rw [up_oi (by decide), up_at], up_at⟩
theorem cperson_d (h : CD T L K M so D (nD D) i) (hD : DC D) (hi : 1 ≤ (tks T L i).1 ∧ (tks T L i).1 ≤ 4) : COut T L K (fX6_tellPerson SH M 3) M so (stP D (tks T L) i) := by
  obtain ⟨n1, n2⟩ := cnew_d h hD hi (k := 0) (by decide) (by decide)
  have hso := h.hso
  unfold stP fX6_tellPerson
  rw [kd3, gd_t rfl]
  cases e : newR D (tks T L i) (tks T L (i + 1)) 0 with
  | some f =>
    obtain ⟨k0, M', e', b⟩ := n2 f.1 f.2 e
    exact ⟨k0, M', by rw [e', pb_1, u2_1, if_pos rfl], b⟩
  | none =>
    obtain ⟨⟨z3, cm'⟩, M1, e1, h1, nm1, f1⟩ := n1 e
    have m10 : D 0 0 < 10 := cm'
    have d0 := hD.1
    obtain ⟨w1, w2⟩ := cword_d (c := 1) h1
    rw [e1, pb_1, u2_1, if_neg (by omega)]
    dsimp only
    by_cases zw : ow (tks T L (i + 2)) 1 = true
    · obtain ⟨M2, e2, h2, f2⟩ := w1 zw
      obtain ⟨u1', u2'⟩ := cnumb_d (lo := 0) (hi := 9) h2
      rw [if_pos zw, e2, pb_1, u2_1, if_neg (by decide)]
      cases en : nuR (tks T L (i + 3)) 0 9 with
      | some f =>
        obtain ⟨k0, e3⟩ := u2' f.1 f.2 en
        refine ⟨k0, up_ (FM M2 f.1 f.2) (so + 3) (D 0 0) (-1), ?_, by rw [up_of (by omega)]; exact fm_4.1, by rw [up_of (by omega)]; exact fm_4.2, cdf_tr (cdf_tr f1 (cdf_nx f2)) (cdf_tr cdb_f.2.2 (fun a j _ _ r => up_of (by omega)))⟩
        rw [e3, pb_1, u2_1, FM_o (Or.inr rfl), h2.so', kso0 hso, gd_t rfl, lso0_2 (FM_lay h2.lay) hso, kso3 hso, ga_t (by omega) (by omega), bd_1, if_pos rfl]
      | none =>
        obtain ⟨⟨v1, v2, v3⟩, M3, e3, h3, f3⟩ := u1' en
        have nm3 : M3 (so + 2) (12 * 0 + D 0 0) = (tks T L (i + 1)).2.1 := by rw [f3 _ _ (by omega), f2 _ _ (by omega)]; exact nm1
        obtain ⟨⟨a1, a2, a3, a4, a5, a6⟩, ⟨b1, b2, b3, b4, b5⟩, c1, c2, c3, c4, ⟨d1, d2⟩, ⟨e1', e2'⟩⟩ := id h3
        have p00 : dP D (tks T L (i + 1)).2.1 (tks T L (i + 3)).2.1 0 0 = D 0 0 + 1 := up_at
        have p0 : ∀ k : Int, k ≠ 0 → dP D (tks T L (i + 1)).2.1 (tks T L (i + 3)).2.1 0 k = D 0 k := fun k hk => by unfold dP; rw [up_oi hk, up_of (by decide), up_of (by decide)]
        have pk : ∀ a : Int, a ≠ 0 → a ≠ 1 → a ≠ 5 → dP D (tks T L (i + 1)).2.1 (tks T L (i + 3)).2.1 a = D a := fun a x y z => by
          funext j; unfold dP; rw [up_of x, up_of y, up_of z]
        refine ⟨up_ M3 (so + 3) (D 0 0) (tks T L (i + 3)).2.1, ?_, ?_, cdf_tr (cdf_tr f1 (cdf_nx f2)) (cdf_tr (cdf_nx f3) (fun a j _ _ r => up_of (by omega)))⟩
        · rw [e3, pb_1, u2_1, h3.so', kso0 hso, gd_t rfl, lso0_2 h3.lay hso, kso3 hso, ga_t (by omega) (by omega), bd_1, if_neg (by omega)]
        · show CD T L K _ so (dP D (tks T L (i + 1)).2.1 (tks T L (i + 3)).2.1) (nD (dP D (tks T L (i + 1)).2.1 (tks T L (i + 3)).2.1)) (i + 4)
          refine CD_s h3 (LAY_s hso (Or.inl (by omega)) h3.lay) (fun a j x _ => up_of (by omega)) ⟨up_of (by omega), up_of (by omega)⟩ ⟨?_, ?_, ?_, ?_, ?_⟩ ⟨fun p x y => ?_, fun c x y => ?_, fun c x y => ?_, fun k w x y z u => ?_⟩ ⟨⟨?_, fun q x y => ?_⟩, ⟨?_, fun q x y => ?_⟩⟩
          · rw [up_of (by omega), b1]; exact p00.symm
          · rw [up_of (by omega), b2]; exact (p0 1 (by decide)).symm
          · rw [up_of (by omega), b3]; exact (p0 2 (by decide)).symm
          · rw [up_of (by omega), b4, p0 3 (by decide)]
          · rw [up_of (by omega), b5, p0 4 (by decide)]
          · rw [p00] at y
            have e1p : dP D (tks T L (i + 1)).2.1 (tks T L (i + 3)).2.1 1 p = up_ D 1 (D 0 0) (tks T L (i + 3)).2.1 1 p := by
              unfold dP; rw [up_of (by decide)]; unfold up_; simp
            by_cases ep : p = D 0 0
            · rw [e1p, ep, up_at, up_at]
            · rw [e1p, up_oi ep, up_oi ep]; exact c1 p x (by omega)
          · rw [p0 1 (by decide)] at y
            rw [up_of (by omega), up_of (by omega), up_of (by omega), up_of (by omega), pk 2 (by decide) (by decide) (by decide), pk 8 (by decide) (by decide) (by decide), pk 9 (by decide) (by decide) (by decide), pk 10 (by decide) (by decide) (by decide)]; exact c2 c x y
          · rw [p0 2 (by decide)] at y
            rw [up_of (by omega), up_of (by omega), pk 3 (by decide) (by decide) (by decide), pk 4 (by decide) (by decide) (by decide)]; exact c3 c x y
          · rw [up_of (by omega)]
            have e5 : ∀ j : Int, dP D (tks T L (i + 1)).2.1 (tks T L (i + 3)).2.1 5 j = up_ D 5 (12 * 0 + D 0 0) (tks T L (i + 1)).2.1 5 j := fun j => by
              unfold dP; rw [up_of (by decide), up_of (by decide)]
            rw [e5]
            by_cases ek : k = 0
            · subst ek
              rw [p00] at u
              by_cases ew : w = D 0 0
              · rw [ew, up_at]; exact nm3
              · rw [up_oi (by omega)]; exact c4 0 w x y z (by omega)
            · rw [p0 k ek] at u
              rw [up_oi (by omega)]; exact c4 k w x y z u
          · rw [up_of (by omega), pk 6 (by decide) (by decide) (by decide)]; exact d1
          · rw [pk 6 (by decide) (by decide) (by decide)] at y ⊢; rw [up_of (by omega)]; exact d2 q x y
          · rw [up_of (by omega), pk 7 (by decide) (by decide) (by decide)]; exact e1'
          · rw [pk 7 (by decide) (by decide) (by decide)] at y ⊢; rw [up_of (by omega)]; exact e2' q x y
    · obtain ⟨M2, e2, b⟩ := w2 (bf zw)
      rw [if_neg zw, e2, pb_1, u2_1, if_pos rfl]
      exact ⟨show (0 : Int) < 1 by decide, M2, rfl, CDB_tr f1 b⟩
end
end PCS2
