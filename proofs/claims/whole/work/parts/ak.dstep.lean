/-! each statement keeps the draft in order -/
section PDST
variable {T : Int → Int} {L : Nat} {D D' : AwM} {i j : Nat}
def Dn (D D' : AwM) (i j : Nat) : Prop := DOK D' ∧ i < j
theorem tk_nd (h : (tks T L i).1 = 3) : ndOK 6 (tks T L i).2.1 := ((tks_ok T L i).2.2.2.2.2.2.2.1 h).1.1
theorem frR_3 {y : Tk} (h : frR D y = none) : y.1 = 3 := by
  unfold frR at h
  by_cases z : y.1 = 3
  · exact z
  · rw [if_neg z] at h; exact absurd h (by simp)
theorem newR_3 {x y : Tk} {k : Int} (h : newR D x y k = none) : y.1 = 3 ∧ D 0 k < mx k := by
  rw [newR_e] at h
  by_cases z : mx k ≤ D 0 k
  · rw [if_pos z] at h; exact absurd h (by simp)
  · rw [if_neg z] at h; exact ⟨frR_3 h, by omega⟩
theorem nuR_3 {x : Tk} {lo hi : Int} (h : nuR x lo hi = none) : lo ≤ x.2.1 ∧ x.2.1 ≤ hi := by
  unfold nuR at h
  by_cases z : x.1 = 2
  · rw [if_pos z] at h
    by_cases q : lo ≤ x.2.1 ∧ x.2.1 ≤ hi
    · exact q
    · rw [if_neg q] at h; exact absurd h (by simp)
  · rw [if_neg z] at h; exact absurd h (by simp)
theorem asR_3 {x : Tk} {k bar : Int} (h : asR D x k bar = none) (h0 : 0 ≤ D 0 k ∧ D 0 k ≤ 12) : (0 ≤ fnd D k x.2.1 ∧ fnd D k x.2.1 < D 0 k) ∧ hb bar (fnd D k x.2.1) = false := by
  unfold asR at h
  by_cases z : x.1 = 3
  · rw [if_pos z] at h
    by_cases q : fnd D k x.2.1 = -1 ∨ hb bar (fnd D k x.2.1) = true
    · rw [if_pos q] at h; exact absurd h (by simp)
    · rcases fnd_c (D := D) (k := k) (nm := x.2.1) h0.1 with ⟨a, b, _⟩ | ⟨a, _⟩
      · refine ⟨⟨a, b⟩, ?_⟩
        cases e : hb bar (fnd D k x.2.1) with
        | false => rfl
        | true => exact absurd (Or.inr e) q
      · exact absurd (Or.inl a) q
  · rw [if_neg z] at h; exact absurd h (by simp)
theorem stP_ok (h : DOK D) (e : stP D (tks T L) i = .inr (D', j)) : Dn D D' i j := by
  unfold stP at e
  cases e1 : newR D (tks T L i) (tks T L (i + 1)) 0 with
  | some f => rw [e1] at e; exact absurd e (by simp)
  | none =>
    rw [e1] at e
    dsimp only at e
    obtain ⟨n1, n2⟩ := newR_3 e1
    by_cases z : ow (tks T L (i + 2)) 1 = true
    · rw [if_pos z] at e
      cases e2 : nuR (tks T L (i + 3)) 0 9 with
      | some f => rw [e2] at e; exact absurd e (by simp)
      | none =>
        rw [e2] at e
        have e' := Sum.inr.inj e
        rw [Prod.mk.injEq] at e'
        obtain ⟨rfl, rfl⟩ := e'
        exact ⟨DOK_P h n2 (tk_nd n1) (nuR_3 e2), by omega⟩
    · rw [if_neg z] at e; exact absurd e (by simp)
theorem stG_ok (h : DOK D) (e : stG D (tks T L) i = .inr (D', j)) : Dn D D' i j := by
  unfold stG at e
  cases e1 : newR D (tks T L i) (tks T L (i + 1)) 2 with
  | some f => rw [e1] at e; exact absurd e (by simp)
  | none =>
    rw [e1] at e
    dsimp only at e
    obtain ⟨n1, n2⟩ := newR_3 e1
    by_cases z : ow (tks T L (i + 2)) 3 = true
    · rw [if_pos z] at e
      cases e2 : nuR (tks T L (i + 3)) 0 99 with
      | some f => rw [e2] at e; exact absurd e (by simp)
      | none =>
        rw [e2] at e
        dsimp only at e
        by_cases z2 : ow (tks T L (i + 4)) 7 = true
        · rw [if_pos z2] at e
          cases e3 : asR D (tks T L (i + 5)) 0 0 with
          | some f => rw [e3] at e; exact absurd e (by simp)
          | none =>
            rw [e3] at e
            have e' := Sum.inr.inj e
            rw [Prod.mk.injEq] at e'
            obtain ⟨rfl, rfl⟩ := e'
            have d0 := h.1.p
            exact ⟨DOK_G h n2 (tk_nd n1) (nuR_3 e2) (asR_3 e3 (by omega)).1, by omega⟩
        · rw [if_neg z2] at e; exact absurd e (by simp)
    · rw [if_neg z] at e; exact absurd e (by simp)
theorem stF_ok {k hi : Int} (h : DOK D) (hk : (k = 3 ∧ hi = 99) ∨ (k = 4 ∧ hi = 100)) (e : stF D (tks T L) i k hi = .inr (D', j)) : Dn D D' i j := by
  unfold stF at e
  cases e2 : nuR (tks T L (i + 1)) 0 hi with
  | some f => rw [e2] at e; exact absurd e (by simp)
  | none =>
    rw [e2] at e
    have e' := Sum.inr.inj e
    rw [Prod.mk.injEq] at e'
    obtain ⟨rfl, rfl⟩ := e'
    have := nuR_3 e2
    exact ⟨DOK_F h (by omega) this.1, by omega⟩
theorem stN_ok (h : DOK D) (e : stN D (tks T L) i = .inr (D', j)) : Dn D D' i j := by
  unfold stN at e
  have d0 := h.1.p
  have d1 := h.1.c
  cases e1 : asR D (tks T L (i + 1)) 1 0 with
  | some f => rw [e1] at e; exact absurd e (by simp)
  | none =>
    rw [e1] at e
    dsimp only at e
    have x1 := (asR_3 e1 d1).1
    cases e2 : asR D (tks T L (i + 2)) 0 (or_ (D 9 (fnd D 1 (tks T L (i + 1)).2.1)) (D 10 (fnd D 1 (tks T L (i + 1)).2.1))) with
    | some f => rw [e2] at e; exact absurd e (by simp)
    | none =>
      rw [e2] at e
      have x2 := asR_3 e2 (by omega)
      have e' := Sum.inr.inj e
      rw [Prod.mk.injEq] at e'
      obtain ⟨rfl, rfl⟩ := e'
      have sc := h.st _ x1.1 x1.2
      have m9 : ms 10 (D 9 (fnd D 1 (tks T L (i + 1)).2.1)) := ms_up sc.2.1 (by omega)
      have m0 : ms 10 (D 10 (fnd D 1 (tks T L (i + 1)).2.1)) := ms_up sc.2.2 (by omega)
      have hor := (or_hb (k := fnd D 0 (tks T L (i + 2)).2.1) m9 m0 (by decide)).2
      rw [x2.2] at hor
      refine ⟨DOK_N h x1.1 x1.2 x2.1.1 x2.1.2 ?_, by omega⟩
      cases q : hb (D 9 (fnd D 1 (tks T L (i + 1)).2.1)) (fnd D 0 (tks T L (i + 2)).2.1) with
      | false => rfl
      | true => rw [q] at hor; exact absurd hor (by simp)
theorem knF_ok {nm wo ho : Int} (h : DOK D) (h12 : D 0 1 < 12) (hn : ndOK 6 nm) (hw : 1 ≤ wo ∧ wo ≤ 99) (hh : 0 ≤ ho ∧ ho < D 0 0) : ∀ (f i : Nat) (S : Int), ms (D 0 0).toNat S → hb S ho = true → knF D nm wo ho (tks T L) f i S = .inr (D', j) → Dn D D' i j
  | 0, _, _, _, _, e => absurd e (by simp [knF])
  | f + 1, i, S, hS, hk, e => by
    have d0 := h.1.p
    unfold knF at e
    cases e1 : asR D (tks T L i) 0 S with
    | some f => rw [e1] at e; exact absurd e (by simp)
    | none =>
      rw [e1] at e
      dsimp only at e
      have x1 := (asR_3 e1 (by omega)).1
      have hS' : ms (D 0 0).toNat (stb S (fnd D 0 (tks T L i).2.1)) := ms_stb hS x1.1 (by omega)
      have hk' : hb (stb S (fnd D 0 (tks T L i).2.1)) ho = true := by rw [hb_stb x1.1 hh.1, hk]; rfl
      by_cases z : (tks T L (i + 1)).1 = 3
      · rw [if_pos z] at e
        have := knF_ok h h12 hn hw hh f (i + 1) _ hS' hk' e
        exact ⟨this.1, by have := this.2; omega⟩
      · rw [if_neg z] at e
        have e' := Sum.inr.inj e
        rw [Prod.mk.injEq] at e'
        obtain ⟨rfl, rfl⟩ := e'
        exact ⟨DOK_C h h12 hn hw hh hS' hk', by omega⟩
theorem stC_ok (h : DOK D) (e : stC D (tks T L) i = .inr (D', j)) : Dn D D' i j := by
  unfold stC at e
  have d0 := h.1.p
  cases e1 : newR D (tks T L i) (tks T L (i + 1)) 1 with
  | some f => rw [e1] at e; exact absurd e (by simp)
  | none =>
    rw [e1] at e
    dsimp only at e
    obtain ⟨n1, n2⟩ := newR_3 e1
    by_cases z : ow (tks T L (i + 2)) 3 = true
    · rw [if_pos z] at e
      cases e2 : nuR (tks T L (i + 3)) 1 99 with
      | some f => rw [e2] at e; exact absurd e (by simp)
      | none =>
        rw [e2] at e
        dsimp only at e
        by_cases z2 : ow (tks T L (i + 4)) 4 = true
        · rw [if_pos z2] at e
          cases e3 : asR D (tks T L (i + 5)) 0 0 with
          | some f => rw [e3] at e; exact absurd e (by simp)
          | none =>
            rw [e3] at e
            dsimp only at e
            have x1 := (asR_3 e3 (by omega)).1
            have hS : ms (D 0 0).toNat (stb 0 (fnd D 0 (tks T L (i + 5)).2.1)) := ms_stb (ms_0 _) x1.1 (by omega)
            have hk : hb (stb 0 (fnd D 0 (tks T L (i + 5)).2.1)) (fnd D 0 (tks T L (i + 5)).2.1) = true := by rw [hb_stb x1.1 x1.1, decide_eq_true rfl, Bool.or_true]
            by_cases z3 : ow (tks T L (i + 6)) 5 = true
            · rw [if_pos z3] at e
              have := knF_ok h n2 (tk_nd n1) (nuR_3 e2) x1 1700 (i + 7) _ hS hk e
              exact ⟨this.1, by have := this.2; omega⟩
            · rw [if_neg z3] at e
              have e' := Sum.inr.inj e
              rw [Prod.mk.injEq] at e'
              obtain ⟨rfl, rfl⟩ := e'
              exact ⟨DOK_C h n2 (tk_nd n1) (nuR_3 e2) x1 hS hk, by omega⟩
        · rw [if_neg z2] at e; exact absurd e (by simp)
    · rw [if_neg z] at e; exact absurd e (by simp)
end PDST
