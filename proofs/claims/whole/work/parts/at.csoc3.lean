/-! the class's society -/
section PCSF
variable {K : Nat} {M s d : AwM} {n : Int} {R : Int → AwM} {mi : AwM}
theorem csoc_n (h : CR M s d n R mi) {L : Nat} (hL : (L : Int) = mi 14 (-1)) (hK : ENDS (tks (mi 14) L) K) : ∃ r : (Int × Nat) ⊕ (AwM × Int), (match r with
  | .inl q => 0 < q.1 ∧ ∃ M', fX8_society SH M 1 = some (-1, M') ∧ CR M' s d n R (rfu (fam mi q.1 (q.2 : Int)) 1) ∧ hif M' M
  | .inr q => (DOK q.1 ∧ 0 ≤ q.2 ∧ q.2 ≤ 80) ∧ ∃ M', fX8_society SH M 1 = some (q.2, M') ∧ CR M' q.1 (beg q.1) 0 R (nmi mi) ∧ hif M' M) ∧ ∀ (b : Int) (Mm : AwM), MD (mi 14) L K Mm b D0 0 → MLo (mi 14) L K (lp (u2 (fX9_society_L119 SH 167)) FU (0, Mm)) Mm b r := by
  have hso := h.cc.hso
  have hmk := h.mk
  obtain ⟨a1, a2, _⟩ := h.mi
  have hT : TpB M (mi 14) L := ⟨by have := hmk.1; omega, fun i x y => ⟨hmk.2.1 i x (by omega), a2 i x (by omega)⟩⟩
  obtain ⟨r, hr, hm⟩ := tell_n (so := 147 - M 1 3) h.lay (OWN_h h.ow) hT hK (by omega) h.dr
  refine ⟨r, ?_, hm⟩
  have e11 : M 1 1 = (L : Int) := by rw [a1, hL]
  cases r with
  | inl q =>
    obtain ⟨k0, M1, e, b1, b2, l, f⟩ := hr
    obtain ⟨c1, g1⟩ := CR_fa h l f b1 b2
    obtain ⟨M2, e2, c2, g2⟩ := refC (k := 1) c1 (by decide) (by decide)
    refine ⟨k0, M2, ?_, c2, hif_tr g1 g2⟩
    unfold fX8_society
    rw [kd1, gd_t rfl, ly1_2 h.lay, kd3, gd_t rfl, ly1_0 h.lay, e11, e, pb_1, u2_1, bd_1, if_pos rfl, e2, pb_1, u2_1]
  | inr q =>
    obtain ⟨a, M1, j, e, c, f⟩ := hr
    obtain ⟨M2, e2, c2, g2⟩ := csuc_n h a.1 c f (v := q.2)
    refine ⟨a, M2, ?_, c2, g2⟩
    unfold fX8_society
    rw [kd1, gd_t rfl, ly1_2 h.lay, kd3, gd_t rfl, ly1_0 h.lay, e11, e, pb_1, u2_1, bd_1, if_neg (by omega)]
    exact e2
end PCSF
