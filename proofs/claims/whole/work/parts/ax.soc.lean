/-! society: both alike -/
section PSOC
variable {K : Nat} {M s d : AwM} {n : Int} {R : Int → AwM} {mi : AwM}
theorem mj3_n {M2 : AwM} {b v : Int} (l2 : LAY M2) (b8 : M2 167 8 = 0) (b9 : M2 167 9 = -1) (b36 : M2 167 36 = b) : ∃ M5, (fX9_society_J148 SH M2 167 v = pb (fX9_begin SH M5 167) (u1 fun (M58 : AwM) => some (v, M58))) ∧ LAY M5 ∧ M5 167 13 = b ∧ M5 167 10 = 0 ∧ M5 167 11 = -1 ∧ ∀ a i : Int, ¬ (a = 167 ∧ (i = 10 ∨ i = 11 ∨ i = 13)) → M5 a i = M2 a i := by
  refine ⟨up_ (up_ (up_ M2 167 10 0) 167 11 (-1)) 167 13 b, ?_, LAY_ma' (LAY_ma' (LAY_ma' l2 (by decide)) (by decide)) (by decide), up_at, ?_, ?_, fun a i x => ?_⟩
  · have w9 : up_ M2 167 10 0 167 9 = -1 := by rw [up_oi (by decide)]; exact b9
    have w8 : up_ (up_ M2 167 10 0) 167 11 (-1) 167 8 = 0 := by rw [up_oi (by decide), up_oi (by decide)]; exact b8
    have w36 : up_ (up_ M2 167 10 0) 167 11 (-1) 167 36 = b := by rw [up_oi (by decide), up_oi (by decide)]; exact b36
    unfold fX9_society_J148
    rw [kd167, gd_t rfl, b8, bd_1, w9, bd_1, w8, if_neg (by decide), w36, bd_1]
  · rw [up_oi (by decide), up_oi (by decide), up_at]
  · rw [up_oi (by decide), up_at]
  · clear b8 b9 b36
    rw [up_nn (by omega), up_nn (by omega), up_nn (by omega)]
theorem msoc_n (h : MR M s d n R mi) {L : Nat} (hL : (L : Int) = mi 14 (-1)) (hK : ENDS (tks (mi 14) L) K) {r : (Int × Nat) ⊕ (AwM × Int)} (hr : ∀ (b : Int) (Mm : AwM), MD (mi 14) L K Mm b D0 0 → MLo (mi 14) L K (lp (u2 (fX9_society_L119 SH 167)) FU (0, Mm)) Mm b r) (hk : ∀ q, r = .inl q → 0 < q.1) (hd : ∀ q, r = .inr q → DOK q.1) : match r with
  | .inl q => ∃ M', fX9_society SH M 167 = some (-1, M') ∧ MR M' s d n R (rfu (fam mi q.1 (q.2 : Int)) 1) ∧ lof M' M
  | .inr q => ∃ M', fX9_society SH M 167 = some (q.2, M') ∧ MR M' q.1 (beg q.1) 0 R (nmi mi) ∧ lof M' M := by
  obtain ⟨M1, pre, md, f1, v1⟩ := mhead_n h hL hK
  have t := hr _ _ md
  have hb01 := h.mm.b01
  cases r with
  | inl q =>
    obtain ⟨v, M2, e2, b8, b9, f2⟩ := t
    have k0 : 0 < q.1 := hk q rfl
    have f3 : mso (1 - M 167 13) (up_ (up_ M2 167 10 q.1) 167 11 (q.2 : Int)) M := mso_tr f1 (mso_tr (mso_md f2) (mso_tr (mso_up (by decide)) (mso_up (by decide))))
    have l3 : LAY (up_ (up_ M2 167 10 q.1) 167 11 (q.2 : Int)) := LAY_ms h.lay f3
    have w1 : up_ (up_ M2 167 10 q.1) 167 11 (q.2 : Int) 167 1 = 0 := by
      rw [up_oi (by decide), up_oi (by decide), f2 _ _ (by decide) (by decide) (by unfold inb; omega)]; exact v1
    have w8 : up_ (up_ M2 167 10 q.1) 167 11 (q.2 : Int) 167 8 = q.1 := by
      rw [up_oi (by decide), up_oi (by decide)]; exact b8
    have w9 : up_ M2 167 10 q.1 167 9 = (q.2 : Int) := by rw [up_oi (by decide)]; exact b9
    have m3 := MR_fa (k := q.1) (p := q.2) h l3 f3 w1 (by rw [up_oi (by decide), up_at]) up_at
    obtain ⟨M4, e4, m4, g4⟩ := refM (k := 1) m3 (by decide) (by decide)
    refine ⟨M4, pre _ ?_, m4, lof_tr (mso_lo f3) g4⟩
    rw [e2, pb_1, u2_1]
    unfold fX9_society_J148
    rw [kd167, gd_t rfl, b8, bd_1, w9, bd_1, w8, if_pos k0, e4, pb_1, u2_1]
  | inr q =>
    obtain ⟨M2, j, e2, md2, f2⟩ := t
    have hD := hd q rfl
    have b8 := md2.h8
    have b9 : M2 167 9 = -1 := md2.1.2.1.1.2
    have b36 : M2 167 36 = 1 - M 167 13 := md2.in'
    have hs := md2.2.1
    have hc := md2.2.2.1
    have hb := md2.b01
    have l2 := md2.lay
    clear md2
    generalize eb : 1 - M 167 13 = b at *
    obtain ⟨M5, ej, l5, w13, w10, w11, g5⟩ := mj3_n (v := q.2) l2 b8 b9 b36
    obtain ⟨M6, e6, x1, x2, x3, x4⟩ := mbeg_n l5 hb w13
    have f5 : ∀ a i : Int, ¬ (a = 167 ∧ i = 13) → ¬ (a = 167 ∧ (1 ≤ i ∧ i ≤ 12 ∨ i = 35 ∨ i = 36 ∨ i = 42 ∨ i = 43 ∨ i = 45 ∨ i = 46)) → ¬ (190 ≤ a ∧ a ≤ 195) → ¬ inb b a i → M5 a i = M a i := fun a i x y z u => by
      rw [g5 a i (by omega), f2 a i (by omega) z u]; exact f1 a i y z u
    have w1 : M5 167 1 = 0 := by
      rw [g5 _ _ (by decide), f2 _ _ (by decide) (by decide) (by unfold inb; omega)]; exact v1
    refine ⟨M6, pre _ ?_, MR_be h eb.symm l5 f5 w1 w10 w11 w13 hD (MS_fr hs (fun a i x y => g5 a i (by omega))) (fun c x y => ?_) x1 x2 x3 x4, fun a i x => ?_⟩
    · rw [e2, pb_1, u2_1, ej, e6, pb_1, u1_1]
    · rw [g5 _ _ (by omega), g5 _ _ (by omega), g5 _ _ (by omega)]; exact hc c x y
    · rw [x4 a i (by omega) (by omega) (by omega) (by omega)]; exact f5 a i (by omega) (by omega) (by omega) (by unfold inb; omega)
/-- both answer alike and stay alike -/
theorem society_b (hc : CR M s d n R mi) (hm : MR M s d n R mi) : ∃ r M1 M2 s' d' n' R' mi', fX8_society SH M 1 = some (r, M1) ∧ fX9_society SH M1 167 = some (r, M2) ∧ CR M2 s' d' n' R' mi' ∧ MR M2 s' d' n' R' mi' := by
  have k := hc.mk.1
  obtain ⟨L, hL⟩ : ∃ L : Nat, (L : Int) = mi 14 (-1) := ⟨(mi 14 (-1)).toNat, by omega⟩
  obtain ⟨K, hK⟩ := ends_x (mi 14) (L := L) (by omega)
  obtain ⟨r, h1, h2⟩ := csoc_n hc hL hK
  cases r with
  | inl q =>
    obtain ⟨k0, M1, e1, c1, g1⟩ := h1
    obtain ⟨M2, e2, m2, g2⟩ := msoc_n (MR_hi hm g1 c1.lay) hL hK h2 (fun q' e => by cases e; exact k0) (fun q' e => by cases e)
    exact ⟨_, M1, M2, _, _, _, _, _, e1, e2, CR_lo c1 g2 m2.lay, m2⟩
  | inr q =>
    obtain ⟨⟨a, _⟩, M1, e1, c1, g1⟩ := h1
    obtain ⟨M2, e2, m2, g2⟩ := msoc_n (MR_hi hm g1 c1.lay) hL hK h2 (fun q' e => by cases e) (fun q' e => by cases e; exact a)
    exact ⟨_, M1, M2, _, _, _, _, _, e1, e2, CR_lo c1 g2 m2.lay, m2⟩
end PSOC
