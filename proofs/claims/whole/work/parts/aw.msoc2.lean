/-! the model's society -/
section PMSC
variable {K : Nat} {M s d : AwM} {n : Int} {R : Int → AwM} {mi : AwM}
/-- from the call to the loop -/
theorem mhead_n (h : MR M s d n R mi) {L : Nat} (hL : (L : Int) = mi 14 (-1)) (hK : ENDS (tks (mi 14) L) K) : ∃ M1, (∀ R', pb (lp (u2 (fX9_society_L119 SH 167)) FU (0, M1)) (u2 (fun (x47 : Int) (M48 : AwM) => fX9_society_J148 SH M48 167 x47)) = R' → fX9_society SH M 167 = R') ∧ MD (mi 14) L K M1 (1 - M 167 13) D0 0 ∧ mso (1 - M 167 13) M1 M ∧ M1 167 1 = 0 := by
  have l := h.lay
  have hb01 := h.mm.b01
  obtain ⟨a1, a2, _⟩ := h.mi
  obtain ⟨mk1, mk2, _⟩ := h.mk
  generalize e13 : M 167 13 = b0 at *
  have hb : 1 - b0 = 0 ∨ 1 - b0 = 1 := by omega
  have hw : w32 (1 - b0) = 1 - b0 := w32_s (by omega) (by omega)
  have f6 : ∀ a i : Int, ¬ (a = 167 ∧ (i = 1 ∨ i = 2 ∨ i = 5 ∨ i = 8 ∨ i = 9 ∨ i = 36)) → up_ (up_ (up_ (up_ (up_ (up_ M 167 2 (L : Int)) 167 1 0) 167 5 0) 167 8 0) 167 9 (-1)) 167 36 (1 - b0) a i = M a i := fun a i x => by
    rw [up_nn (by omega), up_nn (by omega), up_nn (by omega), up_nn (by omega), up_nn (by omega), up_nn (by omega)]
  have l6 : LAY (up_ (up_ (up_ (up_ (up_ (up_ M 167 2 (L : Int)) 167 1 0) 167 5 0) 167 8 0) 167 9 (-1)) 167 36 (1 - b0)) := LAY_ma' (LAY_ma' (LAY_ma' (LAY_ma' (LAY_ma' (LAY_ma' l (by decide)) (by decide)) (by decide)) (by decide)) (by decide)) (by decide)
  have v13 : up_ (up_ (up_ (up_ (up_ M 167 2 (L : Int)) 167 1 0) 167 5 0) 167 8 0) 167 9 (-1) 167 13 = b0 := by
    rw [up_oi (by decide), up_oi (by decide), up_oi (by decide), up_oi (by decide), up_oi (by decide)]; exact e13
  have v2 : up_ (up_ (up_ (up_ (up_ (up_ M 167 2 (L : Int)) 167 1 0) 167 5 0) 167 8 0) 167 9 (-1)) 167 36 (1 - b0) 167 2 = (L : Int) := by
    rw [up_oi (by decide), up_oi (by decide), up_oi (by decide), up_oi (by decide), up_oi (by decide), up_at]
  have v1 : up_ (up_ (up_ (up_ (up_ (up_ M 167 2 (L : Int)) 167 1 0) 167 5 0) 167 8 0) 167 9 (-1)) 167 36 (1 - b0) 167 1 = 0 := by
    rw [up_oi (by decide), up_oi (by decide), up_oi (by decide), up_oi (by decide), up_at]
  have v5 : up_ (up_ (up_ (up_ (up_ (up_ M 167 2 (L : Int)) 167 1 0) 167 5 0) 167 8 0) 167 9 (-1)) 167 36 (1 - b0) 167 5 = 0 := by
    rw [up_oi (by decide), up_oi (by decide), up_oi (by decide), up_at]
  have v8 : up_ (up_ (up_ (up_ (up_ (up_ M 167 2 (L : Int)) 167 1 0) 167 5 0) 167 8 0) 167 9 (-1)) 167 36 (1 - b0) 167 8 = 0 := by
    rw [up_oi (by decide), up_oi (by decide), up_at]
  have v9 : up_ (up_ (up_ (up_ (up_ (up_ M 167 2 (L : Int)) 167 1 0) 167 5 0) 167 8 0) 167 9 (-1)) 167 36 (1 - b0) 167 9 = -1 := by
    rw [up_oi (by decide), up_at]
  have v36 : up_ (up_ (up_ (up_ (up_ (up_ M 167 2 (L : Int)) 167 1 0) 167 5 0) 167 8 0) 167 9 (-1)) 167 36 (1 - b0) 167 36 = 1 - b0 := up_at
  obtain ⟨M2, post, l2, ⟨c1, c2, c3, c4, c5⟩, c6, c7, c8, g2⟩ := mcnt_n l6 hb v36
  have pre : ∀ R', (pb (fX9_ahead SH M2 167) <| u1 fun (M38 : AwM) => (pb (lp (u2 (fX9_society_L119 SH 167)) FU (0, M38)) (u2 (fun (x47 : Int) (M48 : AwM) => fX9_society_J148 SH M48 167 x47)))) = R' → fX9_society SH M 167 = R' := fun R' hR => by
    have := post R' hR
    unfold fX9_society
    rw [kd167, gd_t rfl, a1, ← hL, bd_1, bd_1, bd_1, bd_1, bd_1, v13, hw, bd_1]
    exact this
  generalize up_ (up_ (up_ (up_ (up_ (up_ M 167 2 (L : Int)) 167 1 0) 167 5 0) 167 8 0) 167 9 (-1)) 167 36 (1 - b0) = M1 at *
  have mt2 : MTp M2 (mi 14) L := ⟨⟨(g2 _ _ (by decide) (by unfold inb; omega)).trans v2, (g2 _ _ (by decide) (by unfold inb; omega)).trans v9⟩, by omega, fun i x y => ⟨mk2 i x (by omega), by rw [g2 _ _ (by omega) (by unfold inb; omega), f6 _ _ (by omega)]; exact a2 i x (by omega)⟩⟩
  obtain ⟨M3, e3, f3, t3⟩ := mfirst_n l2 mt2 ((g2 _ _ (by decide) (by unfold inb; omega)).trans v5)
  have g3 : ∀ a i : Int, a ≠ 167 → M3 a i = M2 a i := fun a i x => f3 a i (by omega)
  refine ⟨M3, fun R' hR => pre R' (by rw [e3, pb_1, u1_1]; exact hR), ⟨⟨LAY_ma l2 f3, MTp_ma mt2 f3, ?_, ?_, t3, hb, Nat.zero_le _, hK⟩, ⟨⟨?_, ?_, ?_, ?_, ?_⟩, fun p x y => ?_, fun p x y => ?_, fun p x y => ?_, fun p x y => ?_, ⟨fun _ => ?_, fun q => ?_⟩, ⟨fun _ => ?_, fun q => ?_⟩, fun k w x y z u => ?_⟩, fun c x y => ?_, 0, ?_, Nat.le_refl _, fun q => ?_, fun q => ?_⟩, fun a i x y z => ?_, ?_⟩
  · rw [f3 _ _ (by decide), g2 _ _ (by decide) (by unfold inb; omega)]; exact v36
  · rw [f3 _ _ (by decide), g2 _ _ (by decide) (by unfold inb; omega)]; exact v8
  · rw [g3 _ _ (by decide)]; exact c1
  · rw [g3 _ _ (by decide)]; exact c2
  · rw [g3 _ _ (by decide)]; exact c3
  · rw [g3 _ _ (by decide)]; exact c4
  · rw [g3 _ _ (by decide)]; exact c5
  · exact absurd (show p < 0 from y) (by omega)
  · exact absurd (show p < 0 from y) (by omega)
  · exact absurd (show p < 0 from y) (by omega)
  · exact absurd (show p < 0 from y) (by omega)
  · rw [g3 _ _ (by decide)]; exact c6
  · exact absurd (show (0 : Int) < 0 from q) (by decide)
  · rw [g3 _ _ (by decide)]; exact c7
  · exact absurd (show (0 : Int) < 0 from q) (by decide)
  · exact absurd (show w < 0 from u) (by omega)
  · exact absurd (show c < 0 from y) (by omega)
  · rw [f3 _ _ (by decide)]; exact c8
  · exact absurd (show (0 : Int) < 0 from q) (by decide)
  · exact absurd (show (0 : Int) < 0 from q) (by decide)
  · rw [f3 a i (by omega), g2 a i (by omega) z]; exact f6 a i (by omega)
  · rw [f3 _ _ (by decide), g2 _ _ (by decide) (by unfold inb; omega)]; exact v1
/-- a fault is told -/
theorem MR_fa {M2 : AwM} {k : Int} {p : Nat} (h : MR M s d n R mi) (l : LAY M2) (f : mso (1 - M 167 13) M2 M) (v1 : M2 167 1 = 0) (v10 : M2 167 10 = k) (v11 : M2 167 11 = (p : Int)) : MR M2 s d n R (fam mi k p) := by
  have hb01 := h.mm.b01
  have ne : ∀ a i : Int, ¬ (a = 167 ∧ (1 ≤ i ∧ i ≤ 12 ∨ i = 35 ∨ i = 36 ∨ i = 42 ∨ i = 43 ∨ i = 45 ∨ i = 46)) → ¬ (190 ≤ a ∧ a ≤ 195) → ¬ (169 ≤ a ∧ a ≤ 189) → M2 a i = M a i := fun a i x y z => f a i x y (by unfold inb; omega)
  have e13 : M2 167 13 = M 167 13 := ne _ _ (by decide) (by decide) (by decide)
  refine ⟨?_, MHi_fr h.hi h.mm.ok (ne _ _ (by decide) (by decide) (by decide)) (ne _ _ (by decide) (by decide) (by decide)) (fun i _ => ne _ _ (by omega) (by omega) (by omega)) (fun a i _ _ _ => ne _ _ (by omega) (by omega) (by omega)) (fun i _ => ne _ _ (by omega) (by omega) (by omega)), MiOK_fa h.mk, ?_⟩
  · rw [e13]
    exact ⟨l, e13, hb01, h.mm.l21, h.mm.ok, h.mm.ld, MS_o h.mm.ms h.mm.ok (b := 1 - M 167 13) (by omega) (by omega) f, ML_fr h.mm.ml h.mm.ok (ne _ _ (by omega) (by omega) (by omega)) (fun a i _ _ _ _ => ne _ _ (by omega) (by omega) (by omega)) (fun i _ _ => ne _ _ (by omega) (by omega) (by omega))⟩
  · obtain ⟨a1, a2, a3, a4, a5, a6, a7, a8, a9, a10⟩ := h.mi
    have e : fam mi k p 14 (-1) = 0 := by rw [fam_14, if_pos rfl]
    refine ⟨by rw [v1, e], fun i x y => by rw [e] at y; omega, ?_, ?_, ?_, fun i x y => ?_, ?_, fun i x y => ?_, ?_, fun i x y => ?_⟩
    · rw [v10, fam_15.1]
    · rw [v11, fam_15.2]
    · rw [ne _ _ (by decide) (by decide) (by decide), fam_a (by decide) (by decide)]; exact a5
    · rw [fam_a (by decide) (by decide)] at y ⊢; rw [ne _ _ (by omega) (by omega) (by omega)]; exact a6 i x y
    · rw [ne _ _ (by decide) (by decide) (by decide), fam_a (by decide) (by decide)]; exact a7
    · rw [fam_a (by decide) (by decide)] at y ⊢; rw [ne _ _ (by omega) (by omega) (by omega)]; exact a8 i x y
    · rw [ne _ _ (by decide) (by decide) (by decide), fam_a (by decide) (by decide)]; exact a9
    · rw [fam_a (by decide) (by decide)]; rw [ne _ _ (by omega) (by omega) (by omega)]; exact a10 i x y
/-- a society told is the society -/
theorem MR_be {M2 M3 D : AwM} {b : Int} (h : MR M s d n R mi) (hb : b = 1 - M 167 13) (l : LAY M2) (f : ∀ a i : Int, ¬ (a = 167 ∧ i = 13) → ¬ (a = 167 ∧ (1 ≤ i ∧ i ≤ 12 ∨ i = 35 ∨ i = 36 ∨ i = 42 ∨ i = 43 ∨ i = 45 ∨ i = 46)) → ¬ (190 ≤ a ∧ a ≤ 195) → ¬ inb b a i → M2 a i = M a i) (v1 : M2 167 1 = 0) (v10 : M2 167 10 = 0) (v11 : M2 167 11 = -1) (v13 : M2 167 13 = b) (hD : DOK D) (hs : MS M2 b D) (hc : ∀ c : Int, 0 ≤ c → c < D 0 1 → M2 173 (12 * b + c) = D 8 c ∧ M2 174 (12 * b + c) = D 9 c ∧ M2 175 (12 * b + c) = D 10 c) (w : M3 197 0 = 0 ∧ M3 167 54 = 0 ∧ M3 167 67 = 0) (wc : ∀ c : Int, 0 ≤ c → c < 12 → M3 198 c = M2 173 (12 * b + c) ∧ M3 199 c = M2 174 (12 * b + c) ∧ M3 200 c = M2 175 (12 * b + c)) (wm : ∀ c : Int, 0 ≤ c → c < 120 → M3 201 c = 0) (g : mbf M3 M2) : MR M3 D (beg D) 0 R (nmi mi) := by
  have hb01 := h.mm.b01
  have dc := hD.dc
  obtain ⟨q0, q1, q2⟩ := dc
  have ne : ∀ a i : Int, ¬ (a = 167 ∧ i = 13) → ¬ (a = 167 ∧ (1 ≤ i ∧ i ≤ 12 ∨ i = 35 ∨ i = 36 ∨ i = 42 ∨ i = 43 ∨ i = 45 ∨ i = 46)) → ¬ (a = 167 ∧ (i = 54 ∨ i = 67)) → ¬ (190 ≤ a ∧ a ≤ 195) → ¬ (169 ≤ a ∧ a ≤ 189) → ¬ (197 ≤ a ∧ a ≤ 201) → M3 a i = M a i := fun a i x y z u v w => by
    rw [g a i (by omega) z (by omega) (by omega)]; exact f a i x y u (by unfold inb; omega)
  have e13 : M3 167 13 = b := (g _ _ (by decide) (by decide) (by decide) (by decide)).trans v13
  refine ⟨?_, ⟨?_, w.2.1, by decide, fun j x y => absurd y (by omega)⟩, MiOK_n h.mk, ?_⟩
  · rw [e13]
    refine ⟨LAY_mbf l g, e13, by omega, by decide, hD.1, LdOK_b hD, MS_fr hs (fun a i x y => g a i (by omega) (by omega) (by omega) (by omega)), ⟨?_, fun c x y => ?_, fun c x y => ?_, fun c x y => ?_, fun c p x y z u _ => ?_⟩⟩
    · rw [beg_0]; exact w.1
    · rw [beg_1, show (12 : Int) * 0 + c = c by omega]; exact ((wc c x (by omega)).1).trans (hc c x y).1
    · rw [beg_2, show (12 : Int) * 0 + c = c by omega]; exact ((wc c x (by omega)).2.1).trans (hc c x y).2.1
    · rw [beg_3, show (12 : Int) * 0 + c = c by omega]; exact ((wc c x (by omega)).2.2).trans (hc c x y).2.2
    · rw [beg_4]; exact wm _ (by omega) (by omega)
  · rw [ne _ _ (by decide) (by decide) (by decide) (by decide) (by decide) (by decide)]; exact h.hi.1
  · obtain ⟨a1, a2, a3, a4, a5, a6, a7, a8, a9, a10⟩ := h.mi
    refine ⟨?_, fun i x y => by rw [nmi_14] at y; omega, ?_, ?_, ?_, fun i x y => by rw [nmi_16] at y; omega, ?_, fun i x y => ?_, ?_, fun i x y => ?_⟩
    · rw [nmi_14, g _ _ (by decide) (by decide) (by decide) (by decide)]; exact v1
    · rw [nmi_15.1, g _ _ (by decide) (by decide) (by decide) (by decide)]; exact v10
    · rw [nmi_15.2, g _ _ (by decide) (by decide) (by decide) (by decide)]; exact v11
    · rw [nmi_16]; exact w.2.2
    · rw [ne _ _ (by decide) (by decide) (by decide) (by decide) (by decide) (by decide), nmi_a (by decide) (by decide) (by decide)]; exact a7
    · rw [nmi_a (by decide) (by decide) (by decide)] at y ⊢; rw [ne _ _ (by omega) (by omega) (by omega) (by omega) (by omega) (by omega)]; exact a8 i x y
    · rw [ne _ _ (by decide) (by decide) (by decide) (by decide) (by decide) (by decide), nmi_a (by decide) (by decide) (by decide)]; exact a9
    · rw [nmi_a (by decide) (by decide) (by decide)]; rw [ne _ _ (by omega) (by omega) (by omega) (by omega) (by omega) (by omega)]; exact a10 i x y
end PMSC
