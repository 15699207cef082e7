/-! the model's society -/
section PMSC
variable {K : Nat} {M s d : AwM} {n : Int} {R : Int → AwM} {mi : AwM}
/-- the six writes ahead of the counts -/
theorem mhd6_n {M : AwM} {b0 : Int} {L : Nat} (l : LAY M) (hw : w32 (1 - b0) = 1 - b0) (e13 : M 167 13 = b0) (e1 : M 167 1 = (L : Int)) : ∃ M1, (∀ R', (gd_ ((kd_ SH (M1 167 14)).1 = 1 ∧ (0 : Int) ≤ (M1 167 36) ∧ (M1 167 36) < ((kd_ SH (M1 167 14)).2 : Int)) (bd_ (up_ M1 (M1 167 14) (M1 167 36) 0) fun (M15 : AwM) => (gd_ ((kd_ SH (M15 167 16)).1 = 1 ∧ (0 : Int) ≤ (M15 167 36) ∧ (M15 167 36) < ((kd_ SH (M15 167 16)).2 : Int)) (bd_ (up_ M15 (M15 167 16) (M15 167 36) 0) fun (M18 : AwM) => (gd_ ((kd_ SH (M18 167 21)).1 = 1 ∧ (0 : Int) ≤ (M18 167 36) ∧ (M18 167 36) < ((kd_ SH (M18 167 21)).2 : Int)) (bd_ (up_ M18 (M18 167 21) (M18 167 36) 0) fun (M21 : AwM) => (gd_ ((kd_ SH (M21 167 24)).1 = 1 ∧ (0 : Int) ≤ (M21 167 36) ∧ (M21 167 36) < ((kd_ SH (M21 167 24)).2 : Int)) (bd_ (up_ M21 (M21 167 24) (M21 167 36) 0) fun (M24 : AwM) => (gd_ ((kd_ SH (M24 167 25)).1 = 1 ∧ (0 : Int) ≤ (M24 167 36) ∧ (M24 167 36) < ((kd_ SH (M24 167 25)).2 : Int)) (bd_ (up_ M24 (M24 167 25) (M24 167 36) 0) fun (M27 : AwM) => (gd_ ((kd_ SH (M27 167 26)).1 = 1 ∧ (0 : Int) ≤ (M27 167 36) ∧ (M27 167 36) < ((kd_ SH (M27 167 26)).2 : Int)) (bd_ (up_ M27 (M27 167 26) (M27 167 36) (-1)) fun (M30 : AwM) => (gd_ ((kd_ SH (M30 167 28)).1 = 1 ∧ (0 : Int) ≤ (M30 167 36) ∧ (M30 167 36) < ((kd_ SH (M30 167 28)).2 : Int)) (bd_ (up_ M30 (M30 167 28) (M30 167 36) (-1)) fun (M33 : AwM) => (bd_ (up_ M33 167 35 0) fun (M35 : AwM) => (pb (fX9_ahead SH M35 167) <| u1 fun (M38 : AwM) => (pb (lp (u2 (fX9_society_L119 SH 167)) FU (0, M38)) (u2 (fun (x47 : Int) (M48 : AwM) => fX9_society_J148 SH M48 167 x47))))))))))))))))))) = R' → fX9_society SH M 167 = R') ∧ LAY M1 ∧ (M1 167 2 = (L : Int) ∧ M1 167 1 = 0 ∧ M1 167 5 = 0 ∧ M1 167 8 = 0 ∧ M1 167 9 = -1 ∧ M1 167 36 = 1 - b0) ∧ ∀ a i : Int, ¬ (a = 167 ∧ (i = 1 ∨ i = 2 ∨ i = 5 ∨ i = 8 ∨ i = 9 ∨ i = 36)) → M1 a i = M a i := by
  have f6 : ∀ a i : Int, ¬ (a = 167 ∧ (i = 1 ∨ i = 2 ∨ i = 5 ∨ i = 8 ∨ i = 9 ∨ i = 36)) → up_ (up_ (up_ (up_ (up_ (up_ M 167 2 (L : Int)) 167 1 0) 167 5 0) 167 8 0) 167 9 (-1)) 167 36 (1 - b0) a i = M a i := fun a i x => by
    clear e13 e1 hw
    rw [up_nn (by omega), up_nn (by omega), up_nn (by omega), up_nn (by omega), up_nn (by omega), up_nn (by omega)]
  have l6 : LAY (up_ (up_ (up_ (up_ (up_ (up_ M 167 2 (L : Int)) 167 1 0) 167 5 0) 167 8 0) 167 9 (-1)) 167 36 (1 - b0)) := LAY_ma' (LAY_ma' (LAY_ma' (LAY_ma' (LAY_ma' (LAY_ma' l (by decide)) (by decide)) (by decide)) (by decide)) (by decide)) (by decide)
  have v13 : up_ (up_ (up_ (up_ (up_ M 167 2 (L : Int)) 167 1 0) 167 5 0) 167 8 0) 167 9 (-1) 167 13 = b0 := by
    rw [up_oi (by decide), up_oi (by decide), up_oi (by decide), up_oi (by decide), up_oi (by decide)]; exact e13
  refine ⟨_, fun R' hR => ?_, l6, ⟨?_, ?_, ?_, ?_, ?_, up_at⟩, f6⟩
  · unfold fX9_society
    rw [kd167, gd_t rfl, e1, bd_1, bd_1, bd_1, bd_1, bd_1, v13, hw, bd_1]
    exact hR
  · rw [up_oi (by decide), up_oi (by decide), up_oi (by decide), up_oi (by decide), up_oi (by decide), up_at]
  · rw [up_oi (by decide), up_oi (by decide), up_oi (by decide), up_oi (by decide), up_at]
  · rw [up_oi (by decide), up_oi (by decide), up_oi (by decide), up_at]
  · rw [up_oi (by decide), up_oi (by decide), up_at]
  · rw [up_oi (by decide), up_at]
/-- from the call to the loop -/
theorem mhead_n (h : MR M s d n R mi) {L : Nat} (hL : (L : Int) = mi 14 (-1)) (hK : ENDS (tks (mi 14) L) K) : ∃ M1, (∀ R', pb (lp (u2 (fX9_society_L119 SH 167)) FU (0, M1)) (u2 (fun (x47 : Int) (M48 : AwM) => fX9_society_J148 SH M48 167 x47)) = R' → fX9_society SH M 167 = R') ∧ MD (mi 14) L K M1 (1 - M 167 13) D0 0 ∧ mso (1 - M 167 13) M1 M ∧ M1 167 1 = 0 := by
  have l := h.lay
  have hb01 := h.mm.b01
  obtain ⟨a1, a2, _⟩ := h.mi
  obtain ⟨mk1, mk2, _⟩ := h.mk
  generalize e13 : M 167 13 = b0 at *
  have hb : 1 - b0 = 0 ∨ 1 - b0 = 1 := by omega
  obtain ⟨M1, pre1, l6, ⟨v2, v1, v5, v8, v9, v36⟩, f6⟩ := mhd6_n (L := L) l (w32_s (by omega) (by omega)) e13 (by rw [a1, hL])
  obtain ⟨M2, post, l2, ⟨c1, c2, c3, c4, c5⟩, c6, c7, c8, g2⟩ := mcnt_n l6 hb v36
  have pre : ∀ R', (pb (fX9_ahead SH M2 167) <| u1 fun (M38 : AwM) => (pb (lp (u2 (fX9_society_L119 SH 167)) FU (0, M38)) (u2 (fun (x47 : Int) (M48 : AwM) => fX9_society_J148 SH M48 167 x47)))) = R' → fX9_society SH M 167 = R' := fun R' hR => pre1 R' (post R' hR)
  clear pre1 post
  have mt2 : MTp M2 (mi 14) L := ⟨⟨(g2 _ _ (by decide) (by unfold inb; omega)).trans v2, (g2 _ _ (by decide) (by unfold inb; omega)).trans v9⟩, by omega, fun i x y => ⟨mk2 i x (by omega), by rw [g2 _ _ (by omega) (by unfold inb; omega), f6 _ _ (by omega)]; exact a2 i x (by omega)⟩⟩
  obtain ⟨M3, e3, f3, t3⟩ := mfirst_n l2 mt2 ((g2 _ _ (by decide) (by unfold inb; omega)).trans v5)
  have g3 : ∀ a i : Int, a ≠ 167 → M3 a i = M2 a i := fun a i x => f3 a i (by omega)
  refine ⟨M3, fun R' hR => pre R' (by rw [e3, pb_1, u1_1]; exact hR), ⟨⟨LAY_ma l2 f3, MTp_ma mt2 f3, ?_, ?_, t3, hb, Nat.zero_le _, hK⟩, ⟨⟨?_, ?_, ?_, ?_, ?_⟩, fun p x y => ?_, fun p x y => ?_, fun p x y => ?_, fun p x y => ?_, ⟨fun _ => ?_, fun q => ?_⟩, ⟨fun _ => ?_, fun q => ?_⟩, fun k w x y z u => ?_⟩, fun c x y => ?_, 0, ?_, Nat.le_refl _, fun q => ?_, fun q => ?_⟩, fun a i x y z => ?_, ?_⟩
  · rw [f3 _ _ (by decide), g2 _ _ (by decide) (by unfold inb; omega)]; exact v36
  · rw [f3 _ _ (by decide), g2 _ _ (by decide) (by unfold inb; omega)]; exact v8
  · rw [g3 _ _ (by decide)]; exact c1
  · rw [g3 _ _ (by decide)]; exact c2
  · rw [g3 _ _ (by decide)]; exact c3
  · rw [g3 _ _ (by decide)]; exact c4
  · rw [g3 _ _ (by decide)]; exact c5
  · exact absurd (show p < 0 from y) (by omega)
  · exact absurd (show p < 0 from y) (by omega)
  · exact absurd (show p < 0 from y) (by omega)
  · exact absurd (show p < 0 from y) (by omega)
  · rw [g3 _ _ (by decide)]; exact c6
  · exact absurd (show (0 : Int) < 0 from q) (by decide)
  · rw [g3 _ _ (by decide)]; exact c7
  · exact absurd (show (0 : Int) < 0 from q) (by decide)
  · exact absurd (show w < 0 from u) (by omega)
  · exact absurd (show c < 0 from y) (by omega)
  · rw [f3 _ _ (by decide)]; exact c8
  · exact absurd (show (0 : Int) < 0 from q) (by decide)
  · exact absurd (show (0 : Int) < 0 from q) (by decide)
  · rw [f3 a i (by omega), g2 a i (by omega) z]; exact f6 a i (by omega)
  · rw [f3 _ _ (by decide), g2 _ _ (by decide) (by unfold inb; omega)]; exact v1
/-- a fault is told -/
theorem MR_fa {M2 : AwM} {k : Int} {p : Nat} (h : MR M s d n R mi) (l : LAY M2) (f : mso (1 - M 167 13) M2 M) (v1 : M2 167 1 = 0) (v10 : M2 167 10 = k) (v11 : M2 167 11 = (p : Int)) : MR M2 s d n R (fam mi k p) := by
  have hb01 := h.mm.b01
  have ne : ∀ a i : Int, ¬ (a = 167 ∧ (1 ≤ i ∧ i ≤ 12 ∨ i = 35 ∨ i = 36 ∨ i = 42 ∨ i = 43 ∨ i = 45 ∨ i = 46)) → ¬ (190 ≤ a ∧ a ≤ 195) → ¬ (169 ≤ a ∧ a ≤ 189) → M2 a i = M a i := fun a i x y z => f a i x y (by unfold inb; omega)
  have e13 : M2 167 13 = M 167 13 := ne _ _ (by decide) (by decide) (by decide)
  refine ⟨?_, MHi_fr h.hi h.mm.ok (ne _ _ (by decide) (by decide) (by decide)) (ne _ _ (by decide) (by decide) (by decide)) (fun i _ => ne _ _ (by omega) (by omega) (by omega)) (fun a i _ _ _ => ne _ _ (by omega) (by omega) (by omega)) (fun i _ => ne _ _ (by omega) (by omega) (by omega)), MiOK_fa h.mk, ?_⟩
  · rw [e13]
    exact ⟨l, e13, hb01, h.mm.l21, h.mm.ok, h.mm.ld, MS_o h.mm.ms h.mm.ok (b := 1 - M 167 13) (by omega) (by omega) f, ML_fr h.mm.ml h.mm.ok (ne _ _ (by omega) (by omega) (by omega)) (fun a i _ _ _ _ => ne _ _ (by omega) (by omega) (by omega)) (fun i _ _ => ne _ _ (by omega) (by omega) (by omega))⟩
  · obtain ⟨a1, a2, a3, a4, a5, a6, a7, a8, a9, a10⟩ := h.mi
    have e : fam mi k p 14 (-1) = 0 := by rw [fam_14, if_pos rfl]
    refine ⟨by rw [v1, e], fun i x y => by rw [e] at y; omega, ?_, ?_, ?_, fun i x y => ?_, ?_, fun i x y => ?_, ?_, fun i x y => ?_⟩
    · rw [v10, fam_15.1]
    · rw [v11, fam_15.2]
    · rw [ne _ _ (by decide) (by decide) (by decide), fam_a (by decide) (by decide)]; exact a5
    · rw [fam_a (by decide) (by decide)] at y ⊢; rw [ne _ _ (by omega) (by omega) (by omega)]; exact a6 i x y
    · rw [ne _ _ (by decide) (by decide) (by decide), fam_a (by decide) (by decide)]; exact a7
    · rw [fam_a (by decide) (by decide)] at y ⊢; rw [ne _ _ (by omega) (by omega) (by omega)]; exact a8 i x y
    · rw [ne _ _ (by decide) (by decide) (by decide), fam_a (by decide) (by decide)]; exact a9
    · rw [fam_a (by decide) (by decide)]; rw [ne _ _ (by omega) (by omega) (by omega)]; exact a10 i x y
/-- a society told is the society -/
theorem MR_be {M2 M3 D : AwM} {b : Int} (h : MR M s d n R mi) (hb : b = 1 - M 167 13) (l : LAY M2) (f : ∀ a i : Int, ¬ (a = 167 ∧ i = 13) → ¬ (a = 167 ∧ (1 ≤ i ∧ i ≤ 12 ∨ i = 35 ∨ i = 36 ∨ i = 42 ∨ i = 43 ∨ i = 45 ∨ i = 46)) → ¬ (190 ≤ a ∧ a ≤ 195) → ¬ inb b a i → M2 a i = M a i) (v1 : M2 167 1 = 0) (v10 : M2 167 10 = 0) (v11 : M2 167 11 = -1) (v13 : M2 167 13 = b) (hD : DOK D) (hs : MS M2 b D) (hc : ∀ c : Int, 0 ≤ c → c < D 0 1 → M2 173 (12 * b + c) = D 8 c ∧ M2 174 (12 * b + c) = D 9 c ∧ M2 175 (12 * b + c) = D 10 c) (w : M3 197 0 = 0 ∧ M3 167 54 = 0 ∧ M3 167 67 = 0) (wc : ∀ c : Int, 0 ≤ c → c < 12 → M3 198 c = M2 173 (12 * b + c) ∧ M3 199 c = M2 174 (12 * b + c) ∧ M3 200 c = M2 175 (12 * b + c)) (wm : ∀ c : Int, 0 ≤ c → c < 120 → M3 201 c = 0) (g : mgf M3 M2) : MR M3 D (beg D) 0 R (nmi mi) := by
  have hb01 := h.mm.b01
  have dc := hD.dc
  obtain ⟨q0, q1, q2⟩ := dc
  have ne : ∀ a i : Int, ¬ (a = 167 ∧ i = 13) → ¬ (a = 167 ∧ (1 ≤ i ∧ i ≤ 12 ∨ i = 35 ∨ i = 36 ∨ i = 42 ∨ i = 43 ∨ i = 45 ∨ i = 46)) → ¬ (a = 167 ∧ (i = 54 ∨ i = 67)) → ¬ (190 ≤ a ∧ a ≤ 195) → ¬ (169 ≤ a ∧ a ≤ 189) → ¬ (197 ≤ a ∧ a ≤ 201) → M3 a i = M a i := fun a i x y z u v w => by
    rw [g a i (by omega) z (by omega) (by omega)]; exact f a i x y u (by unfold inb; omega)
  have e13 : M3 167 13 = b := (g _ _ (by decide) (by decide) (by decide) (by decide)).trans v13
  refine ⟨?_, ⟨?_, w.2.1, by decide, fun j x y => absurd y (by omega)⟩, MiOK_n h.mk, ?_⟩
  · rw [e13]
    refine ⟨LAY_mgf l g, e13, by omega, by decide, hD.1, LdOK_b hD, MS_fr hs (fun a i x y => g a i (by omega) (by omega) (by omega) (by omega)), ⟨?_, fun c x y => ?_, fun c x y => ?_, fun c x y => ?_, fun c p x y z u _ => ?_⟩⟩
    · rw [beg_0]; exact w.1
    · rw [beg_1, show (12 : Int) * 0 + c = c by omega]; exact ((wc c x (by omega)).1).trans (hc c x y).1
    · rw [beg_2, show (12 : Int) * 0 + c = c by omega]; exact ((wc c x (by omega)).2.1).trans (hc c x y).2.1
    · rw [beg_3, show (12 : Int) * 0 + c = c by omega]; exact ((wc c x (by omega)).2.2).trans (hc c x y).2.2
    · rw [beg_4]; exact wm _ (by omega) (by omega)
  · rw [ne _ _ (by decide) (by decide) (by decide) (by decide) (by decide) (by decide)]; exact h.hi.1
  · obtain ⟨a1, a2, a3, a4, a5, a6, a7, a8, a9, a10⟩ := h.mi
    refine ⟨?_, fun i x y => by rw [nmi_14] at y; omega, ?_, ?_, ?_, fun i x y => by rw [nmi_16] at y; omega, ?_, fun i x y => ?_, ?_, fun i x y => ?_⟩
    · rw [nmi_14, g _ _ (by decide) (by decide) (by decide) (by decide)]; exact v1
    · rw [nmi_15.1, g _ _ (by decide) (by decide) (by decide) (by decide)]; exact v10
    · rw [nmi_15.2, g _ _ (by decide) (by decide) (by decide) (by decide)]; exact v11
    · rw [nmi_16]; exact w.2.2
    · rw [ne _ _ (by decide) (by decide) (by decide) (by decide) (by decide) (by decide), nmi_a (by decide) (by decide) (by decide)]; exact a7
    · rw [nmi_a (by decide) (by decide) (by decide)] at y ⊢; rw [ne _ _ (by omega) (by omega) (by omega) (by omega) (by omega) (by omega)]; exact a8 i x y
    · rw [ne _ _ (by decide) (by decide) (by decide) (by decide) (by decide) (by decide), nmi_a (by decide) (by decide) (by decide)]; exact a9
    · rw [nmi_a (by decide) (by decide) (by decide)]; rw [ne _ _ (by omega) (by omega) (by omega) (by omega) (by omega) (by omega)]; exact a10 i x y
end PMSC
