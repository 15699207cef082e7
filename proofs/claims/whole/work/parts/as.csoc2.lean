/-! the class's society, told -/
section PCS9
variable {T : Int → Int} {L K : Nat} {M s d : AwM} {n : Int} {R : Int → AwM} {mi : AwM}
theorem CS_cd {M1 D : AwM} {so : Int} {j : Nat} (hc : CD T L K M1 so D (nD D) j) : CS M1 so D := by
  obtain ⟨_, ⟨b1, b2, b3, b4, b5⟩, c1, c2, c3, c4, ⟨d1, d2⟩, ⟨e1, e2⟩⟩ := hc
  exact ⟨⟨b1, b2, b3, b4, b5⟩, c1, fun c x y => (c2 c x y).1, fun g x y => (c3 g x y).1, fun g x y => (c3 g x y).2, c4, ⟨d1, fun i x y => by have := d2 i x y; rwa [Int.add_assoc] at this⟩, ⟨e1, fun i x y => by have := e2 i x y; rwa [Int.add_assoc] at this⟩⟩
/-- the last steps, from the memory behind the telling -/
theorem csuc_n {M1 D : AwM} {j : Nat} (h : CR M s d n R mi) (hD : DOK D) (hc : CD T L K M1 (147 - M 1 3) D (nD D) j) (f : tlf (147 - M 1 3) M1 M) {v : Int} : ∃ M2, (gd_ (kd_ SH (up_ M1 1 1 0 1 2) = (0, 6)) (pb (fX6_exchange SH (up_ M1 1 1 0) (up_ M1 1 1 0 1 2) (up_ M1 1 1 0 1 3)) <| u2 fun (x11 : Int) (M12 : AwM) => (bd_ (up_ M12 1 3 x11) fun (M13 : AwM) => (gd_ (kd_ SH (M13 1 4) = (0, 0)) (pb (fX0_begin SH M13 (M13 1 4) (M13 1 3)) <| u1 fun (M17 : AwM) => (gd_ (kd_ SH (M17 1 5) = (0, 0)) (pb (fX0_begin SH M17 (M17 1 5) (M17 1 3)) <| u1 fun (M20 : AwM) => (gd_ (kd_ SH (M20 1 6) = (0, 2)) (pb (fX2_clear SH M20 (M20 1 6)) <| u1 fun (M23 : AwM) => (bd_ (up_ M23 1 10 0) fun (M24 : AwM) => (some (v, M24)))))))))))) = some (v, M2) ∧ CR M2 D (beg D) 0 R (nmi mi) ∧ hif M2 M := by
  have hso := h.cc.hso
  generalize e0 : M 1 3 = so0 at *
  have hso1 : 147 - so0 = 10 ∨ 147 - so0 = 137 := by omega
  have hl : ∀ {W W' : AwM}, LAY W → (∀ a i : Int, ¬ (a = 1 ∧ (i = 1 ∨ i = 3 ∨ i = 10)) → ¬ (a = 3 ∧ (i = 1 ∨ i = 2)) → ¬ (a = 26 ∧ i = 2) → W' a i = W a i) → LAY W' := fun l g => LAY_fq l (fun q hq => by
    have h0 : layT.all (fun q => decide (¬ (q.1 = 1 ∧ (q.2.1 = 1 ∨ q.2.1 = 3 ∨ q.2.1 = 10)) ∧ ¬ (q.1 = 3 ∧ (q.2.1 = 1 ∨ q.2.1 = 2)) ∧ ¬ (q.1 = 26 ∧ q.2.1 = 2))) = true := by decide +kernel
    have t := of_decide_eq_true (List.all_eq_true.mp h0 q hq)
    exact g _ _ t.1 t.2.1 t.2.2)
  have l6 : LAY (up_ M1 1 1 0) := hl hc.lay (fun a i x y z => up_nn (by omega))
  have e13 : up_ M1 1 1 0 1 3 = so0 := by rw [up_oi (by decide), f _ _ (by omega) (by omega) (by omega) (by omega)]; exact e0
  have e31 : up_ M1 1 1 0 3 1 = 147 - so0 := by rw [up_of (by decide)]; exact hc.so'
  have l12 : LAY (up_ (up_ (up_ M1 1 1 0) 3 1 so0) 3 2 (so0 + 10)) := hl l6 (fun a i x y z => by rw [up_nn (by omega), up_nn (by omega)])
  have l13 : LAY (up_ (up_ (up_ (up_ M1 1 1 0) 3 1 so0) 3 2 (so0 + 10)) 1 3 (147 - so0)) := hl l12 (fun a i x y z => up_nn (by omega))
  have l6' : LAY (up_ (up_ M1 1 1 0) 3 1 so0) := hl l6 (fun a i x y z => up_nn (by omega))
  have v13 : up_ (up_ (up_ (up_ M1 1 1 0) 3 1 so0) 3 2 (so0 + 10)) 1 3 (147 - so0) 1 3 = 147 - so0 := up_at
  have v31 : up_ (up_ (up_ (up_ M1 1 1 0) 3 1 so0) 3 2 (so0 + 10)) 1 3 (147 - so0) 3 1 = so0 := by rw [up_of (by decide), up_oi (by decide), up_at]
  have v11 : up_ (up_ (up_ (up_ M1 1 1 0) 3 1 so0) 3 2 (so0 + 10)) 1 3 (147 - so0) 1 1 = 0 := by rw [up_oi (by decide), up_of (by decide), up_of (by decide), up_at]
  have g13 : ∀ a i : Int, ¬ (a = 1 ∧ (i = 1 ∨ i = 3)) → ¬ (a = 3 ∧ (i = 1 ∨ i = 2)) → up_ (up_ (up_ (up_ M1 1 1 0) 3 1 so0) 3 2 (so0 + 10)) 1 3 (147 - so0) a i = M1 a i := fun a i x y => by rw [up_nn (by omega), up_nn (by omega), up_nn (by omega), up_nn (by omega)]
  have pre : ∀ R', (pb (fX0_begin SH (up_ (up_ (up_ (up_ M1 1 1 0) 3 1 so0) 3 2 (so0 + 10)) 1 3 (147 - so0)) 153 (147 - so0)) <| u1 fun (M17 : AwM) => (gd_ (kd_ SH (M17 1 5) = (0, 0)) (pb (fX0_begin SH M17 (M17 1 5) (M17 1 3)) <| u1 fun (M20 : AwM) => (gd_ (kd_ SH (M20 1 6) = (0, 2)) (pb (fX2_clear SH M20 (M20 1 6)) <| u1 fun (M23 : AwM) => (bd_ (up_ M23 1 10 0) fun (M24 : AwM) => (some (v, M24)))))))) = R' → (gd_ (kd_ SH (up_ M1 1 1 0 1 2) = (0, 6)) (pb (fX6_exchange SH (up_ M1 1 1 0) (up_ M1 1 1 0 1 2) (up_ M1 1 1 0 1 3)) <| u2 fun (x11 : Int) (M12 : AwM) => (bd_ (up_ M12 1 3 x11) fun (M13 : AwM) => (gd_ (kd_ SH (M13 1 4) = (0, 0)) (pb (fX0_begin SH M13 (M13 1 4) (M13 1 3)) <| u1 fun (M17 : AwM) => (gd_ (kd_ SH (M17 1 5) = (0, 0)) (pb (fX0_begin SH M17 (M17 1 5) (M17 1 3)) <| u1 fun (M20 : AwM) => (gd_ (kd_ SH (M20 1 6) = (0, 2)) (pb (fX2_clear SH M20 (M20 1 6)) <| u1 fun (M23 : AwM) => (bd_ (up_ M23 1 10 0) fun (M24 : AwM) => (some (v, M24)))))))))))) = R' := fun R' hR => by
    unfold fX6_exchange
    rw [ly1_2 l6, kd3, gd_t rfl, e13, gd_t rfl, bd_1, kso0 hso, gd_t rfl, lso0_9 l6' hso, bd_1, pb_1, u2_1, e31, bd_1, ly1_4 l13, kd153, gd_t rfl, v13]
    exact hR
  generalize up_ (up_ (up_ (up_ M1 1 1 0) 3 1 so0) 3 2 (so0 + 10)) 1 3 (147 - so0) = M13 at *
  obtain ⟨M17, e17, p1, p2, p3, p4⟩ := cbeg_n l13 (Or.inl rfl) hso1
  have l17 := LAY_bg (Or.inl rfl) l13 p4
  obtain ⟨M20, e20, q1, q2, q3, q4⟩ := cbeg_n l17 (Or.inr rfl) hso1
  have l20 := LAY_bg (Or.inr rfl) l17 q4
  have g20 : ∀ a i : Int, ¬ (153 ≤ a ∧ a ≤ 158) → ¬ (160 ≤ a ∧ a ≤ 165) → M20 a i = M13 a i := fun a i x y => by
    rw [q4 a i (by omega) (by omega) (by omega), p4 a i (by omega) (by omega) (by omega)]
  have t : ∀ a i : Int, ¬ (a = 1 ∧ (i = 1 ∨ i = 3 ∨ i = 10)) → ¬ (a = 3 ∧ (i = 1 ∨ i = 2)) → ¬ (a = 26 ∧ i = 2) → ¬ (153 ≤ a ∧ a ≤ 158) → ¬ (160 ≤ a ∧ a ≤ 165) → up_ (up_ M20 26 2 0) 1 10 0 a i = M1 a i := fun a i x y z w u => by
    rw [up_nn (by omega), up_nn (by omega), g20 a i w u, g13 a i (by omega) y]
  have tc : ∀ a i : Int, (154 ≤ a ∧ a ≤ 158) → up_ (up_ M20 26 2 0) 1 10 0 a i = M17 a i := fun a i x => by
    rw [up_of (by omega), up_of (by omega), q4 a i (by omega) (by omega) (by omega)]
  have l24 : LAY (up_ (up_ M20 26 2 0) 1 10 0) := hl l20 (fun a i x y z => by rw [up_nn (by omega), up_nn (by omega)])
  have w13 : up_ (up_ M20 26 2 0) 1 10 0 1 3 = 147 - so0 := by rw [up_oi (by decide), up_of (by decide), g20 _ _ (by decide) (by decide)]; exact v13
  have m17 : M17 1 3 = 147 - so0 := by rw [p4 _ _ (by decide) (by decide) (by decide)]; exact v13
  have cs := CS_cd hc
  obtain ⟨⟨a1, a2, a3, a4, a5, a6⟩, ⟨b1, b2, b3, b4, b5⟩, c1, c2, c3, c4, ⟨d1, d2⟩, ⟨e1, e2⟩⟩ := hc
  have hm : ∀ a i : Int, ¬ (4 ≤ a ∧ a ≤ 9) → ¬ (a = 3 ∧ 2 ≤ i ∧ i ≤ 5) → ¬ (147 - so0 ≤ a ∧ a ≤ 147 - so0 + 15) → M1 a i = M a i := fun a i x y z => f a i (by omega) (by omega) y z
  have d1' := hD.dc.2.1
  refine ⟨up_ (up_ M20 26 2 0) 1 10 0, pre _ ?_, ⟨?_, ?_, ?_, own_fr h.ow (fun i => ?_), ?_, MiOK_n h.mk, ?_⟩, fun a i x => by rw [t a i (by omega) (by omega) (by omega) (by omega) (by omega), hm a i (by omega) (by omega) (by omega)]⟩
  · rw [e17, pb_1, u1_1, ly1_5 l17, kd160, gd_t rfl, m17, e20, pb_1, u1_1, ly1_6 l20, kd26, gd_t rfl]
    unfold fX2_clear
    rw [kd26, gd_t rfl, bd_1, pb_1, u1_1, bd_1]
  · rw [w13]
    refine ⟨l24, Or.inl rfl, hso1, ?_, hD.1, LdOK_b hD, CS_fr cs (fun a i x y z => t a i (by omega) (by omega) (by omega) (by omega) (by omega)), ⟨?_, fun c x y => ?_, fun c x y => ?_, fun c x y => ?_, fun c p x y z u _ => ?_⟩⟩
    · rw [up_of (by decide), up_of (by decide), q4 _ _ (by decide) (by decide) (by decide)]; exact p1
    · rw [tc _ _ (by decide)]; exact p2
    · rw [tc _ _ (by decide), beg_1]
      have := (p3 c x (by omega)).1.1
      rw [g13 _ _ (by omega) (by omega)] at this
      exact this.trans (c2 c x y).2.1
    · rw [tc _ _ (by decide), beg_2]
      have := (p3 c x (by omega)).1.2.1
      rw [g13 _ _ (by omega) (by omega)] at this
      exact this.trans (c2 c x y).2.2.1
    · rw [tc _ _ (by decide), beg_3]
      have := (p3 c x (by omega)).1.2.2
      rw [g13 _ _ (by omega) (by omega)] at this
      exact this.trans (c2 c x y).2.2.2
    · rw [tc _ _ (by decide), beg_4]
      exact (p3 c x (by omega)).2 p z (by have := hD.dc.1; omega)
  · rw [w13, up_of (by decide), up_of (by decide)]; exact q1
  · rw [w13, up_of (by decide), up_of (by decide), g20 _ _ (by decide) (by decide), v31]; omega
  · rw [t _ _ (by omega) (by omega) (by omega) (by omega) (by omega)]; exact f 5 i (by omega) (by omega) (by omega) (by omega)
  · obtain ⟨x1, x2, x3, x4⟩ := h.hi
    refine ⟨?_, by rw [up_of (by decide), up_at], by decide, fun j x y => by omega⟩
    rw [t _ _ (by omega) (by omega) (by omega) (by omega) (by omega), hm _ _ (by omega) (by omega) (by omega)]; exact x1
  · obtain ⟨x1, x2, x3, x4, x5, x6, x7, x8, x9, x10⟩ := h.mi
    refine ⟨?_, fun i x y => by rw [nmi_14] at y; omega, ?_, ?_, by rw [up_at, nmi_16], fun i x y => by rw [nmi_16] at y; omega, ?_, fun i x y => ?_, ?_, fun i x y => ?_⟩
    · rw [up_oi (by decide), up_of (by decide), g20 _ _ (by decide) (by decide), nmi_14]; exact v11
    · rw [t _ _ (by omega) (by omega) (by omega) (by omega) (by omega), nmi_15.1]; exact a5.2.1
    · rw [t _ _ (by omega) (by omega) (by omega) (by omega) (by omega), nmi_15.2]; exact a5.2.2
    · rw [t _ _ (by omega) (by omega) (by omega) (by omega) (by omega), hm _ _ (by omega) (by omega) (by omega), nmi_a (by decide) (by decide) (by decide)]; exact x7
    · rw [nmi_a (by decide) (by decide) (by decide)] at y ⊢
      rw [t _ _ (by omega) (by omega) (by omega) (by omega) (by omega), hm _ _ (by omega) (by omega) (by omega)]; exact x8 i x y
    · rw [t _ _ (by omega) (by omega) (by omega) (by omega) (by omega), hm _ _ (by omega) (by omega) (by omega), nmi_a (by decide) (by decide) (by decide)]; exact x9
    · rw [t _ _ (by omega) (by omega) (by omega) (by omega) (by omega), hm _ _ (by omega) (by omega) (by omega), nmi_a (by decide) (by decide) (by decide)]; exact x10 i x y
end PCS9
