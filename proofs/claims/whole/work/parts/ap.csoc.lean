/-! the class's society: a fault -/
section PCSO
variable {T : Int → Int} {L K : Nat} {M s d : AwM} {n : Int} {R : Int → AwM} {mi : AwM}
theorem own_l : (List.range 23).all (fun (k : Nat) => decide ((5, (k : Int), own5f (k : Int)) ∈ ownT)) = true := by decide +kernel
theorem OWN_h (h : holdsT ownT M) : OWN M := fun k k0 k1 => by
  have t := of_decide_eq_true (List.all_eq_true.mp own_l k.toNat (List.mem_range.mpr (by omega)))
  rw [show ((k.toNat : Nat) : Int) = k by omega] at t
  exact h _ t
def fam (mi : AwM) (k p : Int) : AwM := up_ (up_ (up_ mi 14 (-1) 0) 15 0 k) 15 1 p
theorem fam_a {k p a i : Int} (h : a ≠ 14) (h' : a ≠ 15) : fam mi k p a i = mi a i := by unfold fam; rw [up_of h', up_of h', up_of h]
theorem fam_14 {k p i : Int} : fam mi k p 14 i = if i = -1 then 0 else mi 14 i := by
  unfold fam; rw [up_of (by decide), up_of (by decide)]
  by_cases q : i = -1
  · rw [if_pos q, q, up_at]
  · rw [if_neg q, up_oi q]
theorem fam_15 {k p : Int} : fam mi k p 15 0 = k ∧ fam mi k p 15 1 = p := ⟨by unfold fam; rw [up_oi (by decide), up_at], up_at⟩
theorem MiOK_fa {k p : Int} (h : MiOK mi) : MiOK (fam mi k p) := by
  obtain ⟨a1, a2, a3, a4, a5⟩ := h
  have e : fam mi k p 14 (-1) = 0 := by rw [fam_14, if_pos rfl]
  refine ⟨by rw [e]; decide, fun i x y => by rw [e] at y; omega, by rw [fam_a (by decide) (by decide)]; exact a3, by rw [fam_a (by decide) (by decide)]; exact a4, by rw [fam_a (by decide) (by decide)]; exact a5⟩
theorem CR_fa {M1 : AwM} {k : Int} {p : Nat} (h : CR M s d n R mi) (l : LAY M1) (f : tlf (147 - M 1 3) M1 M) (b1 : M1 3 4 = k) (b2 : M1 3 5 = (p : Int)) : CR (up_ M1 1 1 0) s d n R (fam mi k p) ∧ hif (up_ M1 1 1 0) M := by
  have hso := h.cc.hso
  have ne : ∀ a i : Int, ¬ (4 ≤ a ∧ a ≤ 9) → ¬ (a = 3 ∧ 2 ≤ i ∧ i ≤ 5) → ¬ (147 - M 1 3 ≤ a ∧ a ≤ 147 - M 1 3 + 15) → ¬ (a = 1 ∧ i = 1) → up_ M1 1 1 0 a i = M a i := fun a i x y z w => by
    rw [up_nn w, f a i (by omega) (by omega) y z]
  have hl : LAY (up_ M1 1 1 0) := LAY_fq l (fun q hq => by
    have h0 : layT.all (fun q => decide (¬ (q.1 = 1 ∧ q.2.1 = 1))) = true := by decide +kernel
    have := of_decide_eq_true (List.all_eq_true.mp h0 q hq)
    exact up_nn this)
  have e3 : up_ M1 1 1 0 1 3 = M 1 3 := ne _ _ (by omega) (by omega) (by omega) (by omega)
  refine ⟨⟨?_, ?_, ?_, own_fr h.ow (fun i => by rw [up_of (by decide)]; exact f 5 i (by omega) (by omega) (by omega) (by omega)), CHi_fr h.hi (fun i _ => ne _ _ (by omega) (by omega) (by omega) (by omega)) (fun a i _ _ => ne _ _ (by omega) (by omega) (by omega) (by omega)), MiOK_fa h.mk, ?_⟩, fun a i x => ne a i (by omega) (by omega) (by omega) (by omega)⟩
  · rw [e3]; exact CC_fr h.cc hl (ne _ _ (by omega) (by omega) (by omega) (by omega)) (fun a i _ _ _ => ne a i (by omega) (by omega) (by omega) (by omega)) (fun a i _ _ => ne a i (by omega) (by omega) (by omega) (by omega))
  · rw [e3, ne _ _ (by omega) (by omega) (by omega) (by omega)]; exact h.tr
  · rw [e3, ne _ _ (by omega) (by omega) (by omega) (by omega)]; exact h.dr
  · obtain ⟨a1, a2, a3, a4, a5, a6, a7, a8, a9, a10⟩ := h.mi
    have e : fam mi k p 14 (-1) = 0 := by rw [fam_14, if_pos rfl]
    refine ⟨by rw [up_at, e], fun i x y => by rw [e] at y; omega, ?_, ?_, ?_, fun i x y => ?_, ?_, fun i x y => ?_, ?_, fun i x y => ?_⟩
    · rw [up_of (by decide), b1, fam_15.1]
    · rw [up_of (by decide), b2, fam_15.2]
    · rw [ne _ _ (by omega) (by omega) (by omega) (by omega), fam_a (by decide) (by decide)]; exact a5
    · rw [fam_a (by decide) (by decide)] at y ⊢; rw [ne _ _ (by omega) (by omega) (by omega) (by omega)]; exact a6 i x y
    · rw [ne _ _ (by omega) (by omega) (by omega) (by omega), fam_a (by decide) (by decide)]; exact a7
    · rw [fam_a (by decide) (by decide)] at y ⊢; rw [ne _ _ (by omega) (by omega) (by omega) (by omega)]; exact a8 i x y
    · rw [ne _ _ (by omega) (by omega) (by omega) (by omega), fam_a (by decide) (by decide)]; exact a9
    · rw [ne _ _ (by omega) (by omega) (by omega) (by omega), fam_a (by decide) (by decide)]; exact a10 i x y
end PCSO
