/-! the ledger of a new society -/
section PBEG
variable {D : AwM} {mi : AwM}
def beg (D : AwM) : AwM := fun a i => if a = 1 then D 8 i else if a = 2 then D 9 i else if a = 3 then D 10 i else 0
theorem beg_1 {i : Int} : beg D 1 i = D 8 i := rfl
theorem beg_2 {i : Int} : beg D 2 i = D 9 i := rfl
theorem beg_3 {i : Int} : beg D 3 i = D 10 i := rfl
theorem beg_0 {i : Int} : beg D 0 i = 0 := rfl
theorem beg_4 {i : Int} : beg D 4 i = 0 := rfl
theorem LdOK_b (h : DOK D) : LdOK D (beg D) := by
  obtain ⟨ok, st, kh, ks⟩ := h
  refine ⟨by rw [beg_0]; decide, fun c x y => ?_, fun c x y => ?_, fun c x y => ?_, fun c x y => ?_, fun c p x y => ?_, fun c p x y z u _ => ?_⟩
  · rw [beg_1]; exact (st c x y).1
  · rw [beg_2]; exact (st c x y).2.1
  · rw [beg_3]; exact (st c x y).2.2
  · rw [beg_2, beg_1]; exact kh c x y
  · rw [beg_2, beg_3]; exact ks c p x y
  · rw [beg_4]; decide
/-- what is left of the rest when a society has been told -/
def nmi (mi : AwM) : AwM := up_ (fam mi 0 (-1)) 16 (-1) 0
theorem nmi_a {a i : Int} (h : a ≠ 14) (h' : a ≠ 15) (h6 : a ≠ 16) : nmi mi a i = mi a i := by unfold nmi; rw [up_of h6, fam_a h h']
theorem nmi_16 : nmi mi 16 (-1) = 0 := up_at
theorem nmi_14 : nmi mi 14 (-1) = 0 := by unfold nmi; rw [up_of (by decide), fam_14, if_pos rfl]
theorem nmi_15 : nmi mi 15 0 = 0 ∧ nmi mi 15 1 = -1 := ⟨by unfold nmi; rw [up_of (by decide), fam_15.1], by unfold nmi; rw [up_of (by decide), fam_15.2]⟩
theorem MiOK_n (h : MiOK mi) : MiOK (nmi mi) := by
  obtain ⟨a1, a2, a3, a4, a5⟩ := h
  refine ⟨by rw [nmi_14]; decide, fun i x y => by rw [nmi_14] at y; omega, by rw [nmi_16]; decide, by rw [nmi_a (by decide) (by decide) (by decide)]; exact a4, by rw [nmi_a (by decide) (by decide) (by decide)]; exact a5⟩
end PBEG
