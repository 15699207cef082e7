/-! neither finds any -/
section PNON
theorem rnQ_end {s d : AwM} {c : Int} {j : Nat} (hl : (rnQ s d c j).length ≤ j) : ∀ n : Nat, rnQ s d c (j + n) = rnQ s d c j
  | 0 => rfl
  | n + 1 => by
    have ih := rnQ_end hl n
    have e : (rnQ s d c (j + n))[j + n]? = none := by
      rw [ih]
      exact List.getElem?_eq_none (by omega)
    show (match (rnQ s d c (j + n))[j + n]? with
      | none => rnQ s d c (j + n)
      | some x => goQ (rnQ s d c (j + n)) s d c x.1 x.2.1) = _
    rw [e]
    exact ih
theorem none_f {s d : AwM} {c p : Int} (h0 : d 1 c ≠ p) {j : Nat} (h : PC s d c p j) (hl : (rnQ s d c j).length ≤ j) (k : Nat) : NH (rnQ s d c k) p := by
  have nh := nh_run h0 j h
  by_cases e : k ≤ j
  · intro x hx
    obtain ⟨t, ht⟩ := pf_le s d c j e
    exact nh x (by rw [← ht]; exact List.mem_append.mpr (Or.inl hx))
  · rw [show k = j + (k - j) by omega, rnQ_end hl]
    exact nh
/-- the owner himself: the model finds the start -/
theorem own_f {s d : AwM} {c p : Int} (h0 : d 1 c = p) {j' : Nat} (pr : PR s d c p j') (hr : (rnQ s d c j').length ≤ j' ∨ ∃ y', (rnQ s d c j')[j']? = some y' ∧ y'.1 = p) : j' = 0 ∧ (rnQ s d c 0)[0]? = some (stQ d c) := by
  have z : (rnQ s d c 0)[0]? = some (stQ d c) := rfl
  refine ⟨?_, z⟩
  refine Classical.byContradiction fun ne => ?_
  obtain ⟨y, hy, hp⟩ := pr 0 (by omega)
  rw [z] at hy
  have e := Option.some.inj hy
  rw [← e] at hp
  exact hp h0
end PNON
