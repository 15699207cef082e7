/-! both find the same node -/
section PSAM
theorem nh_payt {l : List (Int × Int × Int × Int)} {w m p : Int} (h : NH l p) : ∀ t : Nat, (t : Int) ≤ p → NH (payQ l w m t) p
  | 0, _ => h
  | t + 1, ht => by
    unfold payQ
    by_cases c : ¬ (t : Int) = w ∧ hb m (t : Int) = true
    · rw [if_pos c]
      exact nh_rch (nh_payt h t (by omega)) (show (t : Int) ≠ p by omega)
    · rw [if_neg c]; exact nh_payt h t (by omega)
theorem pf_payt (l : List (Int × Int × Int × Int)) (w m : Int) {a : Nat} : ∀ t : Nat, a ≤ t → payQ l w m a <+: payQ l w m t
  | 0, h => by rw [show a = 0 by omega]; exact pf_rf _
  | t + 1, h => by
    by_cases e : a = t + 1
    · rw [e]; exact pf_rf _
    · have ih := pf_payt l w m (a := a) t (by omega)
      have st : payQ l w m t <+: payQ l w m (t + 1) := by
        show _ <+: (if ¬ (t : Int) = w ∧ hb m (t : Int) = true then rchQ (payQ l w m t) ((t : Int), m, w, (t : Int)) else payQ l w m t)
        by_cases c : ¬ (t : Int) = w ∧ hb m (t : Int) = true
        · rw [if_pos c]; exact pf_rch _ _
        · rw [if_neg c]; exact pf_rf _
      exact pf_tr ih st
theorem same_f {s d : AwM} {c p : Int} (h0 : d 1 c ≠ p) (p0 : 0 ≤ p) (p1 : p < s 0 0) {j : Nat} {y : Int × Int × Int × Int} (fd : FD s d c p j y) {j' : Nat} (pr : PR s d c p j') (hr : (rnQ s d c j').length ≤ j' ∨ ∃ y', (rnQ s d c j')[j']? = some y' ∧ y'.1 = p) : (rnQ s d c j')[j']? = some (p, y.2.1, y.1, p) ∧ rchQ (rnQ s d c j) (p, y.2.1, y.1, p) = rnQ s d c j ++ [(p, y.2.1, y.1, p)] := by
  obtain ⟨hy, hh, pc'⟩ := fd
  have nh := nh_run h0 j pc'
  have yw : y.1 ≠ p := nh y (List.mem_of_getElem? hy)
  obtain ⟨t, rfl⟩ := Int.eq_ofNat_of_zero_le p0
  have nA := nh_payt (w := y.1) (m := y.2.1) nh t (Int.le_refl _)
  have notin : ∀ l : List (Int × Int × Int × Int), NH l (t : Int) → inQ l (t : Int) y.2.1 = false := fun l hl => by
    cases q : inQ l (t : Int) y.2.1
    · rfl
    · obtain ⟨z, zm, z1, _⟩ := inQ_t.mp q
      exact absurd z1 (hl z zm)
  have stp : payQ (rnQ s d c j) y.1 y.2.1 (t + 1) = payQ (rnQ s d c j) y.1 y.2.1 t ++ [((t : Int), y.2.1, y.1, (t : Int))] := by
    have e1 : payQ (rnQ s d c j) y.1 y.2.1 (t + 1) = rchQ (payQ (rnQ s d c j) y.1 y.2.1 t) ((t : Int), y.2.1, y.1, (t : Int)) := if_pos ⟨fun z => yw z.symm, hh⟩
    have e2 := notin _ nA
    rw [e1]
    unfold rchQ
    rw [if_neg (by rw [e2]; decide)]
  refine ⟨?_, ?_⟩
  · have pfA := pf_pay (rnQ s d c j) y.1 y.2.1 t
    have big : payQ (rnQ s d c j) y.1 y.2.1 t ++ [((t : Int), y.2.1, y.1, (t : Int))] <+: rnQ s d c (j + 1) := by
      rw [rnQ_s hy, ← stp]
      exact pf_tr (pf_payt _ _ _ (s 0 0).toNat (by omega)) (pf_pre _ _ _ _ _ _ _)
    generalize payQ (rnQ s d c j) y.1 y.2.1 t = A at *
    have jl : j < (rnQ s d c j).length := (List.getElem?_eq_some_iff.mp hy).1
    have lA : (rnQ s d c j).length ≤ A.length := pfA.length_le
    have lB : A.length < (rnQ s d c (j + 1)).length := by
      have := big.length_le
      rw [List.length_append] at this
      simp at this
      omega
    have atA : ∀ k : Nat, j + 1 ≤ k → (rnQ s d c k)[A.length]? = some ((t : Int), y.2.1, y.1, (t : Int)) := fun k hk => by
      refine pf_at (pf_le s d c k hk) (pf_at big ?_)
      rw [List.getElem?_append_right (Nat.le_refl _)]
      simp
    have inl : ∀ i : Nat, i ≤ j → i < (rnQ s d c i).length := fun i hi => by
      by_cases e : i = j
      · rw [e]; exact jl
      · obtain ⟨z, hz', _⟩ := pc' i (by omega)
        exact (List.getElem?_eq_some_iff.mp hz').1
    have ja : j' = A.length := by
      refine Classical.byContradiction fun ne => ?_
      by_cases lt : j' < A.length
      · by_cases le : j' ≤ j
        · rcases hr with h | ⟨y', e, ep⟩
          · have := inl j' le; omega
          · have := pf_at (pf_le s d c j le) e
            exact nh y' (List.mem_of_getElem? this) ep
        · rcases hr with h | ⟨y', e, ep⟩
          · have := (pf_le s d c j' (show j + 1 ≤ j' by omega)).length_le
            omega
          · have a1 : A[j']? = some A[j'] := List.getElem?_eq_getElem lt
            have a2 : (rnQ s d c j')[j']? = some A[j'] := pf_at (pf_le s d c j' (by omega)) (pf_at big (by rw [List.getElem?_append_left lt]; exact a1))
            rw [a2] at e
            have e' : A[j'] = y' := Option.some.inj e
            exact nA y' (by rw [← e']; exact List.getElem_mem lt) ep
      · obtain ⟨z, hz', zp⟩ := pr A.length (by omega)
        rw [atA A.length (by omega)] at hz'
        have e' := Option.some.inj hz'
        rw [← e'] at zp
        exact zp rfl
    rw [ja]
    exact atA _ (by omega)
  · unfold rchQ
    have e2 := notin _ nh
    rw [if_neg (by rw [e2]; decide)]
end PSAM
