/-! how many bits -/
section PCNT2
theorem bc_n {sh : AwS} {M : AwM} {m : Int} (h : ms 12 m) : fJ6_bitCount_0f7a4 sh M m = some (pc m) := by
  obtain ⟨a, rfl, ha⟩ := ms_n.mp h
  have := List.all_eq_true.mp bc_all a (List.mem_range.mpr (by omega))
  exact of_decide_eq_true this
theorem lp_st {σ ρ : Type} {body : σ → Option (σ ⊕ ρ)} {n : Nat} {s : σ} {r : ρ} (h : body s = some (.inr r)) : lp body (n + 1) s = some r := by unfold lp; rw [h]
theorem lp_go {σ ρ : Type} {body : σ → Option (σ ⊕ ρ)} {n : Nat} {s s' : σ} (h : body s = some (.inl s')) : lp body (n + 1) s = lp body n s' := by rw [lp, h]
/-- a loop by a measure: each turn keeps what the result will be, or ends with it -/
theorem lp_ind {σ ρ : Type} {body : σ → Option (σ ⊕ ρ)} (P : σ → Prop) (μ : σ → Nat) (g : σ → ρ) (h : ∀ s, P s → (∃ s', body s = some (.inl s') ∧ P s' ∧ μ s' < μ s ∧ g s' = g s) ∨ body s = some (.inr (g s))) : ∀ (N : Nat) (s : σ), P s → μ s < N → lp body N s = some (g s) := by
  intro N
  induction N with
  | zero => intro s _ hm; omega
  | succ n ih =>
    intro s hP hm
    rcases h s hP with ⟨s', h1, h2, h3, h4⟩ | h1
    · rw [lp_go h1, ih s' h2 (by omega), h4]
    · rw [lp_st h1]
/-- .. with a result that is only known by a property -/
theorem lp_inv {σ ρ : Type} {body : σ → Option (σ ⊕ ρ)} (P : σ → Prop) (μ : σ → Nat) (X : ρ → Prop) (h : ∀ s, P s → (∃ s', body s = some (.inl s') ∧ P s' ∧ μ s' < μ s) ∨ (∃ r, body s = some (.inr r) ∧ X r)) : ∀ (N : Nat) (s : σ), P s → μ s < N → ∃ r, lp body N s = some r ∧ X r := by
  intro N
  induction N with
  | zero => intro s _ hm; omega
  | succ n ih =>
    intro s hP hm
    rcases h s hP with ⟨s', h1, h2, h3⟩ | ⟨r, h1, h2⟩
    · rw [lp_go h1]; exact ih s' h2 (by omega)
    · exact ⟨r, lp_st h1, h2⟩
/-- a loop that counts: the state after i turns is st i -/
theorem lp_cnt {σ ρ : Type} {body : σ → Option (σ ⊕ ρ)} (st : Nat → σ) (r : ρ) (n : Nat) (hs : ∀ i, i < n → body (st i) = some (.inl (st (i + 1)))) (he : body (st n) = some (.inr r)) : ∀ N, n < N → lp body N (st 0) = some r := by
  have key : ∀ k, ∀ N, k ≤ n → n - k < N → lp body N (st k) = some r := by
    intro k N hk hN
    induction N generalizing k with
    | zero => omega
    | succ m ih =>
      by_cases hkn : k = n
      · subst hkn; exact lp_st he
      · rw [lp_go (hs k (by omega))]
        exact ih (k + 1) (by omega) (by omega)
  intro N hN
  exact key 0 N (Nat.zero_le _) (by omega)
theorem FU_gt {n : Nat} (h : n < 100000) : n < FU := h
end PCNT2
