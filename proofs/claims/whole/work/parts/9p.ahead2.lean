/-! the model reads a token: numbers, and all together -/
section PAH2
theorem m263d {M : AwM} {T : Int → Int} {s j : Nat} (hl : LAY M) (h6 : M 167 6 = numV T (s : Int) (min j 4)) (ll : ∀ q : Int, (s : Int) ≤ q → q < (s : Int) + ((j + 1 : Nat) : Int) → 48 ≤ T q ∧ T q ≤ 57) (et : M 168 ((s + j : Nat) : Int) = T ((s + j : Nat) : Int)) (hs : s + j < 1600) : ∃ M', fX9_ahead_J263_204 SH M 167 ((s + j : Nat) : Int) 0 1 4 (j : Int) = some (.inl (((s + (j + 1) : Nat) : Int), ((j + 1 : Nat) : Int), M')) ∧ M' 167 6 = numV T (s : Int) (min (j + 1) 4) ∧ ∀ a i : Int, ¬ (a = 167 ∧ i = 6) → M' a i = M a i := by
  have w1 : w32 (((s + j : Nat) : Int) + 1) = ((s + (j + 1) : Nat) : Int) := by rw [w32_s (by omega) (by omega)]; omega
  have w2 : w32 ((j : Int) + 1) = ((j + 1 : Nat) : Int) := by rw [w32_s (by omega) (by omega)]; omega
  have k263 : fX9_ahead_J263_204 SH M 167 ((s + j : Nat) : Int) 0 1 4 (j : Int) = fX9_ahead_J293_204 SH M 167 ((s + j : Nat) : Int) 0 1 4 (j : Int) := by
    unfold fX9_ahead_J263_204
    by_cases z : (j : Int) < 8
    · rw [if_pos z, if_pos (show (0 : Int) = 0 from rfl)]
    · rw [if_neg z]
  rw [k263]
  unfold fX9_ahead_J293_204
  rw [w1, w2]
  by_cases z4 : (j : Int) < 4
  · have nb := numV_b (T := T) (i := (s : Int)) j (by omega) (fun q x y => ll q x (by omega))
    have p4 : (10 : Int) ^ j ≤ 1000 := by
      rcases (show j = 0 ∨ j = 1 ∨ j = 2 ∨ j = 3 by omega) with q | q | q | q <;> rw [q] <;> decide
    have lb := ll ((s + j : Nat) : Int) (by omega) (by omega)
    rw [show min j 4 = j by omega] at h6
    rw [if_pos z4, if_neg (show ¬ (1 : Int) = 0 by decide), kd167, gd_t rfl, ly167_0 hl, kd168, ga_t (by omega) (by omega), h6, et, w32_s (v := 10 * numV T (s : Int) j) (by omega) (by omega), w32_s (v := 10 * numV T (s : Int) j + T ((s + j : Nat) : Int)) (by omega) (by omega), w32_s (v := 10 * numV T (s : Int) j + T ((s + j : Nat) : Int) - 48) (by omega) (by omega), bd_1]
    refine ⟨_, rfl, ?_, fun a i p => up_nn p⟩
    rw [up_at, show min (j + 1) 4 = j + 1 by omega, show ((s + j : Nat) : Int) = (s : Int) + (j : Int) by omega]
    rfl
  · rw [if_neg z4]
    exact ⟨M, rfl, by rw [show min (j + 1) 4 = min j 4 by omega]; exact h6, fun _ _ _ => rfl⟩
/-- the loop over a number -/
theorem mdl_n {M : AwM} {T : Int → Int} {L s : Nat} {l0 : Int} (hl : LAY M) (hT : MTp M T L) (hs : s < L) (h6 : M 167 6 = 0) (h12 : M 167 12 = l0) (hl0 : l0 = -1 ∨ l0 = (s : Int)) : ∃ M', lp (u3 (fX9_ahead_L204 SH 167 0 1 4)) FU ((s : Int), 0, M) = some (((rnE isD T L s : Nat) : Int), ((rnE isD T L s - s : Nat) : Int), M') ∧ M' 167 6 = numV T (s : Int) (min (rnE isD T L s - s) 4) ∧ M' 167 12 = (if l0 = -1 ∧ 4 < rnE isD T L s - s then (s : Int) + 4 else l0) ∧ ∀ a i : Int, ¬ (a = 167 ∧ (i = 6 ∨ i = 12)) → M' a i = M a i := by
  obtain ⟨⟨hT2, _⟩, hL, hTt⟩ := hT
  have ll := rnD_l (T := T) (L := L) (s := s)
  obtain ⟨a1, a2, a3, a4⟩ := rnE_p isD T L s
  have a2 := a2 (by omega)
  generalize rnE isD T L s = n at *
  have key := lp_rel (body := u3 (fX9_ahead_L204 SH 167 0 1 4)) (P := fun j (t : Int × Int × AwM) => t.1 = ((s + j : Nat) : Int) ∧ t.2.1 = (j : Int) ∧ t.2.2 167 6 = numV T (s : Int) (min j 4) ∧ t.2.2 167 12 = (if l0 = -1 ∧ 4 < j then (s : Int) + 4 else l0) ∧ ∀ a i : Int, ¬ (a = 167 ∧ (i = 6 ∨ i = 12)) → t.2.2 a i = M a i) (X := fun r : Int × Int × AwM => r.1 = (n : Int) ∧ r.2.1 = ((n - s : Nat) : Int) ∧ r.2.2 167 6 = numV T (s : Int) (min (n - s) 4) ∧ r.2.2 167 12 = (if l0 = -1 ∧ 4 < n - s then (s : Int) + 4 else l0) ∧ ∀ a i : Int, ¬ (a = 167 ∧ (i = 6 ∨ i = 12)) → r.2.2 a i = M a i) (n := n - s) ?_ FU ((s : Int), 0, M) (FU_gt (by omega)) ⟨rfl, rfl, h6, by dsimp only; rw [if_neg (by omega)]; exact h12, fun _ _ _ => rfl⟩
  · obtain ⟨⟨w, c, M1⟩, er, hw, hc, g7, g12, gf⟩ := key
    change w = _ at hw
    change c = _ at hc
    subst hw hc
    exact ⟨M1, er, g7, g12, gf⟩
  · rintro j ⟨w, c, M3⟩ hj ⟨hw, hc, h37, h312, f3⟩
    change w = _ at hw
    change c = _ at hc
    change M3 167 6 = _ at h37
    change M3 167 12 = _ at h312
    change ∀ a i : Int, _ → M3 a i = M a i at f3
    subst hw hc
    have l3 : LAY M3 := LAY_fq hl (fun q hq => by
      have t := of_decide_eq_true (List.all_eq_true.mp lay_ma q hq)
      exact f3 _ _ (by omega))
    have e0 : M3 167 2 = (L : Int) := (f3 _ _ (by omega)).trans hT2
    have e2 : ∀ i : Int, M3 168 i = M 168 i := fun i => f3 _ _ (by omega)
    rw [u3_1]
    unfold fX9_ahead_L204
    rw [kd167, gd_t rfl, e0, ly167_0 l3, kd168]
    by_cases hjn : j < n - s
    · have b := a3 (s + j) (by omega) (by omega)
      have et := (hTt ((s + j : Nat) : Int) (by omega) (by omega)).2
      rw [if_pos (by omega), if_pos rfl, ga_t (by omega) (by omega), e2, et, mdig_n, pb_1, u1_1, bi_if, if_pos b]
      unfold fX9_ahead_J243_204
      have stp : ∀ M4 : AwM, (∀ a i : Int, ¬ (a = 167 ∧ (i = 6 ∨ i = 12)) → M4 a i = M a i) → M4 167 6 = numV T (s : Int) (min j 4) → M4 167 12 = (if l0 = -1 ∧ 4 < j + 1 then (s : Int) + 4 else l0) → ∃ s', fX9_ahead_J263_204 SH M4 167 ((s + j : Nat) : Int) 0 1 4 (j : Int) = some (.inl s') ∧ (s'.1 = ((s + (j + 1) : Nat) : Int) ∧ s'.2.1 = ((j + 1 : Nat) : Int) ∧ s'.2.2 167 6 = numV T (s : Int) (min (j + 1) 4) ∧ s'.2.2 167 12 = (if l0 = -1 ∧ 4 < j + 1 then (s : Int) + 4 else l0) ∧ ∀ a i : Int, ¬ (a = 167 ∧ (i = 6 ∨ i = 12)) → s'.2.2 a i = M a i) := by
        intro M4 f4 q7 q12
        have l4 : LAY M4 := LAY_fq hl (fun q hq => by
          have t := of_decide_eq_true (List.all_eq_true.mp lay_ma q hq)
          exact f4 _ _ (by omega))
        obtain ⟨M5, e5, p7, pf⟩ := m263d (j := j) l4 q7 (fun q x y => ll q x (by omega)) (show (M4 168 ((s + j : Nat) : Int)) = T ((s + j : Nat) : Int) from (f4 _ _ (by omega)).trans et) (by omega)
        refine ⟨_, e5, rfl, rfl, p7, (pf _ _ (by omega)).trans q12, fun a i p => (pf a i (fun z => p ⟨z.1, Or.inl z.2⟩)).trans (f4 a i p)⟩
      by_cases z6 : j = 4
      · have h312' : M3 167 12 = l0 := by rw [h312, if_neg (by omega)]
        rw [if_pos (by omega), kd167, gd_t rfl, h312']
        by_cases zl : l0 = -1
        · rw [if_pos zl, bd_1]
          refine Or.inl ⟨hjn, stp _ (fun a i p => by rw [up_nn (fun z => p ⟨z.1, Or.inr z.2⟩)]; exact f3 a i p) (by rw [up_oi (by decide)]; exact h37) ?_⟩
          rw [up_at, if_pos ⟨zl, by omega⟩, z6]
          omega
        · rw [if_neg zl]
          exact Or.inl ⟨hjn, stp M3 f3 h37 (by rw [h312, if_neg (fun q => zl q.1), if_neg (fun q => zl q.1)])⟩
      · rw [if_neg (by omega)]
        refine Or.inl ⟨hjn, stp M3 f3 h37 ?_⟩
        rw [h312]
        by_cases q : l0 = -1 ∧ 4 < j
        · rw [if_pos q, if_pos ⟨q.1, by omega⟩]
        · rw [if_neg q, if_neg (fun w => q ⟨w.1, by omega⟩)]
    · have ej : j = n - s := by omega
      subst ej
      have en : s + (n - s) = n := by omega
      rw [en]
      by_cases z : (n : Int) < (L : Int)
      · have b := a4 (by omega)
        rw [if_pos z, if_pos rfl, ga_t (by omega) (by omega), e2, (hTt _ (by omega) z).2, mdig_n, pb_1, u1_1, bi_if, if_neg (by rw [b]; decide)]
        exact Or.inr ⟨_, rfl, rfl, rfl, h37, h312, f3⟩
      · rw [if_neg z]
        exact Or.inr ⟨_, rfl, rfl, rfl, h37, h312, f3⟩
end PAH2
