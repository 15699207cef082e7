/-! refusals, seed, end: each side's step -/
section PREF
theorem LAY_up {M : AwM} {a i v : Int} (h : LAY M) (ha : layT.all (fun q => decide (¬ (q.1 = a ∧ q.2.1 = i))) = true) : LAY (up_ M a i v) := by
  intro q hq
  have := of_decide_eq_true (List.all_eq_true.mp ha q hq)
  unfold up_
  rw [if_neg this]
  exact h q hq
theorem refuse_n {M : AwM} {k : Int} (h : LAY M) (k0 : 0 ≤ k) (k1 : k < 6) : fX8_refuse SH M 1 k = some (-1, up_ M 134 k (w32 (M 134 k + 1))) := by
  unfold fX8_refuse
  rw [if_neg (by omega), if_pos k1, kd1, gd_t rfl, ly1_8 h, kd134, gd_t ⟨rfl, k0, by show k < ((6 : Nat) : Int); omega⟩, bd_1]
theorem mrefuse_n {M : AwM} {k : Int} (h : LAY M) (k0 : 0 ≤ k) (k1 : k < 6) : fX9_refuses SH M 167 k = some (-1, up_ M 196 k (w32 (M 196 k + 1))) := by
  unfold fX9_refuses
  rw [kd167, gd_t rfl, ly167_47 h, kd196, gd_t ⟨rfl, k0, by show k < ((6 : Nat) : Int); omega⟩, bd_1]
theorem seed_n {M : AwM} {v : Int} (h : LAY M) : fX8_seed SH M 1 v = some (if v < 0 then (0, up_ M 134 5 (w32 (M 134 5 + 1))) else (1, up_ M 1 13 v)) := by
  unfold fX8_seed
  by_cases a : v < 0
  · rw [if_pos a, if_pos a, kd1, gd_t rfl, refuse_n h (by decide) (by decide), pb_1, u2_1]
  · rw [if_neg a, if_neg a, kd1, gd_t rfl, bd_1]
theorem mseed_n {M : AwM} {v : Int} (h : LAY M) : fX9_seed SH M 167 v = some (if v < 0 then (0, up_ M 196 5 (w32 (M 196 5 + 1))) else (1, up_ M 167 55 v)) := by
  unfold fX9_seed
  by_cases a : v < 0
  · rw [if_pos a, if_pos a, kd167, gd_t rfl, mrefuse_n h (by decide) (by decide), pb_1, u2_1, if_pos (by decide)]
  · rw [if_neg a, if_neg a, kd167, gd_t rfl, bd_1]
theorem end_n {M : AwM} {v : Int} (h : LAY M) : fX8_end SH M 1 v = some (if v < 0 ∨ M 1 1 < v then (0, up_ M 134 0 (w32 (M 134 0 + 1))) else (1, up_ M 1 1 v)) := by
  unfold fX8_end
  rw [kd1, gd_t rfl, gd_t rfl, refuse_n h (by decide) (by decide), pb_1, u2_1, bd_1]
  by_cases a : v < 0
  · rw [if_pos a, if_pos (Or.inl a)]
  · rw [if_neg a]
    by_cases c : M 1 1 < v
    · rw [if_pos c, if_pos (Or.inr c)]
    · rw [if_neg c, if_neg (by omega)]
theorem mend_n {M : AwM} {v : Int} (h : LAY M) : fX9_end SH M 167 v = some (if v < 0 ∨ M 167 1 < v then (0, up_ M 196 0 (w32 (M 196 0 + 1))) else (1, up_ M 167 1 v)) := by
  unfold fX9_end
  rw [kd167, gd_t rfl, gd_t rfl, mrefuse_n h (by decide) (by decide), pb_1, u2_1, bd_1, if_pos (show (-1 : Int) < 0 by decide)]
  by_cases a : v < 0
  · rw [if_pos a, if_pos (Or.inl a)]
  · rw [if_neg a]
    by_cases c : M 167 1 < v
    · rw [if_pos c, if_pos (Or.inr c)]
    · rw [if_neg c, if_neg (by omega)]
end PREF
