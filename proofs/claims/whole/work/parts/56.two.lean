/-! two people -/
section PTWO
theorem areTwo_n {M : AwM} {cr so i p : Int} (h : CW M cr so) (h3 : M 1 3 = so) : fX8_areTwo SH M 1 i p = some (bi (decide (0 ≤ i ∧ i < M (so + 1) 0) && (decide (0 ≤ p ∧ p < M (so + 1) 0) && !decide (i = p)))) := by
  unfold fX8_areTwo
  rw [kd1, gd_t rfl, h3, kso0 h.hso, gd_t rfl, isThere_n h (by omega) (by omega), pb_1, u1_1, isThere_n h (by omega) (by omega), pb_1, u1_1]
  cases decide (0 ≤ i ∧ i < M (so + 1) 0) <;> cases decide (0 ≤ p ∧ p < M (so + 1) 0) <;> by_cases e : i = p <;> simp [e, bi]
end PTWO
