/-! met, status, letterIs -/
section PMET
def RelT (M : AwM) (cr b L : Int) : Prop :=
  ∀ i p : Int, 0 ≤ i → i < M 171 b → 0 ≤ p → p < M 169 b → hb (M 199 (12 * L + i)) p = true → M (cr + 5) (i * 10 + p) = M 201 (120 * L + (10 * i + p))
theorem areThere_n {M : AwM} {cr so i p : Int} (h : CW M cr so) (h3 : M 1 3 = so) : fX8_areThere SH M 1 i p = some (bi (decide (0 ≤ i ∧ i < M (so + 1) 1) && decide (0 ≤ p ∧ p < M (so + 1) 0))) := by
  unfold fX8_areThere
  rw [kd1, gd_t rfl, h3, kso0 h.hso, gd_t rfl, isThere_n h (by omega) (by omega), pb_1, u1_1, isThere_n h (by omega) (by omega), pb_1, u1_1]
  cases decide (0 ≤ i ∧ i < M (so + 1) 1) <;> cases decide (0 ≤ p ∧ p < M (so + 1) 0) <;> rfl
theorem met_e {M : AwM} {so b i p : Int} (h : RelR M so b) (ht : RelT M 153 b 0) : ∃ r, fX8_met SH M 1 i p = some r ∧ fX9_met SH M 167 i p = some r := by
  obtain ⟨hc, hm, ⟨s0, s1, s2, s3, s4, s5, s6⟩, ⟨d0, d1, d2, d3, d4⟩, r1, r2, r3, r4, r5, r6⟩ := h
  have c1 := hm.c1
  have p1 := hm.p1
  unfold fX8_met fX9_met
  rw [kd1, gd_t rfl, areThere_n hc r1, pb_1, u1_1, s0, s1, kd167, gd_t rfl, isCoin_n hm, pb_1, u1_1, isPerson_n hm, pb_1, u1_1]
  by_cases hi : 0 ≤ i ∧ i < M 171 b
  · by_cases hp : 0 ≤ p ∧ p < M 169 b
    · rw [decide_eq_true hi, decide_eq_true hp, if_neg (by decide), if_neg (by decide), if_neg (by decide)]
      obtain ⟨i0, i1⟩ := hi
      obtain ⟨p0, p2⟩ := hp
      have e2 : M (153 + 3) i = M 199 i := by have := d2 i i0 i1; rw [Int.mul_zero, Int.zero_add] at this; exact this
      have hk := hm.kn i i0 i1
      rw [Int.mul_zero, Int.zero_add] at hk
      have ht' := ht i p i0 i1 p0 p2
      rw [Int.mul_zero, Int.zero_add, Int.mul_zero, Int.zero_add] at ht'
      have hz' : hz (M 199 i) p = hb (M 199 i) p := by unfold hz; rw [decide_eq_true p0, Bool.true_and]
      rw [ly1_4 hc.lay, kd153, gd_t rfl, knows_n hc i0 (by omega), pb_1, u1_1, ly153_0 hc.lay, kd154, gd_t rfl, e2, ly167_50 hm.lay, kd199, gd_t ⟨rfl, i0, by show i < ((264 : Nat) : Int); omega⟩, has2_n hk (by omega) p0 (by omega), pb_1, u1_1, hz']
      cases e : hb (M 199 i) p with
      | false => exact ⟨_, rfl, rfl⟩
      | true =>
        have em : M 158 (i * 10 + p) = M 201 (10 * i + p) := ht' e
        refine ⟨M 201 (10 * i + p), ?_, ?_⟩
        · rw [if_neg (by decide)]
          unfold fX3_metOn
          rw [w32_s (v := i * 10) (by omega) (by omega), w32_s (v := i * 10 + p) (by omega) (by omega), if_neg (by omega), if_pos (by omega), kd154, gd_t rfl, ly154_4 hc.lay, kd158, gd_t ⟨rfl, by omega, by show i * 10 + p < ((120 : Nat) : Int); omega⟩, pb_1, u1_1, em]
        · rw [if_neg (by decide), ly167_52 hm.lay, kd201, w32_s (v := 10 * i) (by omega) (by omega), w32_s (v := 10 * i + p) (by omega) (by omega), gd_t ⟨rfl, by omega, by show 10 * i + p < ((2640 : Nat) : Int); omega⟩]
    · rw [decide_eq_true hi, decide_eq_false hp]
      exact ⟨_, rfl, rfl⟩
  · rw [decide_eq_false hi]
    exact ⟨_, rfl, rfl⟩
theorem status_e {M : AwM} {v : Int} (hl : LAY M) (he : ∀ i : Int, 0 ≤ i → i < 6 → M 134 i = M 196 i) : ∃ r, fX8_status SH M 1 v = some r ∧ fX9_status SH M 167 v = some r := by
  unfold fX8_status fX9_status fX9_is
  by_cases a : v < 0
  · exact ⟨-1, by rw [if_pos a], by rw [if_pos a, pb_1, u1_1, if_pos rfl]⟩
  · by_cases c : v < 6
    · refine ⟨M 196 v, ?_, ?_⟩
      · rw [if_neg a, if_pos c, kd1, gd_t rfl, ly1_8 hl, kd134, gd_t ⟨rfl, by omega, by show v < ((6 : Nat) : Int); omega⟩, he v (by omega) c]
      · rw [if_neg a, if_neg (by omega), pb_1, u1_1, if_neg (by decide), kd167, gd_t rfl, ly167_47 hl, kd196, gd_t ⟨rfl, by omega, by show v < ((6 : Nat) : Int); omega⟩]
    · exact ⟨-1, by rw [if_neg a, if_neg c], by rw [if_neg a, if_pos (by omega), pb_1, u1_1, if_pos rfl]⟩
end PMET
