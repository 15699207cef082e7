/-! person -/
section PPERS
theorem rankOf_n {M : AwM} {b L i : Int} (h : MW M b L) (i0 : 0 ≤ i) (i1 : i < 10) : fX9_rankOf SH M 167 i = some (M 170 (10 * b + i)) := by
  unfold fX9_rankOf
  have := h.hb0
  have := h.hb1
  rw [kd167, gd_t rfl, ly167_15 h.lay, kd170, h.bk, w32_s (v := 10 * b) (by omega) (by omega), w32_s (v := 10 * b + i) (by omega) (by omega), gd_t ⟨rfl, by omega, by show (10 * b + i : Int) < ((20 : Nat) : Int); omega⟩]
theorem person_e {M : AwM} {so b i v : Int} (h : RelR M so b) : ∃ r, fX8_person SH M 1 i v = some r ∧ fX9_person SH M 167 i v = some r := by
  obtain ⟨hc, hm, ⟨s0, s1, s2, s3, s4, s5, s6⟩, ⟨d0, d1, d2, d3, d4⟩, r1, r2, r3, r4, r5, r6⟩ := h
  have c0 := hm.c0
  have c1 := hm.c1
  have p1 := hm.p1
  unfold fX8_person fX9_person
  rw [kd1, gd_t rfl, r1, kso0 hc.hso, gd_t rfl, isThere_n hc (by omega) (by omega), pb_1, u1_1, s0, kd167, gd_t rfl, isPerson_n hm, pb_1, u1_1]
  refine ite_ex (fun _ => ⟨_, rfl, rfl⟩) (fun hn => ?_)
  have hi : 0 ≤ i ∧ i < M 169 b := by
    by_cases x : 0 ≤ i ∧ i < M 169 b
    · exact x
    · rw [decide_eq_false x] at hn; exact absurd rfl hn
  obtain ⟨i0, i1⟩ := hi
  have hS : ms 12 (accB (fun c => decide (M 198 (12 * 0 + c) = i)) (M 171 b).toNat) := ms_up (accB_ms _ _) (by omega)
  have eH : accB (fun c => decide (M (153 + 2) c = i)) (M (so + 1) 1).toNat = accB (fun c => decide (M 198 (12 * 0 + c) = i)) (M 171 b).toNat := by
    rw [s1]
    exact accB_congr _ (fun c c0 c1 => by rw [d1 c c0 (by omega)])
  have eK : accB (fun c => hz (M (153 + 3) c) i) (M (so + 1) 1).toNat = accB (fun c => hz (M 199 (12 * 0 + c)) i) (M 171 b).toNat := by
    rw [s1]
    exact accB_congr _ (fun c c0 c1 => by rw [d2 c c0 (by omega)])
  have eN : accB (fun c => hz (M (153 + 4) c) i) (M (so + 1) 1).toNat = accB (fun c => hz (M 200 c) i) (M 171 b).toNat := by
    rw [s1]
    exact accB_congr _ (fun c c0 c1 => by rw [d3 c c0 (by omega), Int.mul_zero, Int.zero_add])
  have eW : wtS (M (so + 4)) (accB (fun c => decide (M 198 (12 * 0 + c) = i)) (M 171 b).toNat) (M (so + 1) 1).toNat = wtS (fun c => M 172 (12 * b + c)) (accB (fun c => decide (M 198 (12 * 0 + c) = i)) (M 171 b).toNat) (M 171 b).toNat := by
    rw [s1]
    exact wtS_congr _ (fun c c0 c1 => s3 c c0 (by omega))
  have eU : ulS (M (153 + 2)) (M (153 + 3)) i (M (so + 1) 1).toNat = ulS (fun c => M 198 (12 * 0 + c)) (fun c => M 199 (12 * 0 + c)) i (M 171 b).toNat := by
    rw [s1]
    exact ulS_congr _ (fun c c0 c1 => d1 c c0 (by omega)) (fun c c0 c1 => d2 c c0 (by omega))
  rw [ly1_4 hc.lay, kd153, gd_t rfl, gd_t rfl, gd_t rfl, gd_t rfl, gd_t rfl, heldBy_n hc, pb_1, u1_1, eH, pb_1, u1_1, worth_n hc hS, pb_1, u1_1, eW, knowing_n hc, pb_1, u1_1, eK, snubbedBy_n hc, pb_1, u1_1, eN, useless_n hc i0 (by omega), pb_1, u1_1, eU, lso0_2 hc.lay hc.hso, kso3 hc.hso]
  rw [rankOf_n hm i0 (by omega), pb_1, u1_1, mheldBy_n hm, pb_1, u1_1, pb_1, u1_1, mworth_n hm hS, pb_1, u1_1, mknowing_n hm i0 (by omega), pb_1, u1_1, msnubbed_n hm i0 (by omega), pb_1, u1_1, museless_n hm d4, pb_1, u1_1]
  refine ite_ex (fun _ => ⟨_, ?_, rfl⟩) (fun _ => ite_ex (fun _ => ⟨_, rfl, rfl⟩) (fun _ => ite_ex (fun _ => ⟨_, rfl, rfl⟩) (fun _ => ite_ex (fun _ => ⟨_, rfl, rfl⟩) (fun _ => ite_ex (fun _ => ⟨_, rfl, rfl⟩) (fun _ => ite_ex (fun _ => ?_) (fun _ => ⟨_, rfl, rfl⟩))))))
  · rw [gd_t ⟨rfl, i0, by show i < ((10 : Nat) : Int); omega⟩, s4 i i0 i1]
  · exact ite_ex (fun _ => ⟨_, rfl, rfl⟩) (fun _ => ⟨_, rfl, rfl⟩)
end PPERS
