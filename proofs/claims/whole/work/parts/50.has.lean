/-! has -/
section PHAS
theorem ite_ex {c : Prop} [Decidable c] {a a' e e' : Option Int} (h1 : c → ∃ r, a = some r ∧ a' = some r) (h2 : ¬ c → ∃ r, e = some r ∧ e' = some r) : ∃ r, (if c then a else e) = some r ∧ (if c then a' else e') = some r := by
  by_cases x : c
  · rw [if_pos x, if_pos x]; exact h1 x
  · rw [if_neg x, if_neg x]; exact h2 x
theorem mwn {M : AwM} {b L : Int} (h : MW M b L) {α : Type} {t : Option α} : gd_ (kd_ SH 167 = (0, 9)) (gd_ ((kd_ SH (M 167 21)).1 = 1 ∧ (0 : Int) ≤ (M 167 13) ∧ (M 167 13) < ((kd_ SH (M 167 21)).2 : Int)) t) = t := by
  have := h.hb0
  have := h.hb1
  rw [kd167, gd_t rfl, ly167_21 h.lay, kd176, h.bk, gd_t ⟨rfl, by omega, by show b < ((2 : Nat) : Int); omega⟩]
theorem has_e {M : AwM} {so b v : Int} (h : RelR M so b) : ∃ r, fX8_has SH M 1 v = some r ∧ fX9_has SH M 167 v = some r := by
  obtain ⟨hc, hm, ⟨s0, s1, s2, s3, s4, s5, s6⟩, ⟨d0, d1, d2, d3, d4⟩, r1, r2, r3, r4, r5, r6⟩ := h
  have b0 := hm.hb0
  have b1 := hm.hb1
  have c0 := hm.c0
  have dd : M 154 0 = M 197 0 := d0
  have hn : ((M 171 b).toNat : Int) = M 171 b := by omega
  unfold fX8_has fX9_has
  rw [kd1, gd_t rfl, gd_t rfl, gd_t rfl, gd_t rfl, gd_t rfl, gd_t rfl, gd_t rfl, gd_t rfl, gd_t rfl, gd_t rfl, gd_t rfl, gd_t rfl]
  rw [r1, kso0 hc.hso, gd_t rfl, gd_t rfl, gd_t rfl, gd_t rfl, gd_t rfl, lso0_0 hc.lay hc.hso, kso1 hc.hso, gd_t (by decide), gd_t (by decide), gd_t (by decide)]
  rw [ly1_4 hc.lay, kd153, gd_t rfl, gd_t rfl, gd_t rfl, gd_t rfl, gd_t rfl, ly153_0 hc.lay, kd154, gd_t rfl, flow_n hc, pb_1, u1_1, snubCount_n hc, pb_1, u1_1, knowAll_n hc, pb_1, u1_1, purses_n hc, pb_1, u1_1, ly1_6 hc.lay, kd26, gd_t rfl]
  refine ite_ex (fun _ => ⟨_, rfl, ?_⟩) (fun _ => ite_ex (fun _ => ⟨_, rfl, ?_⟩) (fun _ => ite_ex (fun _ => ⟨_, rfl, ?_⟩) (fun _ => ite_ex (fun _ => ⟨_, rfl, ?_⟩) (fun _ => ite_ex (fun _ => ⟨_, rfl, ?_⟩) (fun _ => ite_ex (fun _ => ⟨_, rfl, ?_⟩) (fun _ => ite_ex (fun _ => ⟨_, rfl, ?_⟩) (fun _ => ite_ex (fun _ => ⟨_, rfl, ?_⟩) (fun _ => ite_ex (fun _ => ⟨_, rfl, ?_⟩) (fun _ => ite_ex (fun _ => ⟨_, rfl, ?_⟩) (fun _ => ite_ex (fun _ => ⟨_, rfl, ?_⟩) (fun _ => ite_ex (fun _ => ⟨_, rfl, ?_⟩) (fun _ => ⟨_, rfl, rfl⟩))))))))))))
  · rw [mpn hm, ly167_14 hm.lay, hm.bk, s0]
  · rw [mcn hm, ly167_16 hm.lay, hm.bk, s1]
  · rw [mwn hm, ly167_21 hm.lay, hm.bk, s2]
  · rw [kd167, gd_t rfl, ly167_24 hm.lay, kd179, hm.bk, gd_t ⟨rfl, by omega, by show b < ((2 : Nat) : Int); omega⟩, s5]
  · rw [kd167, gd_t rfl, ly167_25 hm.lay, kd180, hm.bk, gd_t ⟨rfl, by omega, by show b < ((2 : Nat) : Int); omega⟩, s6]
  · rw [kd167, gd_t rfl, ly167_48 hm.lay, kd197, gd_t (by decide), dd]
  · rw [kd167, gd_t rfl, mflow_n hm, pb_1, u1_1, s1]
    exact congrArg some (flS_congr _ (fun i i0 i1 => (s3 i i0 (by omega)).symm) (fun i i0 i1 => (d2 i i0 (by omega)).symm))
  · rw [msnubs_n hm, pb_1, u1_1, s1]
    exact congrArg some (accS_congr _ (fun i i0 i1 => by rw [d3 i i0 (by omega), Int.mul_zero, Int.zero_add]))
  · rw [mknowAll_n hm, pb_1, u1_1, s1, s0]
    exact congrArg some (kaS_congr _ (fun i i0 i1 => by rw [d2 i i0 (by omega), Int.mul_zero, Int.zero_add]))
  · rw [mpurses_n hm d4, pb_1, u1_1, s1, s0]
    exact congrArg some (usP_congr _ _ (fun i i0 i1 => (d1 i i0 (by omega)).symm) (fun i i0 i1 => (d2 i i0 (by omega)).symm))
  · rw [kd167, gd_t rfl, r2]
  · rw [kd167, gd_t rfl, w32_id r4, r3]
end PHAS
