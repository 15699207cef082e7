/-! coin, person -/
section PCOIN
theorem isThere_n {M : AwM} {cr so k v : Int} (h : CW M cr so) (k0 : 0 ≤ k) (k1 : k < 3) : fX5_isThere SH M so k v = some (bi (decide (0 ≤ v ∧ v < M (so + 1) k))) := by
  unfold fX5_isThere
  rw [if_neg (by omega), if_pos k1, kso0 h.hso, gd_t rfl, lso0_0 h.lay h.hso, kso1 h.hso, gd_t ⟨rfl, by omega, by show k < ((3 : Nat) : Int); omega⟩]
  by_cases a : v < 0
  · rw [if_pos a, decide_eq_false (by omega)]; rfl
  · rw [if_neg a]
    by_cases c : v < M (so + 1) k
    · rw [if_pos c, decide_eq_true (⟨by omega, c⟩ : 0 ≤ v ∧ v < M (so + 1) k)]; rfl
    · rw [if_neg c, decide_eq_false (by omega)]; rfl
theorem isCoin_n {M : AwM} {b L v : Int} (h : MW M b L) : fX9_isCoin SH M 167 v = some (bi (decide (0 ≤ v ∧ v < M 171 b))) := by
  unfold fX9_isCoin
  rw [mcn h, ly167_16 h.lay, h.bk]
  by_cases a : v < 0
  · rw [if_pos a, decide_eq_false (by omega)]; rfl
  · rw [if_neg a]
    by_cases c : v < M 171 b
    · rw [if_pos c, decide_eq_true (⟨by omega, c⟩ : 0 ≤ v ∧ v < M 171 b)]; rfl
    · rw [if_neg c, decide_eq_false (by omega)]; rfl
theorem isPerson_n {M : AwM} {b L v : Int} (h : MW M b L) : fX9_isPerson SH M 167 v = some (bi (decide (0 ≤ v ∧ v < M 169 b))) := by
  unfold fX9_isPerson
  rw [mpn h, ly167_14 h.lay, h.bk]
  by_cases a : v < 0
  · rw [if_pos a, decide_eq_false (by omega)]; rfl
  · rw [if_neg a]
    by_cases c : v < M 169 b
    · rw [if_pos c, decide_eq_true (⟨by omega, c⟩ : 0 ≤ v ∧ v < M 169 b)]; rfl
    · rw [if_neg c, decide_eq_false (by omega)]; rfl
theorem isWare_n {M : AwM} {b L v : Int} (h : MW M b L) : fX9_isWare SH M 167 v = some (bi (decide (0 ≤ v ∧ v < M 176 b))) := by
  unfold fX9_isWare
  rw [mwn h, ly167_21 h.lay, h.bk]
  by_cases a : v < 0
  · rw [if_pos a, decide_eq_false (by omega)]; rfl
  · rw [if_neg a]
    by_cases c : v < M 176 b
    · rw [if_pos c, decide_eq_true (⟨by omega, c⟩ : 0 ≤ v ∧ v < M 176 b)]; rfl
    · rw [if_neg c, decide_eq_false (by omega)]; rfl
theorem coin_e {M : AwM} {so b i v : Int} (h : RelR M so b) : ∃ r, fX8_coin SH M 1 i v = some r ∧ fX9_coin SH M 167 i v = some r := by
  obtain ⟨hc, hm, ⟨s0, s1, s2, s3, s4, s5, s6⟩, ⟨d0, d1, d2, d3, d4⟩, r1, r2, r3, r4, r5, r6⟩ := h
  have c1 := hm.c1
  unfold fX8_coin fX9_coin
  rw [kd1, gd_t rfl, r1, kso0 hc.hso, gd_t rfl, isThere_n hc (by omega) (by omega), pb_1, u1_1, s1, kd167, gd_t rfl, isCoin_n hm, pb_1, u1_1]
  refine ite_ex (fun _ => ⟨_, rfl, rfl⟩) (fun hn => ?_)
  have hi : 0 ≤ i ∧ i < M 171 b := by
    by_cases x : 0 ≤ i ∧ i < M 171 b
    · exact x
    · rw [decide_eq_false x] at hn; exact absurd rfl hn
  obtain ⟨i0, i1⟩ := hi
  have e1 : M 155 i = M 198 i := by have := d1 i i0 i1; rw [Int.mul_zero, Int.zero_add] at this; exact this
  have e2 : M 156 i = M 199 i := by have := d2 i i0 i1; rw [Int.mul_zero, Int.zero_add] at this; exact this
  have e3 : M 157 i = M 200 i := by have := d3 i i0 i1; rw [Int.mul_zero, Int.zero_add] at this; exact this
  have hk := hm.kn i i0 i1
  rw [Int.mul_zero, Int.zero_add] at hk
  rw [ly1_4 hc.lay, kd153, gd_t rfl, gd_t rfl, gd_t rfl, gd_t rfl, ly153_0 hc.lay, kd154, gd_t rfl, gd_t rfl, gd_t rfl, gd_t rfl, ly154_1 hc.lay, ly154_2 hc.lay, ly154_3 hc.lay, kd155, kd156, kd157, lso0_3 hc.lay hc.hso, kso4 hc.hso, ly167_49 hm.lay, kd198, ly167_50 hm.lay, kd199, ly167_51 hm.lay, kd200]
  have g12 : (1 : Int) = 1 ∧ (0 : Int) ≤ i ∧ i < ((12 : Nat) : Int) := ⟨rfl, i0, by omega⟩
  have g264 : (1 : Int) = 1 ∧ (0 : Int) ≤ i ∧ i < ((264 : Nat) : Int) := ⟨rfl, i0, by omega⟩
  refine ite_ex (fun _ => ⟨M 172 (12 * b + i), ?_, ?_⟩) (fun _ => ite_ex (fun _ => ⟨M 198 i, ?_, ?_⟩) (fun _ => ite_ex (fun _ => ⟨M 199 i, ?_, ?_⟩) (fun _ => ite_ex (fun _ => ⟨M 200 i, ?_, ?_⟩) (fun _ => ite_ex (fun _ => ⟨pc (M 199 i), ?_, ?_⟩) (fun _ => ⟨_, rfl, rfl⟩)))))
  · rw [gd_t ⟨rfl, i0, by show i < ((12 : Nat) : Int); omega⟩, s3 i i0 i1]
  · rw [mworthOf_n hm i0 (by omega), pb_1, u1_1]
  · rw [gd_t ⟨rfl, i0, by show i < ((12 : Nat) : Int); omega⟩, e1]
  · rw [gd_t ⟨rfl, i0, by show i < ((264 : Nat) : Int); omega⟩]
  · rw [gd_t ⟨rfl, i0, by show i < ((12 : Nat) : Int); omega⟩, e2]
  · rw [gd_t ⟨rfl, i0, by show i < ((264 : Nat) : Int); omega⟩]
  · rw [gd_t ⟨rfl, i0, by show i < ((12 : Nat) : Int); omega⟩, e3]
  · rw [gd_t ⟨rfl, i0, by show i < ((264 : Nat) : Int); omega⟩]
  · rw [gd_t ⟨rfl, i0, by show i < ((12 : Nat) : Int); omega⟩, e2, bc_n (ms_up hk (by omega)), pb_1, u1_1]
  · rw [gd_t ⟨rfl, i0, by show i < ((264 : Nat) : Int); omega⟩, bits_n (ms_up hk (by omega)), pb_1, u1_1]
end PCOIN
