/-! letter alike -/
section PLTR
theorem srl_n {a k : Nat} (hk : k < 64) (ha : a < 2 ^ 63) : srl_ (a : Int) (k : Int) = ((a / 2 ^ k : Nat) : Int) := by
  have s63 : ∀ k : Nat, k < 64 → (((nI k).toInt64 &&& 63).toBitVec.smod 64).toNat = k := by decide +kernel
  have hx : (i64 (a : Int)).toInt = (a : Int) := i64_i ⟨by omega, by omega⟩
  unfold srl_
  have e : (i64 (a : Int) >>> ((i32 (k : Int)).toInt64 &&& 63)).toInt = ((i64 (a : Int)).toBitVec.sshiftRight' (((i32 (k : Int)).toInt64 &&& 63).toBitVec.smod 64)).toInt := rfl
  rw [e, BitVec.toInt_sshiftRight', iN, s63 k hk, Int.shiftRight_eq_div_pow]
  show (i64 (a : Int)).toInt / _ = _
  rw [hx]
  rfl
theorem mask64 (x m : Int64) {k : Nat} (hk : k < 63) (hm : m.toBitVec.toNat = 2 ^ k - 1) : (x &&& m).toInt = x.toInt % 2 ^ k := by
  have e : (x &&& m).toInt = (x.toBitVec &&& m.toBitVec).toInt := rfl
  have hp : (2 : Nat) ^ k ≤ 2 ^ 62 := Nat.pow_le_pow_right (by decide) (by omega)
  have hpos : 0 < (2 : Nat) ^ k := Nat.pow_pos (by decide)
  have n1 : (x.toBitVec &&& m.toBitVec).toNat = x.toBitVec.toNat % 2 ^ k := by rw [BitVec.toNat_and, hm, Nat.and_two_pow_sub_one_eq_mod]
  have hlt : x.toBitVec.toNat % 2 ^ k < 2 ^ k := Nat.mod_lt _ hpos
  rw [e, BitVec.toInt_eq_toNat_cond, n1, if_pos (by omega)]
  have e2 : x.toInt = Int.bmod x.toBitVec.toNat (2 ^ 64) := BitVec.toInt_eq_toNat_bmod _
  have hd : ((2 : Int) ^ k) ∣ ((2 ^ 64 : Nat) : Int) := by
    refine ⟨2 ^ (64 - k), ?_⟩
    rw [← Int.pow_add, show k + (64 - k) = 64 by omega]
    rfl
  rw [e2, Int.natCast_emod, Int.natCast_pow, ← Int.emod_emod_of_dvd (Int.bmod _ _) hd, Int.bmod_emod, Int.emod_emod_of_dvd _ hd]
  rfl
theorem an31 {x : Int} (h : I32 x) : an_ x 31 = x % 32 := by
  unfold an_
  rw [mask32 (i32 x) (i32 31) (k := 5) (by decide) (by decide), i32_i h]
  rfl
theorem anl255 {x : Int} (h : I64 x) : anl_ x 255 = x % 256 := by
  unfold anl_
  rw [mask64 (i64 x) (i64 255) (k := 8) (by decide) (by decide), i64_i h]
  rfl
/-- the letters of a name -/
def ltN (n : Int) (k : Nat) : Int := n / 32 ^ k % 32
theorem wd1 {a0 : Int} {W : Nat} (h : (W : Int) = (256 * 0 + 96 + a0)) (p0 : 1 ≤ a0) (q0 : a0 ≤ 26) : a0 = ((W : Nat) : Int) % 256 - 96 ∧ 1 ≤ W ∧ W < 256 := by
  refine ⟨?_, ?_, ?_⟩ <;> omega
theorem wd2 {a0 a1 : Int} {W : Nat} (h : (W : Int) = (256 * (256 * 0 + 96 + a0) + 96 + a1)) (p0 : 1 ≤ a0) (q0 : a0 ≤ 26) (p1 : 1 ≤ a1) (q1 : a1 ≤ 26) : a0 = ((W / 256 : Nat) : Int) % 256 - 96 ∧ a1 = ((W : Nat) : Int) % 256 - 96 ∧ 256 ≤ W ∧ W < 65536 := by
  refine ⟨?_, ?_, ?_, ?_⟩ <;> omega
theorem wd3 {a0 a1 a2 : Int} {W : Nat} (h : (W : Int) = (256 * (256 * (256 * 0 + 96 + a0) + 96 + a1) + 96 + a2)) (p0 : 1 ≤ a0) (q0 : a0 ≤ 26) (p1 : 1 ≤ a1) (q1 : a1 ≤ 26) (p2 : 1 ≤ a2) (q2 : a2 ≤ 26) : a0 = ((W / 65536 : Nat) : Int) % 256 - 96 ∧ a1 = ((W / 256 : Nat) : Int) % 256 - 96 ∧ a2 = ((W : Nat) : Int) % 256 - 96 ∧ 65536 ≤ W ∧ W < 16777216 := by
  refine ⟨?_, ?_, ?_, ?_, ?_⟩ <;> omega
theorem wd4 {a0 a1 a2 a3 : Int} {W : Nat} (h : (W : Int) = (256 * (256 * (256 * (256 * 0 + 96 + a0) + 96 + a1) + 96 + a2) + 96 + a3)) (p0 : 1 ≤ a0) (q0 : a0 ≤ 26) (p1 : 1 ≤ a1) (q1 : a1 ≤ 26) (p2 : 1 ≤ a2) (q2 : a2 ≤ 26) (p3 : 1 ≤ a3) (q3 : a3 ≤ 26) : a0 = ((W / 16777216 : Nat) : Int) % 256 - 96 ∧ a1 = ((W / 65536 : Nat) : Int) % 256 - 96 ∧ a2 = ((W / 256 : Nat) : Int) % 256 - 96 ∧ a3 = ((W : Nat) : Int) % 256 - 96 ∧ 16777216 ≤ W ∧ W < 4294967296 := by
  refine ⟨?_, ?_, ?_, ?_, ?_, ?_⟩ <;> omega
theorem wd5 {a0 a1 a2 a3 a4 : Int} {W : Nat} (h : (W : Int) = (256 * (256 * (256 * (256 * (256 * 0 + 96 + a0) + 96 + a1) + 96 + a2) + 96 + a3) + 96 + a4)) (p0 : 1 ≤ a0) (q0 : a0 ≤ 26) (p1 : 1 ≤ a1) (q1 : a1 ≤ 26) (p2 : 1 ≤ a2) (q2 : a2 ≤ 26) (p3 : 1 ≤ a3) (q3 : a3 ≤ 26) (p4 : 1 ≤ a4) (q4 : a4 ≤ 26) : a0 = ((W / 4294967296 : Nat) : Int) % 256 - 96 ∧ a1 = ((W / 16777216 : Nat) : Int) % 256 - 96 ∧ a2 = ((W / 65536 : Nat) : Int) % 256 - 96 ∧ a3 = ((W / 256 : Nat) : Int) % 256 - 96 ∧ a4 = ((W : Nat) : Int) % 256 - 96 ∧ 4294967296 ≤ W ∧ W < 1099511627776 := by
  refine ⟨?_, ?_, ?_, ?_, ?_, ?_, ?_⟩ <;> omega
theorem wd6 {a0 a1 a2 a3 a4 a5 : Int} {W : Nat} (h : (W : Int) = (256 * (256 * (256 * (256 * (256 * (256 * 0 + 96 + a0) + 96 + a1) + 96 + a2) + 96 + a3) + 96 + a4) + 96 + a5)) (p0 : 1 ≤ a0) (q0 : a0 ≤ 26) (p1 : 1 ≤ a1) (q1 : a1 ≤ 26) (p2 : 1 ≤ a2) (q2 : a2 ≤ 26) (p3 : 1 ≤ a3) (q3 : a3 ≤ 26) (p4 : 1 ≤ a4) (q4 : a4 ≤ 26) (p5 : 1 ≤ a5) (q5 : a5 ≤ 26) : a0 = ((W / 1099511627776 : Nat) : Int) % 256 - 96 ∧ a1 = ((W / 4294967296 : Nat) : Int) % 256 - 96 ∧ a2 = ((W / 16777216 : Nat) : Int) % 256 - 96 ∧ a3 = ((W / 65536 : Nat) : Int) % 256 - 96 ∧ a4 = ((W / 256 : Nat) : Int) % 256 - 96 ∧ a5 = ((W : Nat) : Int) % 256 - 96 ∧ 1099511627776 ≤ W ∧ W < 281474976710656 := by
  refine ⟨?_, ?_, ?_, ?_, ?_, ?_, ?_, ?_⟩ <;> omega
theorem nmX {n : Int} (h : ndOK 6 n) : ∃ L W : Nat, n8 n = (W : Int) ∧ L ≤ 6 ∧ (L = 0 → W = 0) ∧ (0 < L → 256 ^ (L - 1) ≤ W) ∧ W < 256 ^ L ∧ 0 ≤ n ∧ n < 1073741824 ∧ ∀ k : Nat, k < 6 → ltN n k = if k < L then ((W / 256 ^ (L - 1 - k) : Nat) : Int) % 256 - 96 else 0 := by
  rcases h with h | ⟨p0, a0, b0, h⟩
  · have e : n8 n = 0 := by
      unfold n8
      simp only [n8f]
      rw [if_pos (show n ≤ 0 by omega)]
    have h0 : n = 0 := by omega
    subst h0
    refine ⟨0, 0, by rw [e]; rfl, by omega, fun _ => rfl, fun z => absurd z (by decide), by decide, by omega, by omega, fun k hk => ?_⟩
    rw [if_neg (by omega)]
    unfold ltN
    rw [Int.zero_ediv]
    rfl
  rcases h with h | ⟨p1, a1, b1, h⟩
  · have e : n8 n = (256 * 0 + 96 + n % 32) := by
      unfold n8
      simp only [n8f]
      rw [if_neg (show ¬ n ≤ 0 by omega), if_pos (show (n / 32) ≤ 0 by omega)]
    have l0 : ltN n 0 = n % 32 := by unfold ltN; simp only [Int.reducePow, Int.ediv_one] <;> omega
    have l1 : ltN n 1 = 0 := by unfold ltN; simp only [Int.reducePow] <;> omega
    have l2 : ltN n 2 = 0 := by unfold ltN; simp only [Int.reducePow] <;> omega
    have l3 : ltN n 3 = 0 := by unfold ltN; simp only [Int.reducePow] <;> omega
    have l4 : ltN n 4 = 0 := by unfold ltN; simp only [Int.reducePow] <;> omega
    have l5 : ltN n 5 = 0 := by unfold ltN; simp only [Int.reducePow] <;> omega
    have nb : 0 ≤ n ∧ n < 1073741824 := by omega
    have c0 : 1 ≤ n % 32 ∧ n % 32 ≤ 26 := by omega
    obtain ⟨W, hW⟩ : ∃ W : Nat, n8 n = (W : Int) := ⟨(n8 n).toNat, by rw [e]; omega⟩
    rw [hW] at e
    obtain ⟨w0, u, v⟩ := wd1 e c0.1 c0.2
    refine ⟨1, W, hW, by omega, fun z => absurd z (by decide), fun _ => u, v, nb.1, nb.2, fun k hk => ?_⟩
    have hk6 : k = 0 ∨ k = 1 ∨ k = 2 ∨ k = 3 ∨ k = 4 ∨ k = 5 := by omega
    rcases hk6 with rfl | rfl | rfl | rfl | rfl | rfl
    · rw [if_pos (by decide), l0]; simp only [Nat.reduceSub, Nat.reducePow, Nat.div_one]; exact w0
    · rw [if_neg (by decide), l1]
    · rw [if_neg (by decide), l2]
    · rw [if_neg (by decide), l3]
    · rw [if_neg (by decide), l4]
    · rw [if_neg (by decide), l5]
  rcases h with h | ⟨p2, a2, b2, h⟩
  · have e : n8 n = (256 * (256 * 0 + 96 + n % 32) + 96 + (n / 32) % 32) := by
      unfold n8
      simp only [n8f]
      rw [if_neg (show ¬ n ≤ 0 by omega), if_neg (show ¬ (n / 32) ≤ 0 by omega), if_pos (show ((n / 32) / 32) ≤ 0 by omega)]
    have l0 : ltN n 0 = n % 32 := by unfold ltN; simp only [Int.reducePow, Int.ediv_one] <;> omega
    have l1 : ltN n 1 = (n / 32) % 32 := by unfold ltN; simp only [Int.reducePow] <;> omega
    have l2 : ltN n 2 = 0 := by unfold ltN; simp only [Int.reducePow] <;> omega
    have l3 : ltN n 3 = 0 := by unfold ltN; simp only [Int.reducePow] <;> omega
    have l4 : ltN n 4 = 0 := by unfold ltN; simp only [Int.reducePow] <;> omega
    have l5 : ltN n 5 = 0 := by unfold ltN; simp only [Int.reducePow] <;> omega
    have nb : 0 ≤ n ∧ n < 1073741824 := by omega
    have c0 : 1 ≤ n % 32 ∧ n % 32 ≤ 26 := by omega
    have c1 : 1 ≤ (n / 32) % 32 ∧ (n / 32) % 32 ≤ 26 := by omega
    obtain ⟨W, hW⟩ : ∃ W : Nat, n8 n = (W : Int) := ⟨(n8 n).toNat, by rw [e]; omega⟩
    rw [hW] at e
    obtain ⟨w0, w1, u, v⟩ := wd2 e c0.1 c0.2 c1.1 c1.2
    refine ⟨2, W, hW, by omega, fun z => absurd z (by decide), fun _ => u, v, nb.1, nb.2, fun k hk => ?_⟩
    have hk6 : k = 0 ∨ k = 1 ∨ k = 2 ∨ k = 3 ∨ k = 4 ∨ k = 5 := by omega
    rcases hk6 with rfl | rfl | rfl | rfl | rfl | rfl
    · rw [if_pos (by decide), l0]; simp only [Nat.reduceSub, Nat.reducePow]; exact w0
    · rw [if_pos (by decide), l1]; simp only [Nat.reduceSub, Nat.reducePow, Nat.div_one]; exact w1
    · rw [if_neg (by decide), l2]
    · rw [if_neg (by decide), l3]
    · rw [if_neg (by decide), l4]
    · rw [if_neg (by decide), l5]
  rcases h with h | ⟨p3, a3, b3, h⟩
  · have e : n8 n = (256 * (256 * (256 * 0 + 96 + n % 32) + 96 + (n / 32) % 32) + 96 + ((n / 32) / 32) % 32) := by
      unfold n8
      simp only [n8f]
      rw [if_neg (show ¬ n ≤ 0 by omega), if_neg (show ¬ (n / 32) ≤ 0 by omega), if_neg (show ¬ ((n / 32) / 32) ≤ 0 by omega), if_pos (show (((n / 32) / 32) / 32) ≤ 0 by omega)]
    have l0 : ltN n 0 = n % 32 := by unfold ltN; simp only [Int.reducePow, Int.ediv_one] <;> omega
    have l1 : ltN n 1 = (n / 32) % 32 := by unfold ltN; simp only [Int.reducePow] <;> omega
    have l2 : ltN n 2 = ((n / 32) / 32) % 32 := by unfold ltN; simp only [Int.reducePow] <;> omega
    have l3 : ltN n 3 = 0 := by unfold ltN; simp only [Int.reducePow] <;> omega
    have l4 : ltN n 4 = 0 := by unfold ltN; simp only [Int.reducePow] <;> omega
    have l5 : ltN n 5 = 0 := by unfold ltN; simp only [Int.reducePow] <;> omega
    have nb : 0 ≤ n ∧ n < 1073741824 := by omega
    have c0 : 1 ≤ n % 32 ∧ n % 32 ≤ 26 := by omega
    have c1 : 1 ≤ (n / 32) % 32 ∧ (n / 32) % 32 ≤ 26 := by omega
    have c2 : 1 ≤ ((n / 32) / 32) % 32 ∧ ((n / 32) / 32) % 32 ≤ 26 := by omega
    obtain ⟨W, hW⟩ : ∃ W : Nat, n8 n = (W : Int) := ⟨(n8 n).toNat, by rw [e]; omega⟩
    rw [hW] at e
    obtain ⟨w0, w1, w2, u, v⟩ := wd3 e c0.1 c0.2 c1.1 c1.2 c2.1 c2.2
    refine ⟨3, W, hW, by omega, fun z => absurd z (by decide), fun _ => u, v, nb.1, nb.2, fun k hk => ?_⟩
    have hk6 : k = 0 ∨ k = 1 ∨ k = 2 ∨ k = 3 ∨ k = 4 ∨ k = 5 := by omega
    rcases hk6 with rfl | rfl | rfl | rfl | rfl | rfl
    · rw [if_pos (by decide), l0]; simp only [Nat.reduceSub, Nat.reducePow]; exact w0
    · rw [if_pos (by decide), l1]; simp only [Nat.reduceSub, Nat.reducePow]; exact w1
    · rw [if_pos (by decide), l2]; simp only [Nat.reduceSub, Nat.reducePow, Nat.div_one]; exact w2
    · rw [if_neg (by decide), l3]
    · rw [if_neg (by decide), l4]
    · rw [if_neg (by decide), l5]
  rcases h with h | ⟨p4, a4, b4, h⟩
  · have e : n8 n = (256 * (256 * (256 * (256 * 0 + 96 + n % 32) + 96 + (n / 32) % 32) + 96 + ((n / 32) / 32) % 32) + 96 + (((n / 32) / 32) / 32) % 32) := by
      unfold n8
      simp only [n8f]
      rw [if_neg (show ¬ n ≤ 0 by omega), if_neg (show ¬ (n / 32) ≤ 0 by omega), if_neg (show ¬ ((n / 32) / 32) ≤ 0 by omega), if_neg (show ¬ (((n / 32) / 32) / 32) ≤ 0 by omega), if_pos (show ((((n / 32) / 32) / 32) / 32) ≤ 0 by omega)]
    have l0 : ltN n 0 = n % 32 := by unfold ltN; simp only [Int.reducePow, Int.ediv_one] <;> omega
    have l1 : ltN n 1 = (n / 32) % 32 := by unfold ltN; simp only [Int.reducePow] <;> omega
    have l2 : ltN n 2 = ((n / 32) / 32) % 32 := by unfold ltN; simp only [Int.reducePow] <;> omega
    have l3 : ltN n 3 = (((n / 32) / 32) / 32) % 32 := by unfold ltN; simp only [Int.reducePow] <;> omega
    have l4 : ltN n 4 = 0 := by unfold ltN; simp only [Int.reducePow] <;> omega
    have l5 : ltN n 5 = 0 := by unfold ltN; simp only [Int.reducePow] <;> omega
    have nb : 0 ≤ n ∧ n < 1073741824 := by omega
    have c0 : 1 ≤ n % 32 ∧ n % 32 ≤ 26 := by omega
    have c1 : 1 ≤ (n / 32) % 32 ∧ (n / 32) % 32 ≤ 26 := by omega
    have c2 : 1 ≤ ((n / 32) / 32) % 32 ∧ ((n / 32) / 32) % 32 ≤ 26 := by omega
    have c3 : 1 ≤ (((n / 32) / 32) / 32) % 32 ∧ (((n / 32) / 32) / 32) % 32 ≤ 26 := by omega
    obtain ⟨W, hW⟩ : ∃ W : Nat, n8 n = (W : Int) := ⟨(n8 n).toNat, by rw [e]; omega⟩
    rw [hW] at e
    obtain ⟨w0, w1, w2, w3, u, v⟩ := wd4 e c0.1 c0.2 c1.1 c1.2 c2.1 c2.2 c3.1 c3.2
    refine ⟨4, W, hW, by omega, fun z => absurd z (by decide), fun _ => u, v, nb.1, nb.2, fun k hk => ?_⟩
    have hk6 : k = 0 ∨ k = 1 ∨ k = 2 ∨ k = 3 ∨ k = 4 ∨ k = 5 := by omega
    rcases hk6 with rfl | rfl | rfl | rfl | rfl | rfl
    · rw [if_pos (by decide), l0]; simp only [Nat.reduceSub, Nat.reducePow]; exact w0
    · rw [if_pos (by decide), l1]; simp only [Nat.reduceSub, Nat.reducePow]; exact w1
    · rw [if_pos (by decide), l2]; simp only [Nat.reduceSub, Nat.reducePow]; exact w2
    · rw [if_pos (by decide), l3]; simp only [Nat.reduceSub, Nat.reducePow, Nat.div_one]; exact w3
    · rw [if_neg (by decide), l4]
    · rw [if_neg (by decide), l5]
  rcases h with h | ⟨p5, a5, b5, h⟩
  · have e : n8 n = (256 * (256 * (256 * (256 * (256 * 0 + 96 + n % 32) + 96 + (n / 32) % 32) + 96 + ((n / 32) / 32) % 32) + 96 + (((n / 32) / 32) / 32) % 32) + 96 + ((((n / 32) / 32) / 32) / 32) % 32) := by
      unfold n8
      simp only [n8f]
      rw [if_neg (show ¬ n ≤ 0 by omega), if_neg (show ¬ (n / 32) ≤ 0 by omega), if_neg (show ¬ ((n / 32) / 32) ≤ 0 by omega), if_neg (show ¬ (((n / 32) / 32) / 32) ≤ 0 by omega), if_neg (show ¬ ((((n / 32) / 32) / 32) / 32) ≤ 0 by omega), if_pos (show (((((n / 32) / 32) / 32) / 32) / 32) ≤ 0 by omega)]
    have l0 : ltN n 0 = n % 32 := by unfold ltN; simp only [Int.reducePow, Int.ediv_one] <;> omega
    have l1 : ltN n 1 = (n / 32) % 32 := by unfold ltN; simp only [Int.reducePow] <;> omega
    have l2 : ltN n 2 = ((n / 32) / 32) % 32 := by unfold ltN; simp only [Int.reducePow] <;> omega
    have l3 : ltN n 3 = (((n / 32) / 32) / 32) % 32 := by unfold ltN; simp only [Int.reducePow] <;> omega
    have l4 : ltN n 4 = ((((n / 32) / 32) / 32) / 32) % 32 := by unfold ltN; simp only [Int.reducePow] <;> omega
    have l5 : ltN n 5 = 0 := by unfold ltN; simp only [Int.reducePow] <;> omega
    have nb : 0 ≤ n ∧ n < 1073741824 := by omega
    have c0 : 1 ≤ n % 32 ∧ n % 32 ≤ 26 := by omega
    have c1 : 1 ≤ (n / 32) % 32 ∧ (n / 32) % 32 ≤ 26 := by omega
    have c2 : 1 ≤ ((n / 32) / 32) % 32 ∧ ((n / 32) / 32) % 32 ≤ 26 := by omega
    have c3 : 1 ≤ (((n / 32) / 32) / 32) % 32 ∧ (((n / 32) / 32) / 32) % 32 ≤ 26 := by omega
    have c4 : 1 ≤ ((((n / 32) / 32) / 32) / 32) % 32 ∧ ((((n / 32) / 32) / 32) / 32) % 32 ≤ 26 := by omega
    obtain ⟨W, hW⟩ : ∃ W : Nat, n8 n = (W : Int) := ⟨(n8 n).toNat, by rw [e]; omega⟩
    rw [hW] at e
    obtain ⟨w0, w1, w2, w3, w4, u, v⟩ := wd5 e c0.1 c0.2 c1.1 c1.2 c2.1 c2.2 c3.1 c3.2 c4.1 c4.2
    refine ⟨5, W, hW, by omega, fun z => absurd z (by decide), fun _ => u, v, nb.1, nb.2, fun k hk => ?_⟩
    have hk6 : k = 0 ∨ k = 1 ∨ k = 2 ∨ k = 3 ∨ k = 4 ∨ k = 5 := by omega
    rcases hk6 with rfl | rfl | rfl | rfl | rfl | rfl
    · rw [if_pos (by decide), l0]; simp only [Nat.reduceSub, Nat.reducePow]; exact w0
    · rw [if_pos (by decide), l1]; simp only [Nat.reduceSub, Nat.reducePow]; exact w1
    · rw [if_pos (by decide), l2]; simp only [Nat.reduceSub, Nat.reducePow]; exact w2
    · rw [if_pos (by decide), l3]; simp only [Nat.reduceSub, Nat.reducePow]; exact w3
    · rw [if_pos (by decide), l4]; simp only [Nat.reduceSub, Nat.reducePow, Nat.div_one]; exact w4
    · rw [if_neg (by decide), l5]
  change ((((((n / 32) / 32) / 32) / 32) / 32) / 32) = 0 at h
  have e : n8 n = (256 * (256 * (256 * (256 * (256 * (256 * 0 + 96 + n % 32) + 96 + (n / 32) % 32) + 96 + ((n / 32) / 32) % 32) + 96 + (((n / 32) / 32) / 32) % 32) + 96 + ((((n / 32) / 32) / 32) / 32) % 32) + 96 + (((((n / 32) / 32) / 32) / 32) / 32) % 32) := by
    unfold n8
    simp only [n8f]
    rw [if_neg (show ¬ n ≤ 0 by omega), if_neg (show ¬ (n / 32) ≤ 0 by omega), if_neg (show ¬ ((n / 32) / 32) ≤ 0 by omega), if_neg (show ¬ (((n / 32) / 32) / 32) ≤ 0 by omega), if_neg (show ¬ ((((n / 32) / 32) / 32) / 32) ≤ 0 by omega), if_neg (show ¬ (((((n / 32) / 32) / 32) / 32) / 32) ≤ 0 by omega)]
  have l0 : ltN n 0 = n % 32 := by unfold ltN; simp only [Int.reducePow, Int.ediv_one] <;> omega
  have l1 : ltN n 1 = (n / 32) % 32 := by unfold ltN; simp only [Int.reducePow] <;> omega
  have l2 : ltN n 2 = ((n / 32) / 32) % 32 := by unfold ltN; simp only [Int.reducePow] <;> omega
  have l3 : ltN n 3 = (((n / 32) / 32) / 32) % 32 := by unfold ltN; simp only [Int.reducePow] <;> omega
  have l4 : ltN n 4 = ((((n / 32) / 32) / 32) / 32) % 32 := by unfold ltN; simp only [Int.reducePow] <;> omega
  have l5 : ltN n 5 = (((((n / 32) / 32) / 32) / 32) / 32) % 32 := by unfold ltN; simp only [Int.reducePow] <;> omega
  have nb : 0 ≤ n ∧ n < 1073741824 := by omega
  have c0 : 1 ≤ n % 32 ∧ n % 32 ≤ 26 := by omega
  have c1 : 1 ≤ (n / 32) % 32 ∧ (n / 32) % 32 ≤ 26 := by omega
  have c2 : 1 ≤ ((n / 32) / 32) % 32 ∧ ((n / 32) / 32) % 32 ≤ 26 := by omega
  have c3 : 1 ≤ (((n / 32) / 32) / 32) % 32 ∧ (((n / 32) / 32) / 32) % 32 ≤ 26 := by omega
  have c4 : 1 ≤ ((((n / 32) / 32) / 32) / 32) % 32 ∧ ((((n / 32) / 32) / 32) / 32) % 32 ≤ 26 := by omega
  have c5 : 1 ≤ (((((n / 32) / 32) / 32) / 32) / 32) % 32 ∧ (((((n / 32) / 32) / 32) / 32) / 32) % 32 ≤ 26 := by omega
  obtain ⟨W, hW⟩ : ∃ W : Nat, n8 n = (W : Int) := ⟨(n8 n).toNat, by rw [e]; omega⟩
  rw [hW] at e
  obtain ⟨w0, w1, w2, w3, w4, w5, u, v⟩ := wd6 e c0.1 c0.2 c1.1 c1.2 c2.1 c2.2 c3.1 c3.2 c4.1 c4.2 c5.1 c5.2
  refine ⟨6, W, hW, by omega, fun z => absurd z (by decide), fun _ => u, v, nb.1, nb.2, fun k hk => ?_⟩
  have hk6 : k = 0 ∨ k = 1 ∨ k = 2 ∨ k = 3 ∨ k = 4 ∨ k = 5 := by omega
  rcases hk6 with rfl | rfl | rfl | rfl | rfl | rfl
  · rw [if_pos (by decide), l0]; simp only [Nat.reduceSub, Nat.reducePow]; exact w0
  · rw [if_pos (by decide), l1]; simp only [Nat.reduceSub, Nat.reducePow]; exact w1
  · rw [if_pos (by decide), l2]; simp only [Nat.reduceSub, Nat.reducePow]; exact w2
  · rw [if_pos (by decide), l3]; simp only [Nat.reduceSub, Nat.reducePow]; exact w3
  · rw [if_pos (by decide), l4]; simp only [Nat.reduceSub, Nat.reducePow]; exact w4
  · rw [if_pos (by decide), l5]; simp only [Nat.reduceSub, Nat.reducePow, Nat.div_one]; exact w5
theorem cnt_n {M : AwM} {q w : Int} {L W : Nat} (hL : L ≤ 6) (h0 : L = 0 → W = 0) (h1 : 0 < L → 256 ^ (L - 1) ≤ W) (h2 : W < 256 ^ L) : lp (u2 (fX9_letter_L58 SH M q w)) FU (0, (W : Int)) = some (L : Int) := by
  have hW : W < 2 ^ 63 := Nat.lt_of_lt_of_le h2 (Nat.le_trans (Nat.pow_le_pow_right (by decide) hL) (by decide))
  have key := lp_cnt (body := u2 (fX9_letter_L58 SH M q w)) (fun i => ((i : Int), ((W / 256 ^ i : Nat) : Int))) (L : Int) L ?_ ?_ FU (FU_gt (by omega))
  · rw [show ((0 : Int), (W : Int)) = (((0 : Nat) : Int), ((W / 256 ^ 0 : Nat) : Int)) by simp]
    exact key
  · intro i hi
    have hp : 256 ^ i ≤ W := Nat.le_trans (Nat.pow_le_pow_right (by decide) (by omega)) (h1 (by omega))
    have hpos : 0 < W / 256 ^ i := Nat.div_pos hp (Nat.pow_pos (by decide))
    have hle : W / 256 ^ i ≤ W := Nat.div_le_self _ _
    rw [u2_1]
    unfold fX9_letter_L58
    rw [if_pos (cmp_gt.mpr (by omega)), show (8 : Int) = ((8 : Nat) : Int) from rfl, srl_n (by decide) (by omega), w32_s (v := (i : Int) + 1) (by omega) (by omega), Nat.div_div_eq_div_mul, show 256 ^ i * 2 ^ 8 = 256 ^ (i + 1) by rw [show (2 : Nat) ^ 8 = 256 from rfl, Nat.pow_succ]]
    simp
  · rw [u2_1]
    unfold fX9_letter_L58
    rw [Nat.div_eq_of_lt h2, if_neg (fun z => by have := cmp_gt.mp z; omega)]
theorem isTh_o {M : AwM} {so k v : Int} (hk : ¬ (0 ≤ k ∧ k < 3)) : fX5_isThere SH M so k v = some 0 := by
  unfold fX5_isThere
  by_cases a : k < 0
  · rw [if_pos a]
  · rw [if_neg a, if_neg (by omega)]
theorem many_n {M s d : AwM} {b L k : Int} (h : MM M b L s d) (k0 : 0 ≤ k) (k1 : k < 3) : fX9_manyOf SH M 167 b k = some (s 0 k) := by
  have hbb := h.b01
  unfold fX9_manyOf
  have : k = 0 ∨ k = 1 ∨ k = 2 := by omega
  rcases this with rfl | rfl | rfl
  · rw [if_pos rfl, kd167, gd_t rfl, ly167_14 h.lay, kd169, ga_t (by omega) (by omega), h.n0]
  · rw [if_neg (by decide), if_pos rfl, kd167, gd_t rfl, ly167_16 h.lay, kd171, ga_t (by omega) (by omega), h.n1]
  · rw [if_neg (by decide), if_neg (by decide), kd167, gd_t rfl, ly167_21 h.lay, kd176, ga_t (by omega) (by omega), h.n2]
theorem mname_n {M s d : AwM} {b L k w : Int} (h : MM M b L s d) (k0 : 0 ≤ k) (k1 : k < 3) (w0 : 0 ≤ w) (w1 : w < s 0 k) : fX9_nameOf SH M 167 b k w = some (n8 (s 5 (12 * k + w))) := by
  have hbb := h.b01
  have hc := h.ok.c
  have hp := h.ok.p
  have hg := h.ok.g
  have e := h.na k0 k1 w0 w1
  unfold fX9_nameOf
  have : k = 0 ∨ k = 1 ∨ k = 2 := by omega
  rcases this with rfl | rfl | rfl
  · rw [if_pos rfl, kd167, gd_t rfl, ly167_32 h.lay, kd187, w32_s (v := 10 * b) (by omega) (by omega), w32_s (v := 10 * b + w) (by omega) (by omega), ga_t (by omega) (by omega)]
    exact congrArg some e
  · rw [if_neg (by decide), if_pos rfl, kd167, gd_t rfl, ly167_33 h.lay, kd188, w32_s (v := 12 * b) (by omega) (by omega), w32_s (v := 12 * b + w) (by omega) (by omega), ga_t (by omega) (by omega)]
    exact congrArg some e
  · rw [if_neg (by decide), if_neg (by decide), kd167, gd_t rfl, ly167_34 h.lay, kd189, w32_s (v := 10 * b) (by omega) (by omega), w32_s (v := 10 * b + w) (by omega) (by omega), ga_t (by omega) (by omega)]
    exact congrArg some e
theorem cname_n {M s d : AwM} {cr so k w : Int} (h : CC M cr so s d) (k0 : 0 ≤ k) (k1 : k < 3) (w0 : 0 ≤ w) (w1 : w < s 0 k) : fX5_nameOf SH M so k w = some (s 5 (12 * k + w)) := by
  have hc := h.ok.c
  have hp := h.ok.p
  have hg := h.ok.g
  have hw : w < 12 := by
    have : k = 0 ∨ k = 1 ∨ k = 2 := by omega
    rcases this with rfl | rfl | rfl <;> omega
  unfold fX5_nameOf
  rw [kso0 h.hso, gd_t rfl, isTh_n h k0 k1, pb_1, u1_1, bi_if, if_pos (decide_eq_true ⟨w0, w1⟩), lso0_1 h.lay h.hso, kso2 h.hso, w32_s (v := k * 12) (by omega) (by omega), w32_s (v := k * 12 + w) (by omega) (by omega), ga_t (by omega) (by omega), show k * 12 + w = 12 * k + w by omega, h.na k0 k1 w0 w1]
theorem letter_e {M s d : AwM} {n : Int} {R : Int → AwM} {mi : AwM} {k w j : Int} (h : CR M s d n R mi) (g : MR M s d n R mi) : ∃ r, fX8_letter SH M 1 k w j = some r ∧ fX9_letter SH M 167 k w j = some r := by
  unfold fX8_letter fX9_letter
  rw [kd1, gd_t rfl, kso0 h.cc.hso, gd_t rfl, isr_n, pb_1, u1_1, bi_if]
  by_cases hk : 0 ≤ k ∧ k < 3
  · rw [if_pos (decide_eq_true (show 0 ≤ k ∧ k ≤ 2 by omega)), isTh_n h.cc hk.1 hk.2, pb_1, u1_1, bi_if, kd167, gd_t rfl, many_n g.mm hk.1 hk.2, pb_1, u1_1]
    have sb : 0 ≤ s 0 k ∧ s 0 k ≤ 12 := by
      have hc := h.cc.ok.c
      have hp := h.cc.ok.p
      have hg := h.cc.ok.g
      have : k = 0 ∨ k = 1 ∨ k = 2 := by omega
      rcases this with rfl | rfl | rfl <;> omega
    rw [is_n sb.1 (by omega), pb_1, u1_1, bi_if]
    by_cases hw : 0 ≤ w ∧ w < s 0 k
    · rw [if_pos (decide_eq_true hw), if_pos (decide_eq_true hw), isr_n, pb_1, u1_1, bi_if]
      by_cases hj : 0 ≤ j ∧ j ≤ 5
      · obtain ⟨L, W, e8, hL, q0, q1, q2, n0, n1, hx⟩ := nmX (h.cc.ok.na k w hk.1 hk.2 hw.1 hw.2)
        have hW : W < 2 ^ 63 := Nat.lt_of_lt_of_le q2 (Nat.le_trans (Nat.pow_le_pow_right (by decide) hL) (by decide))
        obtain ⟨i, rfl⟩ := Int.eq_ofNat_of_zero_le hj.1
        have hxi := hx i (by omega)
        refine ⟨ltN (s 5 (12 * k + w)) i, ?_, ?_⟩
        · have en : s 5 (12 * k + w) = (((s 5 (12 * k + w)).toNat : Nat) : Int) := by omega
          rw [if_neg (by omega), if_pos (by omega), cname_n h.cc hk.1 hk.2 hw.1 hw.2, pb_1, u1_1]
          unfold fX8_letterOf
          rw [w32_s (v := 5 * (i : Int)) (by omega) (by omega), show 5 * (i : Int) = ((5 * i : Nat) : Int) by simp, en, srl_n (by omega) (by omega)]
          have hle : (s 5 (12 * k + w)).toNat / 2 ^ (5 * i) ≤ (s 5 (12 * k + w)).toNat := Nat.div_le_self _ _
          have hlt : (s 5 (12 * k + w)).toNat / 2 ^ (5 * i) < 1073741824 := by
            have q : (s 5 (12 * k + w)).toNat < 1073741824 := by omega
            exact Nat.lt_of_le_of_lt hle q
          obtain ⟨Q, hQ⟩ : ∃ Q : Nat, Q = (s 5 (12 * k + w)).toNat / 2 ^ (5 * i) := ⟨_, rfl⟩
          rw [← hQ] at hlt ⊢
          rw [w32_s (v := (Q : Int)) (by omega) (by omega), an31 ⟨by omega, by omega⟩, pb_1, u1_1, hQ]
          unfold ltN
          rw [Nat.pow_mul]
          congr 1
        · rw [if_pos (decide_eq_true ⟨by omega, by omega⟩), mname_n g.mm hk.1 hk.2 hw.1 hw.2, pb_1, u1_1, e8, cnt_n hL q0 q1 q2, pb_1, u1_1, hxi]
          by_cases z : i < L
          · have hdb : W / 256 ^ (L - 1 - i) ≤ W := Nat.div_le_self _ _
            rw [if_pos (by omega), if_pos z, w32_s (v := (L : Int) - 1) (by omega) (by omega), w32_s (v := (L : Int) - 1 - (i : Int)) (by omega) (by omega), w32_s (v := 8 * ((L : Int) - 1 - (i : Int))) (by omega) (by omega), show 8 * ((L : Int) - 1 - (i : Int)) = ((8 * (L - 1 - i) : Nat) : Int) by omega, srl_n (by omega) hW, show W / 2 ^ (8 * (L - 1 - i)) = W / 256 ^ (L - 1 - i) by rw [Nat.pow_mul, show (2 : Nat) ^ 8 = 256 from rfl]]
            obtain ⟨Q, hQ⟩ : ∃ Q : Nat, Q = W / 256 ^ (L - 1 - i) := ⟨_, rfl⟩
            rw [← hQ] at hdb ⊢
            rw [anl255 ⟨by omega, by omega⟩, w32_s (v := (Q : Int) % 256) (by omega) (by omega), w32_s (v := (Q : Int) % 256 - 97) (by omega) (by omega), w32_s (v := (Q : Int) % 256 - 97 + 1) (by omega) (by omega)]
            congr 1
            omega
          · rw [if_neg (by omega), if_neg z]
      · refine ⟨-1, ?_, by rw [if_neg (by rw [decide_eq_false hj]; decide)]⟩
        by_cases a : j < 0
        · rw [if_pos a]
        · rw [if_neg a, if_neg (by omega)]
    · exact ⟨-1, by rw [if_neg (by rw [decide_eq_false hw]; decide)], by rw [if_neg (by rw [decide_eq_false hw]; decide)]⟩
  · rw [isTh_o hk, pb_1, u1_1, if_pos rfl, if_neg (by rw [decide_eq_true_iff]; omega)]
    exact ⟨-1, rfl, rfl⟩
end PLTR
