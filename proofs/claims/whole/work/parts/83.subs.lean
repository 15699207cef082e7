/-! the next set of some -/
section PSUBS
theorem land2 {a b i j : Nat} (hi : i < 2) (hj : j < 2) : (2 * a + i) &&& (2 * b + j) = 2 * (a &&& b) + i * j := by
  apply Nat.eq_of_testBit_eq
  intro k
  have hi' : i = 0 ∨ i = 1 := by omega
  have hj' : j = 0 ∨ j = 1 := by omega
  cases k with
  | zero =>
    rw [Nat.testBit_and, Nat.testBit_zero, Nat.testBit_zero, Nat.testBit_zero]
    have e1 : (2 * a + i) % 2 = i := by omega
    have e2 : (2 * b + j) % 2 = j := by omega
    have e3 : (2 * (a &&& b) + i * j) % 2 = i * j := by
      rcases hi' with rfl | rfl <;> rcases hj' with rfl | rfl <;> omega
    rw [e1, e2, e3]
    rcases hi' with rfl | rfl <;> rcases hj' with rfl | rfl <;> rfl
  | succ k =>
    rw [Nat.testBit_and, Nat.testBit_succ, Nat.testBit_succ, Nat.testBit_succ]
    have e1 : (2 * a + i) / 2 = a := by omega
    have e2 : (2 * b + j) / 2 = b := by omega
    have e3 : (2 * (a &&& b) + i * j) / 2 = a &&& b := by
      rcases hi' with rfl | rfl <;> rcases hj' with rfl | rfl <;> omega
    rw [e1, e2, e3, Nat.testBit_and]
theorem half (n : Nat) : ∃ a i, n = 2 * a + i ∧ i < 2 := ⟨n / 2, n % 2, by omega, by omega⟩
theorem sub_le {p h : Nat} (hs : p &&& h = p) : p ≤ h := by rw [← hs]; exact Nat.and_le_right
theorem sub2 {a b i j : Nat} (hi : i < 2) (hj : j < 2) (hs : (2 * a + i) &&& (2 * b + j) = 2 * a + i) : a &&& b = a ∧ i ≤ j := by
  rw [land2 hi hj] at hs
  have hi' : i = 0 ∨ i = 1 := by omega
  have hj' : j = 0 ∨ j = 1 := by omega
  rcases hi' with rfl | rfl <;> rcases hj' with rfl | rfl <;> omega
theorem cmpl : ∀ (m : Nat) {h p : Nat}, h < 2 ^ m → p &&& h = p → (2 ^ m - 1 - (h - p)) &&& h = p
  | 0, h, p, hh, hs => by
    have : h = 0 := by simpa using hh
    subst this
    have := sub_le hs
    simp
    omega
  | m + 1, h, p, hh, hs => by
    obtain ⟨b, j, rfl, hj⟩ := half h
    obtain ⟨a, i, rfl, hi⟩ := half p
    obtain ⟨s1, s2⟩ := sub2 hi hj hs
    have le := sub_le s1
    rw [Nat.pow_succ] at hh
    have ih := cmpl m (show b < 2 ^ m by omega) s1
    have e : 2 ^ (m + 1) - 1 - (2 * b + j - (2 * a + i)) = 2 * (2 ^ m - 1 - (b - a)) + (1 - (j - i)) := by
      rw [Nat.pow_succ]
      omega
    rw [e, land2 (by omega) hj, ih]
    have hi' : i = 0 ∨ i = 1 := by omega
    have hj' : j = 0 ∨ j = 1 := by omega
    rcases hi' with rfl | rfl <;> rcases hj' with rfl | rfl <;> omega
def nxt (m h p : Nat) : Nat := (p + 2 ^ m - h) &&& h
theorem nxt_ok : ∀ (m : Nat) {h p : Nat}, h < 2 ^ m → p &&& h = p → (p = h ∧ nxt m h p = 0) ∨ (p < nxt m h p ∧ nxt m h p &&& h = nxt m h p ∧ ∀ x, x &&& h = x → p < x → nxt m h p ≤ x)
  | 0, h, p, hh, hs => by
    have : h = 0 := by simpa using hh
    subst this
    have := sub_le hs
    exact Or.inl ⟨by omega, by unfold nxt; simp⟩
  | m + 1, h, p, hh, hs => by
    obtain ⟨b, j, rfl, hj⟩ := half h
    obtain ⟨a, i, rfl, hi⟩ := half p
    obtain ⟨s1, s2⟩ := sub2 hi hj hs
    have le := sub_le s1
    rw [Nat.pow_succ] at hh
    have hb : b < 2 ^ m := by omega
    have hi' : i = 0 ∨ i = 1 := by omega
    have hj' : j = 0 ∨ j = 1 := by omega
    by_cases hij : i = j
    · subst hij
      have e : nxt (m + 1) (2 * b + i) (2 * a + i) = 2 * nxt m b a := by
        unfold nxt
        rw [show 2 * a + i + 2 ^ (m + 1) - (2 * b + i) = 2 * (a + 2 ^ m - b) + 0 by rw [Nat.pow_succ]; omega, land2 (by omega) hj]
        omega
      rw [e]
      rcases nxt_ok m hb s1 with ⟨x, y⟩ | ⟨x, y, z⟩
      · exact Or.inl ⟨by omega, by omega⟩
      · refine Or.inr ⟨by omega, ?_, fun w hw hlt => ?_⟩
        · have := land2 (a := nxt m b a) (b := b) (i := 0) (j := i) (by omega) hj
          rw [Nat.add_zero, y, Nat.zero_mul, Nat.add_zero] at this
          exact this
        · obtain ⟨c, k, rfl, hk⟩ := half w
          obtain ⟨t1, t2⟩ := sub2 hk hj hw
          have := z c t1
          omega
    · have hi0 : i = 0 := by omega
      have hj1 : j = 1 := by omega
      subst hi0
      subst hj1
      have e : nxt (m + 1) (2 * b + 1) (2 * a + 0) = 2 * a + 1 := by
        unfold nxt
        rw [show 2 * a + 0 + 2 ^ (m + 1) - (2 * b + 1) = 2 * (2 ^ m - 1 - (b - a)) + 1 by rw [Nat.pow_succ]; omega, land2 (by omega) hj, cmpl m hb s1]
      rw [e]
      refine Or.inr ⟨by omega, ?_, fun w hw hlt => by omega⟩
      rw [land2 (by omega) (by omega), s1]
theorem nxtI {h p : Nat} (hh : h < 4096) (hs : p &&& h = p) : an_ (w32 ((p : Int) - (h : Int))) (h : Int) = ((nxt 32 h p : Nat) : Int) := by
  have le := sub_le hs
  have hN : ((p + 2 ^ 32 - h : Nat) : Int) = (p : Int) + 4294967296 - h := by omega
  have hw : w32 ((p : Int) - (h : Int)) = w32 ((p : Int) + 4294967296 - h) := by
    unfold w32
    omega
  have e : i32 (w32 ((p : Int) - (h : Int))) = i32 ((p + 2 ^ 32 - h : Nat) : Int) := by
    rw [hw, i32_w, hN]
  unfold an_
  rw [e, iN, iN, nand_]
  have hlt : (p + 2 ^ 32 - h) &&& h < 2 ^ 31 := Nat.lt_of_le_of_lt Nat.and_le_right (by omega)
  rw [nI_toInt hlt]
  rfl
end PSUBS
