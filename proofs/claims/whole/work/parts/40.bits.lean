/-! numbers of bits -/
section PBITS
theorem iN (n : Nat) : i32 (n : Int) = nI n := rfl
theorem s31_ : ∀ k : Nat, k < 32 → ((nI k &&& 31).toBitVec.smod 32).toNat = k := by decide +kernel
theorem nand_ (a b : Nat) : nI a &&& nI b = nI (a &&& b) := by
  apply Int32.toBitVec_inj.1
  show BitVec.ofNat 32 a &&& BitVec.ofNat 32 b = BitVec.ofNat 32 (a &&& b)
  apply BitVec.eq_of_getLsbD_eq
  intro i hi
  simp [hi]
theorem nor_ (a b : Nat) : nI a ||| nI b = nI (a ||| b) := by
  apply Int32.toBitVec_inj.1
  show BitVec.ofNat 32 a ||| BitVec.ofNat 32 b = BitVec.ofNat 32 (a ||| b)
  apply BitVec.eq_of_getLsbD_eq
  intro i hi
  simp [hi]
theorem an_n {a b : Nat} (ha : a < 2 ^ 31) : an_ a b = ((a &&& b : Nat) : Int) := by
  unfold an_
  rw [iN, iN, nand_, nI_toInt (Nat.lt_of_le_of_lt Nat.and_le_left ha)]
theorem or_n {a b : Nat} (ha : a < 2 ^ 31) (hb : b < 2 ^ 31) : or_ a b = ((a ||| b : Nat) : Int) := by
  unfold or_
  rw [iN, iN, nor_, nI_toInt (Nat.or_lt_two_pow ha hb)]
theorem sl_n {a k : Nat} (hk : k < 32) (h : a * 2 ^ k < 2 ^ 31) : sl_ a k = ((a * 2 ^ k : Nat) : Int) := by
  unfold sl_
  rw [iN, iN, pk_shlN _ k (s31_ k hk) (by omega), nI_toInt h]
theorem sr_n {a k : Nat} (hk : k < 32) (h : a < 2 ^ 31) : sr_ a k = ((a / 2 ^ k : Nat) : Int) := by
  unfold sr_
  rw [iN, iN, pk_shrN h _ k (s31_ k hk), nI_toInt (Nat.lt_of_le_of_lt (Nat.div_le_self _ _) h)]
/-- bit k of m -/
def hb (m k : Int) : Bool := m.toNat.testBit k.toNat
/-- m with bit k, and without -/
def stb (m k : Int) : Int := ((m.toNat ||| 2 ^ k.toNat : Nat) : Int)
def clb (m k : Int) : Int := ((m.toNat ^^^ (m.toNat &&& 2 ^ k.toNat) : Nat) : Int)
theorem bit_n {m k : Int} (h0 : 0 ≤ m) (h1 : m < 2147483648) (k0 : 0 ≤ k) (k1 : k < 32) : an_ (sr_ m k) 1 = if hb m k then 1 else 0 := by
  obtain ⟨a, rfl⟩ := Int.eq_ofNat_of_zero_le h0
  obtain ⟨j, rfl⟩ := Int.eq_ofNat_of_zero_le k0
  have ha : a < 2 ^ 31 := by omega
  rw [sr_n (by omega) ha, show (1 : Int) = ((1 : Nat) : Int) from rfl, an_n (Nat.lt_of_le_of_lt (Nat.div_le_self _ _) ha)]
  unfold hb
  rw [Int.toNat_natCast, Int.toNat_natCast, Nat.and_one_is_mod, Nat.testBit_eq_decide_div_mod_eq]
  by_cases h : a / 2 ^ j % 2 = 1
  · simp [h]
  · have : a / 2 ^ j % 2 = 0 := by omega
    simp [this]
theorem stb_n {m k : Int} (h0 : 0 ≤ m) (h1 : m < 2147483648) (k0 : 0 ≤ k) (k1 : k < 31) : or_ m (sl_ 1 k) = stb m k := by
  obtain ⟨a, rfl⟩ := Int.eq_ofNat_of_zero_le h0
  obtain ⟨j, rfl⟩ := Int.eq_ofNat_of_zero_le k0
  have hp : (2 : Nat) ^ j < 2 ^ 31 := Nat.pow_lt_pow_right (by omega) (by omega)
  rw [show (1 : Int) = ((1 : Nat) : Int) from rfl, sl_n (by omega) (by rw [Nat.one_mul]; exact hp), Nat.one_mul, or_n (by omega) hp]
  rfl
theorem sl1_n {k : Int} (k0 : 0 ≤ k) (k1 : k < 31) : sl_ 1 k = stb 0 k := by
  obtain ⟨j, rfl⟩ := Int.eq_ofNat_of_zero_le k0
  have hp : (2 : Nat) ^ j < 2 ^ 31 := Nat.pow_lt_pow_right (by omega) (by omega)
  rw [show (1 : Int) = ((1 : Nat) : Int) from rfl, sl_n (by omega) (by rw [Nat.one_mul]; exact hp), Nat.one_mul]
  simp [stb]
theorem or0_ {m : Int} (h0 : 0 ≤ m) (h1 : m < 2147483648) : or_ m 0 = m := by
  obtain ⟨a, rfl⟩ := Int.eq_ofNat_of_zero_le h0
  rw [show (0 : Int) = ((0 : Nat) : Int) from rfl, or_n (by omega) (by omega)]
  simp
theorem clb_n {m k : Int} (h0 : 0 ≤ m) (h1 : m < 2147483648) (k0 : 0 ≤ k) (k1 : k < 31) : an_ m (xo_ (sl_ 1 k) (-1)) = clb m k := by
  obtain ⟨a, rfl⟩ := Int.eq_ofNat_of_zero_le h0
  obtain ⟨j, rfl⟩ := Int.eq_ofNat_of_zero_le k0
  have hp : (2 : Nat) ^ j < 2 ^ 31 := Nat.pow_lt_pow_right (by omega) (by omega)
  have ha : a < 2 ^ 31 := by omega
  rw [show (1 : Int) = ((1 : Nat) : Int) from rfl, sl_n (by omega) (by rw [Nat.one_mul]; exact hp), Nat.one_mul]
  unfold an_ xo_ clb
  rw [i32_t, Int.toNat_natCast, Int.toNat_natCast, iN, iN]
  have hx : a ^^^ (a &&& 2 ^ j) < 2 ^ 31 := Nat.xor_lt_two_pow ha (Nat.lt_of_le_of_lt Nat.and_le_left ha)
  rw [← nI_toInt hx]
  congr 1
  apply Int32.toBitVec_inj.1
  show BitVec.ofNat 32 a &&& (BitVec.ofNat 32 (2 ^ j) ^^^ BitVec.ofInt 32 (-1)) = BitVec.ofNat 32 (a ^^^ (a &&& 2 ^ j))
  apply BitVec.eq_of_getLsbD_eq
  intro i hi
  have hm : (BitVec.ofInt 32 (-1)).getLsbD i = true := by
    have : BitVec.ofInt 32 (-1) = BitVec.allOnes 32 := by decide
    rw [this, BitVec.getLsbD_allOnes]
    exact decide_eq_true hi
  simp only [BitVec.getLsbD_and, BitVec.getLsbD_xor, BitVec.getLsbD_ofNat, hm, Nat.testBit_xor, Nat.testBit_and]
  cases a.testBit i <;> cases (2 ^ j).testBit i <;> simp [hi]
theorem hb_stb {m k q : Int} (k0 : 0 ≤ k) (q0 : 0 ≤ q) : hb (stb m k) q = (hb m q || decide (k = q)) := by
  unfold hb stb
  rw [Int.toNat_natCast, Nat.testBit_or, Nat.testBit_two_pow]
  congr 1
  simp only [decide_eq_decide]
  omega
theorem hb_clb {m k q : Int} (k0 : 0 ≤ k) (q0 : 0 ≤ q) : hb (clb m k) q = (hb m q && !decide (k = q)) := by
  unfold hb clb
  rw [Int.toNat_natCast, Nat.testBit_xor, Nat.testBit_and, Nat.testBit_two_pow]
  have : decide (k.toNat = q.toNat) = decide (k = q) := by
    simp only [decide_eq_decide]
    omega
  rw [this]
  cases m.toNat.testBit q.toNat <;> simp
theorem hb_0 (q : Int) : hb 0 q = false := by unfold hb; simp
/-- a set of at most n things -/
def ms (n : Nat) (m : Int) : Prop := 0 ≤ m ∧ m < 2 ^ n
theorem ms_0 (n : Nat) : ms n 0 := ⟨by omega, by have := Nat.two_pow_pos n; have h : ((2 ^ n : Nat) : Int) = (2 : Int) ^ n := (by simp); rw [← h]; omega⟩
theorem ms_n {n : Nat} {m : Int} : ms n m ↔ ∃ a : Nat, m = (a : Int) ∧ a < 2 ^ n := by
  have h : ((2 ^ n : Nat) : Int) = (2 : Int) ^ n := by simp
  unfold ms
  rw [← h]
  constructor
  · intro ⟨h1, h2⟩
    exact ⟨m.toNat, by omega, by omega⟩
  · rintro ⟨a, rfl, h2⟩
    exact ⟨by omega, by omega⟩
theorem ms_lt {n : Nat} {m : Int} (h : ms n m) (hn : n ≤ 31) : 0 ≤ m ∧ m < 2147483648 := by
  obtain ⟨a, rfl, ha⟩ := ms_n.mp h
  have : (2 : Nat) ^ n ≤ 2 ^ 31 := Nat.pow_le_pow_right (by omega) hn
  omega
theorem ms_stb {n : Nat} {m k : Int} (h : ms n m) (k0 : 0 ≤ k) (k1 : k < n) : ms n (stb m k) := by
  obtain ⟨a, rfl, ha⟩ := ms_n.mp h
  exact ms_n.mpr ⟨_, rfl, Nat.or_lt_two_pow (by simpa using ha) (Nat.pow_lt_pow_right (by omega) (by omega))⟩
theorem ms_clb {n : Nat} {m k : Int} (h : ms n m) : ms n (clb m k) := by
  obtain ⟨a, rfl, ha⟩ := ms_n.mp h
  refine ms_n.mpr ⟨_, rfl, ?_⟩
  rw [Int.toNat_natCast]
  exact Nat.xor_lt_two_pow ha (Nat.lt_of_le_of_lt Nat.and_le_left ha)
theorem ms_hb {n : Nat} {m q : Int} (h : ms n m) (hq : (n : Int) ≤ q) : hb m q = false := by
  obtain ⟨a, rfl, ha⟩ := ms_n.mp h
  unfold hb
  exact Nat.testBit_lt_two_pow (Nat.lt_of_lt_of_le (by simpa using ha) (Nat.pow_le_pow_right (by omega) (by omega)))
theorem ms_ext {n : Nat} {m w : Int} (h : ms n m) (hw : ms n w) (he : ∀ q : Int, 0 ≤ q → q < n → hb m q = hb w q) : m = w := by
  obtain ⟨a, rfl, ha⟩ := ms_n.mp h
  obtain ⟨b, rfl, hb'⟩ := ms_n.mp hw
  congr 1
  apply Nat.eq_of_testBit_eq
  intro i
  by_cases hi : i < n
  · have := he (i : Int) (by omega) (by omega)
    simpa [hb] using this
  · rw [Nat.testBit_lt_two_pow (Nat.lt_of_lt_of_le ha (Nat.pow_le_pow_right (by omega) (by omega))), Nat.testBit_lt_two_pow (Nat.lt_of_lt_of_le hb' (Nat.pow_le_pow_right (by omega) (by omega)))]
theorem ms_and {n : Nat} {m w : Int} (hn : n ≤ 31) (h : ms n m) (hw : 0 ≤ w) : ms n (an_ m w) ∧ ∀ q : Int, hb (an_ m w) q = (hb m q && hb w q) := by
  obtain ⟨a, rfl, ha⟩ := ms_n.mp h
  obtain ⟨b, rfl⟩ := Int.eq_ofNat_of_zero_le hw
  have h31 : (2 : Nat) ^ n ≤ 2 ^ 31 := Nat.pow_le_pow_right (by omega) hn
  rw [an_n (by omega)]
  refine ⟨ms_n.mpr ⟨_, rfl, Nat.lt_of_le_of_lt Nat.and_le_left ha⟩, fun q => ?_⟩
  unfold hb
  rw [Int.toNat_natCast, Int.toNat_natCast, Int.toNat_natCast, Nat.testBit_and]
end PBITS
