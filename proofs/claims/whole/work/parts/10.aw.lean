/-! the abstract walk: numbers are Int, the heap is a function of places; one row an instruction -/
section AWN
def I32 (v : Int) : Prop := -2147483648 ≤ v ∧ v ≤ 2147483647
def I64 (v : Int) : Prop := -9223372036854775808 ≤ v ∧ v ≤ 9223372036854775807
def w32 (v : Int) : Int := (v + 2147483648) % 4294967296 - 2147483648
def w64 (v : Int) : Int := (v + 9223372036854775808) % 18446744073709551616 - 9223372036854775808
def w8_ (v : Int) : Int := (v + 128) % 256 - 128
abbrev i32 (v : Int) : Int32 := Int32.ofInt v
abbrev i64 (v : Int) : Int64 := Int64.ofInt v
theorem w32_in (v : Int) : I32 (w32 v) := by unfold I32 w32; omega
theorem w64_in (v : Int) : I64 (w64 v) := by unfold I64 w64; omega
theorem w32_id {v : Int} (h : I32 v) : w32 v = v := by unfold I32 at h; unfold w32; omega
theorem w64_id {v : Int} (h : I64 v) : w64 v = v := by unfold I64 at h; unfold w64; omega
theorem I32.i64 {v : Int} (h : I32 v) : I64 v := by unfold I32 at h; unfold I64; omega
theorem w32_bm (v : Int) : v.bmod (2 ^ 32) = w32 v := by unfold w32; rw [Int.bmod_def]; split <;> omega
theorem w64_bm (v : Int) : v.bmod (2 ^ 64) = w64 v := by unfold w64; rw [Int.bmod_def]; split <;> omega
theorem w8_bm (v : Int) : v.bmod (2 ^ 8) = w8_ v := by unfold w8_; rw [Int.bmod_def]; split <;> omega
theorem i32_T (v : Int) : (i32 v).toInt = w32 v := by rw [← w32_bm]; exact Int32.toInt_ofInt
theorem i64_T (v : Int) : (i64 v).toInt = w64 v := by rw [← w64_bm]; exact Int64.toInt_ofInt
theorem i32_i {v : Int} (h : I32 v) : (i32 v).toInt = v := by rw [i32_T, w32_id h]
theorem i64_i {v : Int} (h : I64 v) : (i64 v).toInt = v := by rw [i64_T, w64_id h]
theorem i32_t (v : Int32) : i32 v.toInt = v := Int32.ofInt_toInt v
theorem i64_t (v : Int64) : i64 v.toInt = v := Int64.ofInt_toInt v
theorem i32_r (v : Int32) : I32 v.toInt := by
  have h1 := v.toInt_lt; have h2 := v.le_toInt; unfold I32; omega
theorem i64_r (v : Int64) : I64 v.toInt := by
  have h1 := v.toInt_lt; have h2 := v.le_toInt; unfold I64; omega
theorem i32_x {v w : Int} (hv : I32 v) (hw : I32 w) : i32 v = i32 w ↔ v = w := by
  rw [← Int32.toInt_inj, i32_i hv, i32_i hw]
theorem i64_x {v w : Int} (hv : I64 v) (hw : I64 w) : i64 v = i64 w ↔ v = w := by
  rw [← Int64.toInt_inj, i64_i hv, i64_i hw]
theorem i32_w (v : Int) : i32 (w32 v) = i32 v := by rw [← Int32.toInt_inj, i32_T, i32_T, w32_id (w32_in v)]
theorem i64_w (v : Int) : i64 (w64 v) = i64 v := by rw [← Int64.toInt_inj, i64_T, i64_T, w64_id (w64_in v)]
theorem i32_lt {v w : Int} (hv : I32 v) (hw : I32 w) : i32 v < i32 w ↔ v < w := by rw [Int32.lt_iff_toInt_lt, i32_i hv, i32_i hw]
theorem i32_le {v w : Int} (hv : I32 v) (hw : I32 w) : i32 v ≤ i32 w ↔ v ≤ w := by rw [Int32.le_iff_toInt_le, i32_i hv, i32_i hw]
theorem I32_0 : I32 0 := by unfold I32; omega
theorem i32_0 : i32 0 = 0 := rfl
theorem i64_0 : i64 0 = 0 := rfl
theorem i32_cl {v : Int} (h : I32 v) : (i32 v).toNatClampNeg = v.toNat := by
  show (i32 v).toInt.toNat = v.toNat
  rw [i32_i h]
theorem i32_vin {v : Int} {n : Nat} (h : I32 v) (h0 : 0 ≤ v) (h1 : v < n) : ¬ (i32 v < 0 ∨ n ≤ (i32 v).toNatClampNeg) := by
  rw [i32_cl h, ← i32_0, i32_lt h I32_0]; omega
def an_ (v w : Int) : Int := (i32 v &&& i32 w).toInt
def or_ (v w : Int) : Int := (i32 v ||| i32 w).toInt
def xo_ (v w : Int) : Int := (i32 v ^^^ i32 w).toInt
def sl_ (v w : Int) : Int := (i32 v <<< (i32 w &&& 31)).toInt
def sr_ (v w : Int) : Int := (i32 v >>> (i32 w &&& 31)).toInt
def us_ (v w : Int) : Int := ((i32 v).toUInt32 >>> ((i32 w).toUInt32 &&& Int32.toUInt32 31)).toInt32.toInt
def anl_ (v w : Int) : Int := (i64 v &&& i64 w).toInt
def orl_ (v w : Int) : Int := (i64 v ||| i64 w).toInt
def xol_ (v w : Int) : Int := (i64 v ^^^ i64 w).toInt
def sll_ (v w : Int) : Int := (i64 v <<< ((i32 w).toInt64 &&& 63)).toInt
def srl_ (v w : Int) : Int := (i64 v >>> ((i32 w).toInt64 &&& 63)).toInt
def cmp_ (v w : Int) : Int := if v > w then 1 else if v = w then 0 else -1
def c16_ (v : Int) : Int := v % 65536
theorem lg_cmp_i {v w : Int} (hv : I64 v) (hw : I64 w) : lg_cmp (i64 v) (i64 w) = i32 (cmp_ v w) := by
  unfold lg_cmp cmp_
  have h1 : (i64 v > i64 w) ↔ v > w := by
    show i64 w < i64 v ↔ w < v
    rw [Int64.lt_iff_toInt_lt, i64_i hv, i64_i hw]
  have h2 := i64_x hv hw
  by_cases a : v > w
  · rw [if_pos a, if_pos (h1.mpr a)]; rfl
  · rw [if_neg a, if_neg (fun z => a (h1.mp z))]
    by_cases b : v = w
    · rw [if_pos b, if_pos (h2.mpr b)]; rfl
    · rw [if_neg b, if_neg (fun z => b (h2.mp z))]; rfl
theorem cmp_in (v w : Int) : I32 (cmp_ v w) := by unfold cmp_ I32; split <;> (try split) <;> omega
theorem tmod_b (v w : Int) : (v.tmod w).natAbs ≤ v.natAbs ∧ (0 ≤ v → 0 ≤ v.tmod w) ∧ (v ≤ 0 → v.tmod w ≤ 0) := by
  refine ⟨by rw [Int.natAbs_tmod]; exact Nat.mod_le _ _, fun h => Int.tmod_nonneg w h, fun h => ?_⟩
  have e : v.tmod w = -((-v).tmod w) := by simp [Int.neg_tmod]
  have h2 := Int.tmod_nonneg w (show 0 ≤ -v by omega)
  omega
theorem tmod_in {v w : Int} (hv : I32 v) : I32 (v.tmod w) := by
  obtain ⟨h1, h2, h3⟩ := tmod_b v w
  unfold I32 at *
  omega
theorem tmodL_in {v w : Int} (hv : I64 v) : I64 (v.tmod w) := by
  obtain ⟨h1, h2, h3⟩ := tmod_b v w
  unfold I64 at *
  omega
theorem i32_rem {v w : Int} (hv : I32 v) (hw : I32 w) : i32 v - i32 v / i32 w * i32 w = i32 (v.tmod w) := by
  rw [← Int32.toInt_inj, rem_toInt, i32_i hv, i32_i hw, i32_i (tmod_in hv)]
theorem i32_div {v w : Int} (hv : I32 v) (hw : I32 w) : i32 v / i32 w = i32 (w32 (v.tdiv w)) := by
  rw [← Int32.toInt_inj, Int32.toInt_div, i32_i hv, i32_i hw, w32_bm, i32_i (w32_in _)]
theorem i64_div {v w : Int} (hv : I64 v) (hw : I64 w) : i64 v / i64 w = i64 (w64 (v.tdiv w)) := by
  rw [← Int64.toInt_inj, Int64.toInt_div, i64_i hv, i64_i hw, w64_bm, i64_i (w64_in _)]
theorem i64_rem {v w : Int} (hv : I64 v) (hw : I64 w) : i64 v - i64 v / i64 w * i64 w = i64 (v.tmod w) := by
  rw [← Int64.toInt_inj, Int64.toInt_sub, Int64.toInt_mul, i64_div hv hw, i64_i hv, i64_i hw, i64_i (w64_in _), i64_i (tmodL_in hv)]
  simp only [w64_bm]
  have e : v.tmod w = v - w * v.tdiv w := by have := Int.mul_tdiv_add_tmod v w; omega
  have hm := tmodL_in (w := w) hv
  generalize v.tdiv w = q at *
  have hq : ∃ z : Int, w64 q = q + 18446744073709551616 * z := ⟨-((q + 9223372036854775808) / 18446744073709551616), by unfold w64; omega⟩
  obtain ⟨z, hz⟩ := hq
  have hq2 : ∃ y : Int, w64 (w64 q * w) = w64 q * w + 18446744073709551616 * y := ⟨-((w64 q * w + 9223372036854775808) / 18446744073709551616), by
    show (w64 q * w + 9223372036854775808) % 18446744073709551616 - 9223372036854775808 = _
    omega⟩
  obtain ⟨y, hy⟩ := hq2
  rw [hy, hz, Int.add_mul, Int.mul_assoc]
  generalize z * w = zw at *
  have hwq : w * q = q * w := Int.mul_comm w q
  rw [hwq] at e
  generalize q * w = qw at *
  unfold I64 at hm
  unfold w64
  omega
theorem i32_add (v w : Int) : i32 v + i32 w = i32 (w32 (v + w)) := by rw [i32_w]; exact (Int32.ofInt_add v w).symm
theorem i32_sub (v w : Int) : i32 v - i32 w = i32 (w32 (v - w)) := by rw [i32_w]; exact (Int32.ofInt_sub v w).symm
theorem i32_mul (v w : Int) : i32 v * i32 w = i32 (w32 (v * w)) := by rw [i32_w]; exact (Int32.ofInt_mul v w).symm
theorem i32_neg (v : Int) : - i32 v = i32 (w32 (-v)) := by rw [i32_w]; exact (Int32.ofInt_neg v).symm
theorem i64_add (v w : Int) : i64 v + i64 w = i64 (w64 (v + w)) := by rw [i64_w]; exact (Int64.ofInt_add v w).symm
theorem i64_sub (v w : Int) : i64 v - i64 w = i64 (w64 (v - w)) := by rw [i64_w]; exact (Int64.ofInt_sub v w).symm
theorem i64_mul (v w : Int) : i64 v * i64 w = i64 (w64 (v * w)) := by rw [i64_w]; exact (Int64.ofInt_mul v w).symm
theorem i32_l2i (v : Int) : (i64 v).toInt32 = i32 (w32 v) := by rw [i32_w]; exact Int64.toInt32_ofInt
theorem i32_i2l {v : Int} (h : I32 v) : (i32 v).toInt64 = i64 v := by
  rw [← Int64.toInt_inj, Int32.toInt_toInt64, i32_i h, i64_i h.i64]
theorem w8_in (v : Int) : I32 (w8_ v) := by unfold I32 w8_; omega
theorem i32_i2b {v : Int} (h : I32 v) : (i32 v).toInt8.toInt32 = i32 (w8_ v) := by
  rw [← Int32.toInt_inj, Int8.toInt_toInt32, Int32.toInt_toInt8, i32_i h, i32_i (w8_in v), w8_bm]
theorem c16_in (v : Int) : I32 (c16_ v) := by unfold I32 c16_; omega
theorem i32_ne0 {v : Int} (h : I32 v) (h0 : v ≠ 0) : ¬ i32 v = 0 := fun z => h0 ((i32_x h I32_0).mp z)
theorem i64_ne0 {v : Int} (h : I64 v) (h0 : v ≠ 0) : ¬ i64 v = 0 := fun z => h0 ((i64_x h (by unfold I64; omega)).mp z)
end AWN
