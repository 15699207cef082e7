/-! words: letters packed by five bits and by eight -/
section PWRD
theorem b64_n {a : Nat} (ha : a < 2 ^ 63) : (i64 (a : Int)).toBitVec.toNat = a := by
  have hx : (i64 (a : Int)).toInt = (a : Int) := i64_i ⟨by omega, by omega⟩
  have e : (i64 (a : Int)).toInt = (i64 (a : Int)).toBitVec.toInt := rfl
  have lt := (i64 (a : Int)).toBitVec.isLt
  rw [e, BitVec.toInt_eq_toNat_cond] at hx
  split at hx <;> omega
theorem orl_n {a b : Nat} (ha : a < 2 ^ 63) (hb' : b < 2 ^ 63) : orl_ (a : Int) (b : Int) = ((a ||| b : Nat) : Int) := by
  have e : (i64 (a : Int) ||| i64 (b : Int)).toInt = ((i64 (a : Int)).toBitVec ||| (i64 (b : Int)).toBitVec).toInt := rfl
  have n1 : ((i64 (a : Int)).toBitVec ||| (i64 (b : Int)).toBitVec).toNat = a ||| b := by rw [BitVec.toNat_or, b64_n ha, b64_n hb']
  have lt := Nat.or_lt_two_pow ha hb'
  unfold orl_
  rw [e, BitVec.toInt_eq_toNat_cond, n1, if_pos (by omega)]
theorem sll_n {a k : Nat} (hk : k < 64) (h : a * 2 ^ k < 2 ^ 63) : sll_ (a : Int) (k : Int) = ((a * 2 ^ k : Nat) : Int) := by
  have s63 : ∀ k : Nat, k < 64 → (((nI k).toInt64 &&& 63).toBitVec.smod 64).toNat = k := by decide +kernel
  have ha : a < 2 ^ 63 := Nat.lt_of_le_of_lt (Nat.le_mul_of_pos_right a (Nat.two_pow_pos k)) h
  have e : (i64 (a : Int) <<< ((i32 (k : Int)).toInt64 &&& 63)).toInt = ((i64 (a : Int)).toBitVec <<< (((i32 (k : Int)).toInt64 &&& 63).toBitVec.smod 64)).toInt := rfl
  have n1 : ((i64 (a : Int)).toBitVec <<< (((i32 (k : Int)).toInt64 &&& 63).toBitVec.smod 64)).toNat = a * 2 ^ k := by
    rw [BitVec.shiftLeft_eq', BitVec.toNat_shiftLeft, b64_n ha, iN, s63 k hk, Nat.shiftLeft_eq, Nat.mod_eq_of_lt (by omega)]
  unfold sll_
  rw [e, BitVec.toInt_eq_toNat_cond, n1, if_pos (by omega)]
def ltr (c : Int) : Prop := 97 ≤ c ∧ c ≤ 122
def w5 (T : Int → Int) : Int → Nat → Int
  | _, 0 => 0
  | i, m + 1 => (T i - 96) + 32 * w5 T (i + 1) m
def w8 (T : Int → Int) : Int → Nat → Int → Int
  | _, 0, a => a
  | i, m + 1, a => w8 T (i + 1) m (256 * a + T i)
theorem w5_e (T : Int → Int) : ∀ (m : Nat) (i : Int), w5 T i (m + 1) = w5 T i m + 32 ^ m * (T (i + (m : Int)) - 96)
  | 0, i => by
    show (T i - 96) + 32 * 0 = 0 + 32 ^ 0 * (T (i + ((0 : Nat) : Int)) - 96)
    rw [show i + ((0 : Nat) : Int) = i by omega, Int.pow_zero]
    omega
  | m + 1, i => by
    have ih := w5_e T m (i + 1)
    show (T i - 96) + 32 * w5 T (i + 1) (m + 1) = ((T i - 96) + 32 * w5 T (i + 1) m) + 32 ^ (m + 1) * (T (i + ((m + 1 : Nat) : Int)) - 96)
    rw [ih, show i + 1 + (m : Int) = i + ((m + 1 : Nat) : Int) by omega, Int.pow_succ, Int.mul_comm (32 ^ m) 32, Int.mul_assoc]
    omega
theorem w5_b {T : Int → Int} : ∀ (m : Nat) (i : Int), (∀ k : Int, i ≤ k → k < i + (m : Int) → ltr (T k)) → 0 ≤ w5 T i m ∧ w5 T i m < 32 ^ m
  | 0, i, _ => ⟨Int.le_refl _, by show (0 : Int) < 32 ^ 0; decide⟩
  | m + 1, i, h => by
    obtain ⟨a, b⟩ := w5_b m (i + 1) (fun k x y => h k (by omega) (by omega))
    have l := h i (by omega) (by omega)
    unfold ltr at l
    show 0 ≤ (T i - 96) + 32 * w5 T (i + 1) m ∧ (T i - 96) + 32 * w5 T (i + 1) m < 32 ^ (m + 1)
    rw [Int.pow_succ]
    omega
theorem w8_e (T : Int → Int) : ∀ (m : Nat) (i a : Int), w8 T i (m + 1) a = 256 * w8 T i m a + T (i + (m : Int))
  | 0, i, a => by
    show 256 * a + T i = 256 * a + T (i + ((0 : Nat) : Int))
    rw [show i + ((0 : Nat) : Int) = i by omega]
  | m + 1, i, a => by
    have ih := w8_e T m (i + 1) (256 * a + T i)
    show w8 T (i + 1) (m + 1) (256 * a + T i) = 256 * w8 T (i + 1) m (256 * a + T i) + T (i + ((m + 1 : Nat) : Int))
    rw [ih, show i + 1 + (m : Int) = i + ((m + 1 : Nat) : Int) by omega]
theorem w8_b {T : Int → Int} (a : Int) : ∀ (m : Nat) (i : Int), (∀ k : Int, i ≤ k → k < i + (m : Int) → ltr (T k)) → a * 256 ^ m ≤ w8 T i m a ∧ w8 T i m a < (a + 1) * 256 ^ m
  | 0, i, _ => by
    show a * 256 ^ 0 ≤ a ∧ a < (a + 1) * 256 ^ 0
    rw [Int.pow_zero]
    omega
  | m + 1, i, h => by
    obtain ⟨p, q⟩ := w8_b a m i (fun k x y => h k (by omega) (by omega))
    have l := h (i + (m : Int)) (by omega) (by omega)
    unfold ltr at l
    rw [w8_e, Int.pow_succ, ← Int.mul_assoc, ← Int.mul_assoc]
    omega
theorem n8f_0 (k : Nat) (a : Int) : n8f k 0 a = a := by cases k <;> rfl
theorem n8_w {T : Int → Int} : ∀ (m k : Nat) (i a : Int), m ≤ k → (∀ q : Int, i ≤ q → q < i + (m : Int) → ltr (T q)) → n8f k (w5 T i m) a = w8 T i m a
  | 0, k, i, a, _, _ => n8f_0 k a
  | m + 1, k, i, a, hk, h => by
    obtain ⟨k, rfl⟩ : ∃ j, k = j + 1 := ⟨k - 1, by omega⟩
    have ht : ∀ q : Int, i + 1 ≤ q → q < i + 1 + (m : Int) → ltr (T q) := fun q x y => h q (by omega) (by omega)
    have ih := n8_w m k (i + 1) (256 * a + T i) (by omega) ht
    have wb := w5_b m (i + 1) ht
    have l := h i (by omega) (by omega)
    unfold ltr at l
    show (if (T i - 96) + 32 * w5 T (i + 1) m ≤ 0 then a else n8f k (((T i - 96) + 32 * w5 T (i + 1) m) / 32) (256 * a + 96 + ((T i - 96) + 32 * w5 T (i + 1) m) % 32)) = w8 T (i + 1) m (256 * a + T i)
    rw [if_neg (by omega), show ((T i - 96) + 32 * w5 T (i + 1) m) / 32 = w5 T (i + 1) m by omega, show 256 * a + 96 + ((T i - 96) + 32 * w5 T (i + 1) m) % 32 = 256 * a + T i by omega]
    exact ih
theorem nd_w {T : Int → Int} : ∀ (m k : Nat) (i : Int), m ≤ k → (∀ q : Int, i ≤ q → q < i + (m : Int) → ltr (T q)) → ndOK k (w5 T i m)
  | 0, 0, _, _, _ => rfl
  | 0, k + 1, _, _, _ => Or.inl rfl
  | m + 1, 0, _, hk, _ => absurd hk (by omega)
  | m + 1, k + 1, i, hk, h => by
    have ht : ∀ q : Int, i + 1 ≤ q → q < i + 1 + (m : Int) → ltr (T q) := fun q x y => h q (by omega) (by omega)
    have ih := nd_w m k (i + 1) (by omega) ht
    have wb := w5_b m (i + 1) ht
    have l := h i (by omega) (by omega)
    unfold ltr at l
    refine Or.inr ⟨?_, ?_, ?_, ?_⟩
    · show 0 < (T i - 96) + 32 * w5 T (i + 1) m
      omega
    · show 1 ≤ ((T i - 96) + 32 * w5 T (i + 1) m) % 32
      omega
    · show ((T i - 96) + 32 * w5 T (i + 1) m) % 32 ≤ 26
      omega
    · show ndOK k (((T i - 96) + 32 * w5 T (i + 1) m) / 32)
      rw [show ((T i - 96) + 32 * w5 T (i + 1) m) / 32 = w5 T (i + 1) m by omega]
      exact ih
def n5f : Nat → Int → Int → Int
  | 0, _, b => b
  | j + 1, w, b => if w ≤ 0 then b else n5f j (w / 256) (32 * b + (w % 256 - 96))
theorem n5f_0 (k : Nat) (b : Int) : n5f k 0 b = b := by cases k <;> rfl
theorem n5_inv : ∀ (k : Nat) (x a : Int), ndOK k x → 0 ≤ a → ∃ m : Nat, m ≤ k ∧ ∀ (j : Nat) (b : Int), m ≤ j → n5f j (n8f k x a) b = n5f (j - m) a (b * 32 ^ m + x)
  | 0, x, a, hx, _ => ⟨0, Nat.le_refl _, fun j b _ => by
    have hx' : x = 0 := hx
    show n5f j a b = n5f j a (b * 32 ^ 0 + x)
    rw [hx', Int.pow_zero, Int.mul_one, Int.add_zero]⟩
  | k + 1, x, a, hx, ha => by
    rcases hx with hx | ⟨x0, r1, r2, hx⟩
    · subst hx
      refine ⟨0, by omega, fun j b _ => ?_⟩
      rw [n8f_0]
      show n5f j a b = n5f j a (b * 32 ^ 0 + 0)
      rw [Int.pow_zero, Int.mul_one, Int.add_zero]
    · obtain ⟨m, hm, ih⟩ := n5_inv k (x / 32) (256 * a + 96 + x % 32) hx (by omega)
      refine ⟨m + 1, by omega, fun j b hj => ?_⟩
      have e : n8f (k + 1) x a = n8f k (x / 32) (256 * a + 96 + x % 32) := if_neg (by omega)
      rw [e, ih j b (by omega)]
      obtain ⟨q, hq⟩ : ∃ q, j - m = q + 1 := ⟨j - m - 1, by omega⟩
      rw [hq, show j - (m + 1) = q by omega]
      show (if 256 * a + 96 + x % 32 ≤ 0 then _ else n5f q ((256 * a + 96 + x % 32) / 256) (32 * (b * 32 ^ m + x / 32) + ((256 * a + 96 + x % 32) % 256 - 96))) = _
      rw [if_neg (by omega), show (256 * a + 96 + x % 32) / 256 = a by omega, Int.pow_succ, ← Int.mul_assoc]
      congr 1
      omega
theorem n8_inj {k : Nat} {x y : Int} (hx : ndOK k x) (hy : ndOK k y) (h : n8f k x 0 = n8f k y 0) : x = y := by
  obtain ⟨m, hm, e⟩ := n5_inv k x 0 hx (Int.le_refl _)
  obtain ⟨m', hm', e'⟩ := n5_inv k y 0 hy (Int.le_refl _)
  have a := e k 0 hm
  have b := e' k 0 hm'
  rw [n5f_0] at a b
  rw [h, b] at a
  omega
def own5 : List Int := [486131888, 374834, 468451, 9062903, 207, 20692427, 20069863, 802, 87507, 20090918, 5938678, 674785498704, 5350992, 19047055, 180472099, 25636, 20066792, 591, 4545, 20974, 12673, 14637, 24621]
def own8 : List Int := [123581014175598, 1918987883, 1668245870, 512970880104, 28518, 461414299507, 444251202675, 25209, 1936618850, 439720633715, 508675192165, 8102650225890325619, 482955846501, 478694368626, 109304541834341, 6578553, 448545973363, 28530, 6385252, 7237492, 6384748, 7170414, 7168376]
def own5f (k : Int) : Int := own5.getD k.toNat 0
def own8f (k : Int) : Int := own8.getD k.toNat 0
theorem own_8 : (List.range 23).all (fun k => decide (own8f (k : Int) = n8f 8 (own5f (k : Int)) 0)) = true := by decide +kernel
theorem own_d : (List.range 23).all (fun k => (List.range 23).all (fun j => decide (own5f (k : Int) = own5f (j : Int) → k = j))) = true := by decide +kernel
def ndB : Nat → Int → Bool
  | 0, n => decide (n = 0)
  | k + 1, n => decide (n = 0) || (decide (0 < n) && decide (1 ≤ n % 32) && decide (n % 32 ≤ 26) && ndB k (n / 32))
theorem ndB_t : ∀ (k : Nat) (n : Int), ndB k n = true → ndOK k n
  | 0, n, h => of_decide_eq_true (p := n = 0) h
  | k + 1, n, h => by
    unfold ndB at h
    rw [Bool.or_eq_true, Bool.and_eq_true, Bool.and_eq_true, Bool.and_eq_true, decide_eq_true_iff, decide_eq_true_iff, decide_eq_true_iff, decide_eq_true_iff] at h
    rcases h with h | ⟨⟨⟨a, b⟩, c⟩, d⟩
    · exact Or.inl h
    · exact Or.inr ⟨a, b, c, ndB_t k _ d⟩
theorem own_nd : (List.range 23).all (fun k => ndB 8 (own5f (k : Int))) = true := by decide +kernel
def ownX (w : Int) : Int := match (List.range 23).find? (fun (k : Nat) => decide (own5f (k : Int) = w)) with
  | some k => (k : Int)
  | none => -1
theorem ownX_c (w : Int) : (0 ≤ ownX w ∧ ownX w < 23 ∧ own5f (ownX w) = w) ∨ (ownX w = -1 ∧ ∀ k : Int, 0 ≤ k → k < 23 → own5f k ≠ w) := by
  unfold ownX
  cases e : (List.range 23).find? (fun (k : Nat) => decide (own5f (k : Int) = w)) with
  | some k =>
    have a := List.find?_some e
    have b := List.mem_range.mp (List.mem_of_find?_eq_some e)
    exact Or.inl ⟨Int.natCast_nonneg k, show (k : Int) < 23 by omega, of_decide_eq_true a⟩
  | none =>
    refine Or.inr ⟨rfl, fun k k0 k1 h => ?_⟩
    have a := List.find?_eq_none.mp e k.toNat (List.mem_range.mpr (by omega))
    rw [show ((k.toNat : Nat) : Int) = k by omega] at a
    exact a (decide_eq_true h)
theorem own5_u {j k : Int} (j0 : 0 ≤ j) (j1 : j < 23) (k0 : 0 ≤ k) (k1 : k < 23) (h : own5f j = own5f k) : j = k := by
  have a := List.all_eq_true.mp own_d j.toNat (List.mem_range.mpr (by omega))
  have b := of_decide_eq_true (List.all_eq_true.mp a k.toNat (List.mem_range.mpr (by omega)))
  rw [show ((j.toNat : Nat) : Int) = j by omega, show ((k.toNat : Nat) : Int) = k by omega] at b
  have := b h
  omega
theorem ownX_u {w k : Int} (k0 : 0 ≤ k) (k1 : k < 23) (h : own5f k = w) : ownX w = k := by
  rcases ownX_c w with ⟨a, b, c⟩ | ⟨a, b⟩
  · exact own5_u a b k0 k1 (c.trans h.symm)
  · exact absurd h (b k k0 k1)
theorem own8_n {k : Int} (k0 : 0 ≤ k) (k1 : k < 23) : own8f k = n8f 8 (own5f k) 0 ∧ ndOK 8 (own5f k) := by
  have a := of_decide_eq_true (List.all_eq_true.mp own_8 k.toNat (List.mem_range.mpr (by omega)))
  have b := List.all_eq_true.mp own_nd k.toNat (List.mem_range.mpr (by omega))
  rw [show ((k.toNat : Nat) : Int) = k by omega] at a b
  exact ⟨a, ndB_t _ _ b⟩
/-- the model's word is an own one just when the class's is -/
theorem own8_w {w k : Int} (hw : ndOK 8 w) (k0 : 0 ≤ k) (k1 : k < 23) : n8f 8 w 0 = own8f k ↔ ownX w = k := by
  obtain ⟨a, b⟩ := own8_n k0 k1
  rw [a]
  constructor
  · intro h
    exact ownX_u k0 k1 (n8_inj hw b h).symm
  · intro h
    rcases ownX_c w with ⟨_, _, c⟩ | ⟨c, _⟩
    · rw [h] at c; rw [c]
    · omega
theorem cmp_z {v w : Int} : (cmp_ v w = 0) = (v = w) := by
  apply propext
  unfold cmp_
  constructor
  · intro h
    by_cases a : v > w
    · rw [if_pos a] at h; exact absurd h (by decide)
    · rw [if_neg a] at h
      by_cases b : v = w
      · exact b
      · rw [if_neg b] at h; exact absurd h (by decide)
  · rintro rfl
    rw [if_neg (by omega), if_pos rfl]
theorem own_st {v c : Int} {X : Option Int} {b : Bool} (h : X = some (bi b)) : (if v = c then some 1 else X) = some (bi (decide (v = c) || b)) := by
  by_cases e : v = c
  · rw [if_pos e, decide_eq_true e]; rfl
  · rw [if_neg e, decide_eq_false e, h]; rfl
theorem isOwn_a {sh : AwS} {M : AwM} {v0 v : Int} : fX9_isOwn sh M v0 v = some (bi (own8.any (fun c => decide (v = c)))) := by
  unfold fX9_isOwn own8
  simp only [cmp_z, List.any_cons, List.any_nil]
  exact own_st (own_st (own_st (own_st (own_st (own_st (own_st (own_st (own_st (own_st (own_st (own_st (own_st (own_st (own_st (own_st (own_st (own_st (own_st (own_st (own_st (own_st (own_st (rfl)))))))))))))))))))))))
theorem isOwn_n {sh : AwS} {M : AwM} {v0 w : Int} (hw : ndOK 8 w) : fX9_isOwn sh M v0 (n8f 8 w 0) = some (bi (decide (ownX w ≠ -1))) := by
  rw [isOwn_a]
  congr 2
  rw [Bool.eq_iff_iff, List.any_eq_true, decide_eq_true_iff]
  constructor
  · rintro ⟨c, cm, h⟩
    obtain ⟨k, hk, e⟩ := List.getElem_of_mem cm
    have k23 : k < 23 := hk
    have e' : own8f (k : Int) = c := by
      show own8.getD k 0 = c
      rw [List.getD_eq_getElem?_getD, List.getElem?_eq_getElem hk, e]
      rfl
    have := (own8_w hw (k := (k : Int)) (by omega) (by omega)).mp ((of_decide_eq_true h).trans e'.symm)
    omega
  · intro h
    rcases ownX_c w with ⟨a, b, c⟩ | ⟨a, b⟩
    · refine ⟨own8f (ownX w), ?_, decide_eq_true ((own8_w hw a b).mpr rfl)⟩
      show own8.getD (ownX w).toNat 0 ∈ own8
      rw [List.getD_eq_getElem?_getD, List.getElem?_eq_getElem (show (ownX w).toNat < own8.length from by show _ < 23; omega)]
      exact List.getElem_mem _
    · exact absurd a h
end PWRD
