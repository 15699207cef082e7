/-! both objects say the same: what reads need -/
section PREL
/-- class's society so, model's bank b: the society is the same -/
def RelS (M : AwM) (so b : Int) : Prop :=
  (M (so + 1) 0 = M 169 b) ∧ (M (so + 1) 1 = M 171 b) ∧ (M (so + 1) 2 = M 176 b) ∧
  (∀ i : Int, 0 ≤ i → i < M 171 b → M (so + 4) i = M 172 (12 * b + i)) ∧
  (∀ i : Int, 0 ≤ i → i < M 169 b → M (so + 3) i = M 170 (10 * b + i)) ∧
  (M so 11 = M 179 b) ∧ (M so 12 = M 180 b)
/-- circle cr, layer L: the ledger is the same, as far as it tells -/
def RelL (M : AwM) (cr b L : Int) : Prop :=
  (M (cr + 1) 0 = M 197 L) ∧
  (∀ i : Int, 0 ≤ i → i < M 171 b → M (cr + 2) i = M 198 (12 * L + i)) ∧
  (∀ i : Int, 0 ≤ i → i < M 171 b → M (cr + 3) i = M 199 (12 * L + i)) ∧
  (∀ i : Int, 0 ≤ i → i < M 171 b → M (cr + 4) i = M 200 (12 * L + i)) ∧
  (∀ i : Int, 0 ≤ i → i < M 171 b → hb (M 199 (12 * L + i)) (M 198 (12 * L + i)) = true)
/-- all that reads need -/
def RelR (M : AwM) (so b : Int) : Prop :=
  CW M 153 so ∧ MW M b 0 ∧ RelS M so b ∧ RelL M 153 b 0 ∧ (M 1 3 = so) ∧ (M 26 2 = M 167 54) ∧ (M 1 13 = M 167 55) ∧ (I32 (M 167 55)) ∧ (M 3 4 = M 167 10) ∧ (M 3 5 = M 167 11)
theorem accS_all {f g : Int → Int} {n : Nat} (h : ∀ c : Int, 0 ≤ c → c < n → f c = g c) : accS f n = accS g n := accS_congr n h
theorem fault_e {M : AwM} {so b v : Int} (h : RelR M so b) : ∃ r, fX8_fault SH M 1 v = some r ∧ fX9_fault SH M 167 v = some r := by
  obtain ⟨hc, _, _, _, _, _, _, _, h4, h5⟩ := h
  unfold fX8_fault fX9_fault
  rw [kd1, gd_t rfl, gd_t rfl, ly1_2 hc.lay, kd3, gd_t rfl, gd_t rfl, kd167, gd_t rfl, gd_t rfl, h4, h5]
  by_cases e0 : v = 0
  · exact ⟨_, by rw [if_pos e0], by rw [if_pos e0]⟩
  · by_cases e1 : v = 1
    · exact ⟨_, by rw [if_neg e0, if_pos e1], by rw [if_neg e0, if_pos e1]⟩
    · exact ⟨_, by rw [if_neg e0, if_neg e1], by rw [if_neg e0, if_neg e1]⟩
theorem ulS_congr {H K H' K' : Int → Int} {w : Int} (n : Nat) (hH : ∀ i : Int, 0 ≤ i → i < n → H i = H' i) (hK : ∀ i : Int, 0 ≤ i → i < n → K i = K' i) : ulS H K w n = ulS H' K' w n := by
  unfold ulS
  rw [allB_congr (P := ulP H K w) (Q := ulP H' K' w) n (fun c c0 c1 => by unfold ulP; rw [hH c c0 c1, hK c c0 c1]), accB_congr (P := fun i => decide (H i = w)) (Q := fun i => decide (H' i = w)) n (fun c c0 c1 => by simp only [hH c c0 c1])]
theorem usP_congr {H K H' K' : Int → Int} (n p : Nat) (hH : ∀ i : Int, 0 ≤ i → i < n → H i = H' i) (hK : ∀ i : Int, 0 ≤ i → i < n → K i = K' i) : usP H K n p = usP H' K' n p := by
  unfold usP
  exact accB_congr p (fun c _ _ => ulS_congr n hH hK)
theorem flS_congr {W K W' K' : Int → Int} (n : Nat) (hW : ∀ i : Int, 0 ≤ i → i < n → W i = W' i) (hK : ∀ i : Int, 0 ≤ i → i < n → K i = K' i) : flS W K n = flS W' K' n := by
  unfold flS
  exact accS_congr n (fun c c0 c1 => by rw [hW c c0 c1, hK c c0 c1])
theorem wtS_congr {W W' : Int → Int} {S : Int} (n : Nat) (hW : ∀ i : Int, 0 ≤ i → i < n → W i = W' i) : wtS W S n = wtS W' S n := by
  unfold wtS
  exact accS_congr n (fun c c0 c1 => by rw [hW c c0 c1])
theorem kaS_congr {K K' : Int → Int} {p : Int} (n : Nat) (hK : ∀ i : Int, 0 ≤ i → i < n → K i = K' i) : kaS K p n = kaS K' p n := by
  unfold kaS
  exact accS_congr n (fun c c0 c1 => by rw [hK c c0 c1])
end PREL
