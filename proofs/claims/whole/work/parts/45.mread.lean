/-! the model's layer, read -/
section PMREAD
/-- layer L of the model over bank b in memory M: what stands there keeps its ranges -/
def MW (M : AwM) (b L : Int) : Prop :=
  (LAY M) ∧
  (M 167 13 = b) ∧
  (0 ≤ b) ∧
  (b ≤ 1) ∧
  (0 ≤ L) ∧
  (L ≤ 21) ∧
  (0 ≤ M 169 b) ∧
  (M 169 b ≤ 10) ∧
  (0 ≤ M 171 b) ∧
  (M 171 b ≤ 12) ∧
  (0 ≤ M 176 b) ∧
  (M 176 b ≤ 10) ∧
  (∀ i : Int, 0 ≤ i → i < M 171 b → 0 ≤ M 172 (12 * b + i) ∧ M 172 (12 * b + i) ≤ 99) ∧
  (∀ i : Int, 0 ≤ i → i < M 171 b → 0 ≤ M 198 (12 * L + i) ∧ M 198 (12 * L + i) < M 169 b) ∧
  (∀ i : Int, 0 ≤ i → i < M 171 b → ms (M 169 b).toNat (M 199 (12 * L + i))) ∧
  (∀ i : Int, 0 ≤ i → i < M 171 b → ms (M 169 b).toNat (M 200 (12 * L + i)))
theorem MW.lay {M : AwM} {b L : Int} (h : MW M b L) : LAY M := h.1
theorem MW.bk {M : AwM} {b L : Int} (h : MW M b L) : M 167 13 = b := h.2.1
theorem MW.hb0 {M : AwM} {b L : Int} (h : MW M b L) : 0 ≤ b := h.2.2.1
theorem MW.hb1 {M : AwM} {b L : Int} (h : MW M b L) : b ≤ 1 := h.2.2.2.1
theorem MW.l0 {M : AwM} {b L : Int} (h : MW M b L) : 0 ≤ L := h.2.2.2.2.1
theorem MW.l1 {M : AwM} {b L : Int} (h : MW M b L) : L ≤ 21 := h.2.2.2.2.2.1
theorem MW.p0 {M : AwM} {b L : Int} (h : MW M b L) : 0 ≤ M 169 b := h.2.2.2.2.2.2.1
theorem MW.p1 {M : AwM} {b L : Int} (h : MW M b L) : M 169 b ≤ 10 := h.2.2.2.2.2.2.2.1
theorem MW.c0 {M : AwM} {b L : Int} (h : MW M b L) : 0 ≤ M 171 b := h.2.2.2.2.2.2.2.2.1
theorem MW.c1 {M : AwM} {b L : Int} (h : MW M b L) : M 171 b ≤ 12 := h.2.2.2.2.2.2.2.2.2.1
theorem MW.g0 {M : AwM} {b L : Int} (h : MW M b L) : 0 ≤ M 176 b := h.2.2.2.2.2.2.2.2.2.2.1
theorem MW.g1 {M : AwM} {b L : Int} (h : MW M b L) : M 176 b ≤ 10 := h.2.2.2.2.2.2.2.2.2.2.2.1
theorem MW.wo {M : AwM} {b L : Int} (h : MW M b L) : ∀ i : Int, 0 ≤ i → i < M 171 b → 0 ≤ M 172 (12 * b + i) ∧ M 172 (12 * b + i) ≤ 99 := h.2.2.2.2.2.2.2.2.2.2.2.2.1
theorem MW.ho {M : AwM} {b L : Int} (h : MW M b L) : ∀ i : Int, 0 ≤ i → i < M 171 b → 0 ≤ M 198 (12 * L + i) ∧ M 198 (12 * L + i) < M 169 b := h.2.2.2.2.2.2.2.2.2.2.2.2.2.1
theorem MW.knp {M : AwM} {b L : Int} (h : MW M b L) : ∀ i : Int, 0 ≤ i → i < M 171 b → ms (M 169 b).toNat (M 199 (12 * L + i)) := h.2.2.2.2.2.2.2.2.2.2.2.2.2.2.1
theorem MW.snp {M : AwM} {b L : Int} (h : MW M b L) : ∀ i : Int, 0 ≤ i → i < M 171 b → ms (M 169 b).toNat (M 200 (12 * L + i)) := h.2.2.2.2.2.2.2.2.2.2.2.2.2.2.2
theorem MW.kn {M : AwM} {b L : Int} (h : MW M b L) : ∀ i : Int, 0 ≤ i → i < M 171 b → ms 10 (M 199 (12 * L + i)) := fun i x y => ms_up (h.knp i x y) (by have := h.p1; omega)
theorem MW.sn {M : AwM} {b L : Int} (h : MW M b L) : ∀ i : Int, 0 ≤ i → i < M 171 b → ms 10 (M 200 (12 * L + i)) := fun i x y => ms_up (h.snp i x y) (by have := h.p1; omega)
theorem bits_n {sh : AwS} {M : AwM} {m : Int} (h : ms 12 m) : fX9_bits sh M m = some (pc m) := by
  obtain ⟨a, rfl, ha⟩ := ms_n.mp h
  have := List.all_eq_true.mp bits_all a (List.mem_range.mpr (by omega))
  exact of_decide_eq_true this
theorem has2_n {sh : AwS} {M : AwM} {n : Nat} {m k : Int} (h : ms n m) (hn : n ≤ 31) (k0 : 0 ≤ k) (k1 : k < 32) : fX9_has2 sh M m k = some (bi (hz m k)) := by
  unfold fX9_has2 hz
  obtain ⟨a, b⟩ := ms_lt h hn
  rw [bit_n a b k0 k1, decide_eq_true k0]
  cases hb m k <;> rfl
theorem mcn {M : AwM} {b L : Int} (h : MW M b L) {α : Type} {t : Option α} : gd_ (kd_ SH 167 = (0, 9)) (gd_ ((kd_ SH (M 167 16)).1 = 1 ∧ (0 : Int) ≤ (M 167 13) ∧ (M 167 13) < ((kd_ SH (M 167 16)).2 : Int)) t) = t := by
  have := h.hb0
  have := h.hb1
  rw [kd167, gd_t rfl, ly167_16 h.lay, kd171, h.bk, gd_t ⟨rfl, by omega, by show b < ((2 : Nat) : Int); omega⟩]
theorem mheldBy_n {M : AwM} {b L w : Int} (h : MW M b L) : fX9_heldBy SH M 167 L w = some (accB (fun i => decide (M 198 (12 * L + i) = w)) (M 171 b).toNat) := by
  unfold fX9_heldBy
  have c0 := h.c0
  have c1 := h.c1
  have l0 := h.l0
  have l1 := h.l1
  have key := lp_cnt (body := u2 (fX9_heldBy_L5 SH M 167 L w)) (fun i => (accB (fun i => decide (M 198 (12 * L + i) = w)) i, (i : Int))) (accB (fun i => decide (M 198 (12 * L + i) = w)) (M 171 b).toNat) (M 171 b).toNat ?_ ?_ FU (FU_gt (by omega))
  · show pb (lp (u2 (fX9_heldBy_L5 SH M 167 L w)) FU (0, 0)) _ = _
    rw [show ((0 : Int), (0 : Int)) = (accB (fun i => decide (M 198 (12 * L + i) = w)) 0, ((0 : Nat) : Int)) from rfl, key, pb_1, u1_1]
  · intro i hi
    have hm := accB_lt (P := fun i => decide (M 198 (12 * L + i) = w)) (i := i) (by omega)
    rw [u2_1]
    unfold fX9_heldBy_L5
    rw [mcn h, ly167_16 h.lay, h.bk, if_pos (by omega), ly167_49 h.lay, kd198, w32_s (v := 12 * L) (by omega) (by omega), w32_s (v := 12 * L + i) (by omega) (by omega), gd_t ⟨rfl, by omega, by show (12 * L + i : Int) < ((264 : Nat) : Int); omega⟩, w32_s (by omega) (by omega), stb_n hm.1 hm.2 (by omega) (by omega), or0_ hm.1 hm.2]
    by_cases e : M 198 (12 * L + i) = w <;> simp [accB, e]
  · rw [u2_1]
    unfold fX9_heldBy_L5
    rw [mcn h, ly167_16 h.lay, h.bk, if_neg (by omega)]
theorem mknowing_n {M : AwM} {b L w : Int} (h : MW M b L) (w0 : 0 ≤ w) (w1 : w < 32) : fX9_knowing SH M 167 L w = some (accB (fun i => hz (M 199 (12 * L + i)) w) (M 171 b).toNat) := by
  unfold fX9_knowing
  have c0 := h.c0
  have c1 := h.c1
  have l0 := h.l0
  have l1 := h.l1
  have key := lp_cnt (body := u2 (fX9_knowing_L5 SH M 167 L w)) (fun i => (accB (fun i => hz (M 199 (12 * L + i)) w) i, (i : Int))) (accB (fun i => hz (M 199 (12 * L + i)) w) (M 171 b).toNat) (M 171 b).toNat ?_ ?_ FU (FU_gt (by omega))
  · show pb (lp (u2 (fX9_knowing_L5 SH M 167 L w)) FU (0, 0)) _ = _
    rw [show ((0 : Int), (0 : Int)) = (accB (fun i => hz (M 199 (12 * L + i)) w) 0, ((0 : Nat) : Int)) from rfl, key, pb_1, u1_1]
  · intro i hi
    have hm := accB_lt (P := fun i => hz (M 199 (12 * L + i)) w) (i := i) (by omega)
    rw [u2_1]
    unfold fX9_knowing_L5
    rw [mcn h, ly167_16 h.lay, h.bk, if_pos (by omega), ly167_50 h.lay, kd199, w32_s (v := 12 * L) (by omega) (by omega), w32_s (v := 12 * L + i) (by omega) (by omega), gd_t ⟨rfl, by omega, by show (12 * L + i : Int) < ((264 : Nat) : Int); omega⟩, has2_n (h.kn i (by omega) (by omega)) (by omega) w0 w1, pb_1, u1_1, w32_s (by omega) (by omega), stb_n hm.1 hm.2 (by omega) (by omega), or0_ hm.1 hm.2]
    cases e : hz (M 199 (12 * L + i)) w <;> simp [accB, e, bi]
  · rw [u2_1]
    unfold fX9_knowing_L5
    rw [mcn h, ly167_16 h.lay, h.bk, if_neg (by omega)]
theorem msnubbed_n {M : AwM} {b w : Int} (h : MW M b 0) (w0 : 0 ≤ w) (w1 : w < 32) : lp (u2 (fX9_person_L86 SH M 167 w)) FU (0, 0) = some (accB (fun i => hz (M 200 i) w) (M 171 b).toNat) := by
  have c0 := h.c0
  have c1 := h.c1
  have key := lp_cnt (body := u2 (fX9_person_L86 SH M 167 w)) (fun i => (accB (fun i => hz (M 200 i) w) i, (i : Int))) (accB (fun i => hz (M 200 i) w) (M 171 b).toNat) (M 171 b).toNat ?_ ?_ FU (FU_gt (by omega))
  · exact key
  · intro i hi
    have hm := accB_lt (P := fun i => hz (M 200 i) w) (i := i) (by omega)
    have hs := h.sn i (by omega) (by omega)
    rw [Int.mul_zero, Int.zero_add] at hs
    rw [u2_1]
    unfold fX9_person_L86
    rw [mcn h, ly167_16 h.lay, h.bk, if_pos (by omega), ly167_51 h.lay, kd200, gd_t ⟨rfl, by omega, by show (i : Int) < ((264 : Nat) : Int); omega⟩, has2_n hs (by omega) w0 w1, pb_1, u1_1, w32_s (by omega) (by omega), stb_n hm.1 hm.2 (by omega) (by omega), or0_ hm.1 hm.2]
    cases e : hz (M 200 i) w <;> simp [accB, e, bi]
  · rw [u2_1]
    unfold fX9_person_L86
    rw [mcn h, ly167_16 h.lay, h.bk, if_neg (by omega)]
theorem msnubs_n {M : AwM} {b : Int} (h : MW M b 0) : lp (u2 (fX9_has_L129 SH M 167)) FU (0, 0) = some (accS (fun i => pc (M 200 i)) (M 171 b).toNat) := by
  have c0 := h.c0
  have c1 := h.c1
  have key := lp_cnt (body := u2 (fX9_has_L129 SH M 167)) (fun i => (accS (fun i => pc (M 200 i)) i, (i : Int))) (accS (fun i => pc (M 200 i)) (M 171 b).toNat) (M 171 b).toNat ?_ ?_ FU (FU_gt (by omega))
  · exact key
  · intro i hi
    have hm := accS_b (f := fun i => pc (M 200 i)) (lo := 0) (hi := 12) i (fun c _ _ => pc_b _)
    have hp := pc_b (M 200 i)
    have hs := h.sn i (by omega) (by omega)
    rw [Int.mul_zero, Int.zero_add] at hs
    rw [u2_1]
    unfold fX9_has_L129
    rw [mcn h, ly167_16 h.lay, h.bk, if_pos (by omega), ly167_51 h.lay, kd200, gd_t ⟨rfl, by omega, by show (i : Int) < ((264 : Nat) : Int); omega⟩, bits_n (ms_up hs (by omega)), pb_1, u1_1, w32_s (by omega) (by omega), w32_s (by omega) (by omega)]
    rfl
  · rw [u2_1]
    unfold fX9_has_L129
    rw [mcn h, ly167_16 h.lay, h.bk, if_neg (by omega)]
theorem mworthOf_n {M : AwM} {b L i : Int} (h : MW M b L) (i0 : 0 ≤ i) (i1 : i < 12) : fX9_worthOf SH M 167 i = some (M 172 (12 * b + i)) := by
  unfold fX9_worthOf
  have := h.hb0
  have := h.hb1
  rw [kd167, gd_t rfl, ly167_17 h.lay, kd172, h.bk, w32_s (v := 12 * b) (by omega) (by omega), w32_s (v := 12 * b + i) (by omega) (by omega), gd_t ⟨rfl, by omega, by show (12 * b + i : Int) < ((24 : Nat) : Int); omega⟩]
end PMREAD
