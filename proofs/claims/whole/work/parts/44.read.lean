/-! the class's circle, read -/
section PREAD
/-- a circle cr of society so in memory M: what stands there keeps its ranges -/
def CW (M : AwM) (cr so : Int) : Prop :=
  (LAY M) ∧
  (cr = 153 ∨ cr = 160) ∧
  (so = 10 ∨ so = 137) ∧
  (M cr 1 = so) ∧
  (0 ≤ M (so + 1) 0) ∧
  (M (so + 1) 0 ≤ 10) ∧
  (0 ≤ M (so + 1) 1) ∧
  (M (so + 1) 1 ≤ 12) ∧
  (0 ≤ M (so + 1) 2) ∧
  (M (so + 1) 2 ≤ 10) ∧
  (∀ i : Int, 0 ≤ i → i < M (so + 1) 1 → 0 ≤ M (so + 4) i ∧ M (so + 4) i ≤ 99) ∧
  (∀ i : Int, 0 ≤ i → i < M (so + 1) 1 → 0 ≤ M (cr + 2) i ∧ M (cr + 2) i < M (so + 1) 0) ∧
  (∀ i : Int, 0 ≤ i → i < M (so + 1) 1 → ms (M (so + 1) 0).toNat (M (cr + 3) i)) ∧
  (∀ i : Int, 0 ≤ i → i < M (so + 1) 1 → ms (M (so + 1) 0).toNat (M (cr + 4) i))
theorem CW.lay {M : AwM} {cr so : Int} (h : CW M cr so) : LAY M := h.1
theorem CW.hcr {M : AwM} {cr so : Int} (h : CW M cr so) : cr = 153 ∨ cr = 160 := h.2.1
theorem CW.hso {M : AwM} {cr so : Int} (h : CW M cr so) : so = 10 ∨ so = 137 := h.2.2.1
theorem CW.ref {M : AwM} {cr so : Int} (h : CW M cr so) : M cr 1 = so := h.2.2.2.1
theorem CW.p0 {M : AwM} {cr so : Int} (h : CW M cr so) : 0 ≤ M (so + 1) 0 := h.2.2.2.2.1
theorem CW.p1 {M : AwM} {cr so : Int} (h : CW M cr so) : M (so + 1) 0 ≤ 10 := h.2.2.2.2.2.1
theorem CW.c0 {M : AwM} {cr so : Int} (h : CW M cr so) : 0 ≤ M (so + 1) 1 := h.2.2.2.2.2.2.1
theorem CW.c1 {M : AwM} {cr so : Int} (h : CW M cr so) : M (so + 1) 1 ≤ 12 := h.2.2.2.2.2.2.2.1
theorem CW.g0 {M : AwM} {cr so : Int} (h : CW M cr so) : 0 ≤ M (so + 1) 2 := h.2.2.2.2.2.2.2.2.1
theorem CW.g1 {M : AwM} {cr so : Int} (h : CW M cr so) : M (so + 1) 2 ≤ 10 := h.2.2.2.2.2.2.2.2.2.1
theorem CW.wo {M : AwM} {cr so : Int} (h : CW M cr so) : ∀ i : Int, 0 ≤ i → i < M (so + 1) 1 → 0 ≤ M (so + 4) i ∧ M (so + 4) i ≤ 99 := h.2.2.2.2.2.2.2.2.2.2.1
theorem CW.ho {M : AwM} {cr so : Int} (h : CW M cr so) : ∀ i : Int, 0 ≤ i → i < M (so + 1) 1 → 0 ≤ M (cr + 2) i ∧ M (cr + 2) i < M (so + 1) 0 := h.2.2.2.2.2.2.2.2.2.2.2.1
theorem CW.knp {M : AwM} {cr so : Int} (h : CW M cr so) : ∀ i : Int, 0 ≤ i → i < M (so + 1) 1 → ms (M (so + 1) 0).toNat (M (cr + 3) i) := h.2.2.2.2.2.2.2.2.2.2.2.2.1
theorem CW.snp {M : AwM} {cr so : Int} (h : CW M cr so) : ∀ i : Int, 0 ≤ i → i < M (so + 1) 1 → ms (M (so + 1) 0).toNat (M (cr + 4) i) := h.2.2.2.2.2.2.2.2.2.2.2.2.2
theorem ms_up {a b : Nat} {m : Int} (h : ms a m) (hab : a ≤ b) : ms b m := by
  obtain ⟨x, e, hx⟩ := ms_n.mp h
  exact ms_n.mpr ⟨x, e, Nat.lt_of_lt_of_le hx (Nat.pow_le_pow_right (by omega) hab)⟩
theorem CW.kn {M : AwM} {cr so : Int} (h : CW M cr so) : ∀ i : Int, 0 ≤ i → i < M (so + 1) 1 → ms 10 (M (cr + 3) i) := fun i a b => ms_up (h.knp i a b) (by have := h.p1; omega)
theorem CW.sn {M : AwM} {cr so : Int} (h : CW M cr so) : ∀ i : Int, 0 ≤ i → i < M (so + 1) 1 → ms 10 (M (cr + 4) i) := fun i a b => ms_up (h.snp i a b) (by have := h.p1; omega)
def bi (b : Bool) : Int := if b = true then 1 else 0
theorem bi_t : bi true = 1 := rfl
theorem bi_f : bi false = 0 := rfl
theorem bi_0 {b : Bool} : bi b = 0 ↔ b = false := by cases b <;> decide
theorem bi_01 (b : Bool) : bi b = 0 ∨ bi b = 1 := by cases b <;> decide
def hz (m k : Int) : Bool := decide (0 ≤ k) && hb m k
theorem isIn_n {sh : AwS} {M : AwM} {n : Nat} {m k : Int} (h : ms n m) (hn : n ≤ 31) : fX8_isIn sh M m k = some (bi (hz m k)) := by
  unfold fX8_isIn hz
  obtain ⟨a, b⟩ := ms_lt h hn
  by_cases k0 : k < 0
  · rw [if_pos k0, decide_eq_false (by omega)]; rfl
  · rw [if_neg k0, decide_eq_true (by omega)]
    by_cases k1 : k < 31
    · rw [if_pos k1, bit_n a b (by omega) (by omega)]
      cases hb m k <;> rfl
    · rw [if_neg k1, ms_hb h (q := k) (by omega)]; rfl
theorem coins_n {M : AwM} {cr so : Int} (h : CW M cr so) : fX0_coins SH M cr = some (M (so + 1) 1) := by
  unfold fX0_coins
  rw [h.ref, lso0_0 h.lay h.hso, kcr0 h.hcr, gd_t rfl, kso0 h.hso, gd_t rfl, kso1 h.hso, gd_t (by decide)]
/-- who holds which coins -/
theorem heldBy_n {M : AwM} {cr so w : Int} (h : CW M cr so) : fX0_heldBy SH M cr w = some (accB (fun i => decide (M (cr + 2) i = w)) (M (so + 1) 1).toNat) := by
  unfold fX0_heldBy
  have c0 := h.c0
  have c1 := h.c1
  have key := lp_cnt (body := u2 (fX0_heldBy_L4 SH M cr w)) (fun i => (accB (fun i => decide (M (cr + 2) i = w)) i, (i : Int))) (accB (fun i => decide (M (cr + 2) i = w)) (M (so + 1) 1).toNat) (M (so + 1) 1).toNat ?_ ?_ FU (FU_gt (by omega))
  · show pb (lp (u2 (fX0_heldBy_L4 SH M cr w)) FU (0, 0)) _ = _
    rw [show ((0 : Int), (0 : Int)) = (accB (fun i => decide (M (cr + 2) i = w)) 0, ((0 : Nat) : Int)) from rfl, key, pb_1, u1_1]
  · intro i hi
    have hm := ms_lt (ms_up (accB_ms (fun i => decide (M (cr + 2) i = w)) i) (show i ≤ 31 by omega)) (by omega)
    rw [u2_1]
    unfold fX0_heldBy_L4
    rw [kcr0 h.hcr, gd_t rfl, coins_n h, pb_1, u1_1, if_pos (by omega), lcr0_0 h.lay h.hcr, kcr1 h.hcr, gd_t rfl, lcr1_1 h.lay h.hcr, kcr2 h.hcr, gd_t ⟨rfl, by omega, by show (i : Int) < ((12 : Nat) : Int); omega⟩, w32_s (by omega) (by omega)]
    by_cases e : M (cr + 2) i = w
    · rw [if_pos e, stb_n hm.1 hm.2 (by omega) (by omega)]
      simp [accB, e]
    · rw [if_neg e]
      simp [accB, e]
  · rw [u2_1]
    unfold fX0_heldBy_L4
    rw [kcr0 h.hcr, gd_t rfl, coins_n h, pb_1, u1_1, if_neg (by omega)]
theorem knows_n {M : AwM} {cr so i w : Int} (h : CW M cr so) (i0 : 0 ≤ i) (i1 : i < M (so + 1) 1) : fX0_knows SH M cr i w = some (bi (hz (M (cr + 3) i) w)) := by
  unfold fX0_knows
  have c1 := h.c1
  rw [kcr0 h.hcr, gd_t rfl, lcr0_0 h.lay h.hcr, kcr1 h.hcr, gd_t rfl, lcr1_2 h.lay h.hcr, kcr3 h.hcr, gd_t ⟨rfl, by omega, by show i < ((12 : Nat) : Int); omega⟩, isIn_n (h.kn i i0 i1) (by omega), pb_1, u1_1, gd_t (bi_01 _)]
theorem accB_lt {P : Int → Bool} {i : Nat} (hi : i < 31) : 0 ≤ accB P i ∧ accB P i < 2147483648 := ms_lt (accB_ms P i) (by omega)
/-- which coins someone knows -/
theorem knowing_n {M : AwM} {cr so w : Int} (h : CW M cr so) : fX0_knowing SH M cr w = some (accB (fun i => hz (M (cr + 3) i) w) (M (so + 1) 1).toNat) := by
  unfold fX0_knowing
  have c0 := h.c0
  have c1 := h.c1
  have key := lp_cnt (body := u2 (fX0_knowing_L4 SH M cr w)) (fun i => (accB (fun i => hz (M (cr + 3) i) w) i, (i : Int))) (accB (fun i => hz (M (cr + 3) i) w) (M (so + 1) 1).toNat) (M (so + 1) 1).toNat ?_ ?_ FU (FU_gt (by omega))
  · show pb (lp (u2 (fX0_knowing_L4 SH M cr w)) FU (0, 0)) _ = _
    rw [show ((0 : Int), (0 : Int)) = (accB (fun i => hz (M (cr + 3) i) w) 0, ((0 : Nat) : Int)) from rfl, key, pb_1, u1_1]
  · intro i hi
    have hm := accB_lt (P := fun i => hz (M (cr + 3) i) w) (i := i) (by omega)
    rw [u2_1]
    unfold fX0_knowing_L4
    rw [kcr0 h.hcr, gd_t rfl, coins_n h, pb_1, u1_1, if_pos (by omega), knows_n h (by omega) (by omega), pb_1, u1_1, w32_s (by omega) (by omega), stb_n hm.1 hm.2 (by omega) (by omega)]
    cases e : hz (M (cr + 3) i) w <;> simp [accB, e, bi]
  · rw [u2_1]
    unfold fX0_knowing_L4
    rw [kcr0 h.hcr, gd_t rfl, coins_n h, pb_1, u1_1, if_neg (by omega)]
/-- which coins have snubbed someone -/
theorem snubbedBy_n {M : AwM} {cr so w : Int} (h : CW M cr so) : fX0_snubbedBy SH M cr w = some (accB (fun i => hz (M (cr + 4) i) w) (M (so + 1) 1).toNat) := by
  unfold fX0_snubbedBy
  have c0 := h.c0
  have c1 := h.c1
  have key := lp_cnt (body := u2 (fX0_snubbedBy_L4 SH M cr w)) (fun i => (accB (fun i => hz (M (cr + 4) i) w) i, (i : Int))) (accB (fun i => hz (M (cr + 4) i) w) (M (so + 1) 1).toNat) (M (so + 1) 1).toNat ?_ ?_ FU (FU_gt (by omega))
  · show pb (lp (u2 (fX0_snubbedBy_L4 SH M cr w)) FU (0, 0)) _ = _
    rw [show ((0 : Int), (0 : Int)) = (accB (fun i => hz (M (cr + 4) i) w) 0, ((0 : Nat) : Int)) from rfl, key, pb_1, u1_1]
  · intro i hi
    have hm := accB_lt (P := fun i => hz (M (cr + 4) i) w) (i := i) (by omega)
    rw [u2_1]
    unfold fX0_snubbedBy_L4
    rw [kcr0 h.hcr, gd_t rfl, coins_n h, pb_1, u1_1, if_pos (by omega), lcr0_0 h.lay h.hcr, kcr1 h.hcr, gd_t rfl, lcr1_3 h.lay h.hcr, kcr4 h.hcr, gd_t ⟨rfl, by omega, by show (i : Int) < ((12 : Nat) : Int); omega⟩, isIn_n (h.sn i (by omega) (by omega)) (by omega), pb_1, u1_1, w32_s (by omega) (by omega), stb_n hm.1 hm.2 (by omega) (by omega)]
    cases e : hz (M (cr + 4) i) w <;> simp [accB, e, bi]
  · rw [u2_1]
    unfold fX0_snubbedBy_L4
    rw [kcr0 h.hcr, gd_t rfl, coins_n h, pb_1, u1_1, if_neg (by omega)]
theorem pc_b (m : Int) : 0 ≤ pc m ∧ pc m ≤ 12 := by
  have : pcN m.toNat ≤ 12 := Nat.le_trans (List.length_filter_le _ _) (by decide)
  unfold pc
  omega
/-- how many snubs there are -/
theorem snubCount_n {M : AwM} {cr so : Int} (h : CW M cr so) : fX0_snubCount SH M cr = some (accS (fun i => pc (M (cr + 4) i)) (M (so + 1) 1).toNat) := by
  unfold fX0_snubCount
  have c0 := h.c0
  have c1 := h.c1
  have key := lp_cnt (body := u2 (fX0_snubCount_L4 SH M cr)) (fun i => (accS (fun i => pc (M (cr + 4) i)) i, (i : Int))) (accS (fun i => pc (M (cr + 4) i)) (M (so + 1) 1).toNat) (M (so + 1) 1).toNat ?_ ?_ FU (FU_gt (by omega))
  · show pb (lp (u2 (fX0_snubCount_L4 SH M cr)) FU (0, 0)) _ = _
    rw [show ((0 : Int), (0 : Int)) = (accS (fun i => pc (M (cr + 4) i)) 0, ((0 : Nat) : Int)) from rfl, key, pb_1, u1_1]
  · intro i hi
    have hm := accS_b (f := fun i => pc (M (cr + 4) i)) (lo := 0) (hi := 12) i (fun c _ _ => pc_b _)
    have hp := pc_b (M (cr + 4) i)
    rw [u2_1]
    unfold fX0_snubCount_L4
    rw [kcr0 h.hcr, gd_t rfl, coins_n h, pb_1, u1_1, if_pos (by omega), lcr0_0 h.lay h.hcr, kcr1 h.hcr, gd_t rfl, lcr1_3 h.lay h.hcr, kcr4 h.hcr, gd_t ⟨rfl, by omega, by show (i : Int) < ((12 : Nat) : Int); omega⟩, bc_n (ms_up (h.sn i (by omega) (by omega)) (by omega)), pb_1, u1_1, w32_s (by omega) (by omega), w32_s (by omega) (by omega)]
    rfl
  · rw [u2_1]
    unfold fX0_snubCount_L4
    rw [kcr0 h.hcr, gd_t rfl, coins_n h, pb_1, u1_1, if_neg (by omega)]
end PREAD
