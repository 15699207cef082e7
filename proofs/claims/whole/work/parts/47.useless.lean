/-! useless purses and who knows all, both sides -/
section PUSE
theorem one_all : (List.range 1024).all (fun a => decide (1 < pcN a) || (List.range 10).any (fun v => decide (a = 2 ^ v)) || decide (a = 0)) = true := by decide +kernel
theorem onep_all : (List.range 10).all (fun v => decide (pcN (2 ^ v) = 1)) = true := by decide +kernel
theorem full_all : (List.range 11).all (fun p => (List.range (2 ^ p)).all (fun a => decide (pcN a = p) == decide (a = 2 ^ p - 1))) = true := by decide +kernel
theorem pc_one {m w : Int} (h : ms 10 m) (w0 : 0 ≤ w) (w1 : w < 10) (hw : hb m w = true) : pc m ≤ 1 ↔ m = stb 0 w := by
  obtain ⟨a, rfl, ha⟩ := ms_n.mp h
  obtain ⟨k, rfl⟩ : ∃ k : Nat, w = (k : Int) := ⟨w.toNat, by omega⟩
  have hw' : a.testBit k = true := hw
  have e1 : stb 0 (k : Int) = ((2 ^ k : Nat) : Int) := by
    unfold stb
    rw [show (0 : Int).toNat = 0 from rfl, Nat.zero_or]; rfl
  rw [e1]
  unfold pc
  rw [show ((a : Int)).toNat = a from rfl]
  constructor
  · intro hp
    have h1 := List.all_eq_true.mp one_all a (List.mem_range.mpr (by omega))
    rw [Bool.or_eq_true, Bool.or_eq_true] at h1
    rcases h1 with (h1 | h1) | h1
    · have := of_decide_eq_true h1; omega
    · obtain ⟨v, _, hv⟩ := List.any_eq_true.mp h1
      have := of_decide_eq_true hv
      subst this
      rw [Nat.testBit_two_pow] at hw'
      have := of_decide_eq_true hw'
      rw [this]
    · have := of_decide_eq_true h1
      subst this
      rw [Nat.zero_testBit] at hw'
      exact absurd hw' (by decide)
  · intro he
    have e2 : a = 2 ^ k := by omega
    have h1 := of_decide_eq_true (List.all_eq_true.mp onep_all k (List.mem_range.mpr (by omega)))
    rw [e2, h1]
    decide
theorem pc_full {p m : Int} (p0 : 0 ≤ p) (p1 : p ≤ 10) (h : ms p.toNat m) : pc m = p ↔ m = ((2 ^ p.toNat - 1 : Nat) : Int) := by
  obtain ⟨a, rfl, ha⟩ := ms_n.mp h
  have h1 := List.all_eq_true.mp (List.all_eq_true.mp full_all p.toNat (List.mem_range.mpr (by omega))) a (List.mem_range.mpr ha)
  have h2 : decide (pcN a = p.toNat) = decide (a = 2 ^ p.toNat - 1) := eq_of_beq h1
  rw [decide_eq_decide] at h2
  unfold pc
  rw [show ((a : Int)).toNat = a from rfl]
  constructor
  · intro e
    rw [h2.mp (by omega)]
  · intro e
    have := h2.mpr (by omega)
    omega
def ulP (H K : Int → Int) (w i : Int) : Bool := !(decide (H i = w)) || decide (K i = stb 0 w)
def ulS (H K : Int → Int) (w : Int) (n : Nat) : Bool := allB (ulP H K w) n && !(decide (accB (fun i => decide (H i = w)) n = 0))
theorem useless_n {M : AwM} {cr so w : Int} (h : CW M cr so) (w0 : 0 ≤ w) (w1 : w < 31) : fX0_isUseless SH M cr w = some (bi (ulS (M (cr + 2)) (M (cr + 3)) w (M (so + 1) 1).toNat)) := by
  unfold fX0_isUseless
  have c0 := h.c0
  have c1 := h.c1
  have key := lp_all (body := u1 (fX0_isUseless_L8 SH M cr w (accB (fun i => decide (M (cr + 2) i = w)) (M (so + 1) 1).toNat))) (P := ulP (M (cr + 2)) (M (cr + 3)) w) (n := (M (so + 1) 1).toNat) ?_ ?_ FU (FU_gt (by omega))
  · rw [kcr0 h.hcr, gd_t rfl, heldBy_n h, pb_1, u1_1, key, pb_1]
    unfold ulS
    by_cases ha : allB (ulP (M (cr + 2)) (M (cr + 3)) w) (M (so + 1) 1).toNat = true
    · rw [if_pos ha, ha]
      by_cases e : accB (fun i => decide (M (cr + 2) i = w)) (M (so + 1) 1).toNat = 0 <;> simp [e, u0, bi]
    · rw [if_neg ha, Bool.eq_false_iff.mpr ha]
      simp [u0, bi]
  · intro i hi
    have hS := ms_up (accB_ms (fun i => decide (M (cr + 2) i = w)) (M (so + 1) 1).toNat) (show (M (so + 1) 1).toNat ≤ 12 by omega)
    have hv := accB_hb (fun i => decide (M (cr + 2) i = w)) (q := (i : Int)) (by omega) (M (so + 1) 1).toNat
    rw [decide_eq_true (show (i : Int) < ((M (so + 1) 1).toNat : Int) by omega), Bool.true_and] at hv
    rw [u1_1]
    unfold fX0_isUseless_L8
    rw [kcr0 h.hcr, gd_t rfl, coins_n h, pb_1, u1_1, if_pos (by omega), isIn_n hS (by omega), pb_1, u1_1, lcr0_0 h.lay h.hcr, kcr1 h.hcr, gd_t rfl, lcr1_2 h.lay h.hcr, kcr3 h.hcr, gd_t ⟨rfl, by omega, by show (i : Int) < ((12 : Nat) : Int); omega⟩, w32_s (by omega) (by omega), sl1_n w0 w1]
    unfold ulP hz
    rw [hv, decide_eq_true (show (0 : Int) ≤ i by omega)]
    by_cases e : M (cr + 2) i = w
    · by_cases e2 : M (cr + 3) i = stb 0 w <;> simp [e, e2, bi]
    · simp [e, bi]
  · rw [u1_1]
    unfold fX0_isUseless_L8
    rw [kcr0 h.hcr, gd_t rfl, coins_n h, pb_1, u1_1, if_neg (by omega)]
theorem museless_n {M : AwM} {b L w : Int} (h : MW M b L) (hk : ∀ i : Int, 0 ≤ i → i < M 171 b → hb (M 199 (12 * L + i)) (M 198 (12 * L + i)) = true) : fX9_isUseless SH M 167 L w = some (bi (ulS (fun i => M 198 (12 * L + i)) (fun i => M 199 (12 * L + i)) w (M 171 b).toNat)) := by
  unfold fX9_isUseless
  have c0 := h.c0
  have c1 := h.c1
  have l0 := h.l0
  have l1 := h.l1
  have p1 := h.p1
  have key := lp_all (body := u1 (fX9_isUseless_L10 SH M 167 L (accB (fun i => decide (M 198 (12 * L + i) = w)) (M 171 b).toNat))) (P := ulP (fun i => M 198 (12 * L + i)) (fun i => M 199 (12 * L + i)) w) (n := (M 171 b).toNat) ?_ ?_ FU (FU_gt (by omega))
  · rw [kd167, gd_t rfl, mheldBy_n h, pb_1, u1_1, key, pb_1]
    unfold ulS
    by_cases ha : allB (ulP (fun i => M 198 (12 * L + i)) (fun i => M 199 (12 * L + i)) w) (M 171 b).toNat = true
    · rw [if_pos ha, ha]
      by_cases e : accB (fun i => decide (M 198 (12 * L + i) = w)) (M 171 b).toNat = 0 <;> simp [e, u0, bi]
    · rw [if_neg ha, Bool.eq_false_iff.mpr ha]
      simp [u0, bi]
  · intro i hi
    have hS := ms_up (accB_ms (fun i => decide (M 198 (12 * L + i) = w)) (M 171 b).toNat) (show (M 171 b).toNat ≤ 12 by omega)
    have hv := accB_hb (fun i => decide (M 198 (12 * L + i) = w)) (q := (i : Int)) (by omega) (M 171 b).toNat
    rw [decide_eq_true (show (i : Int) < ((M 171 b).toNat : Int) by omega), Bool.true_and] at hv
    have ho := h.ho i (by omega) (by omega)
    have hone := pc_one (h.kn i (by omega) (by omega)) ho.1 (by omega) (hk i (by omega) (by omega))
    rw [u1_1]
    unfold fX9_isUseless_L10
    rw [mcn h, ly167_16 h.lay, h.bk, if_pos (by omega), has2_n hS (by omega) (by omega) (by omega), pb_1, u1_1, ly167_50 h.lay, kd199, w32_s (v := 12 * L) (by omega) (by omega), w32_s (v := 12 * L + i) (by omega) (by omega), gd_t ⟨rfl, by omega, by show (12 * L + i : Int) < ((264 : Nat) : Int); omega⟩, bits_n (ms_up (h.kn i (by omega) (by omega)) (by omega)), pb_1, u1_1, w32_s (by omega) (by omega)]
    unfold ulP hz
    rw [hv, decide_eq_true (show (0 : Int) ≤ i by omega)]
    by_cases e : M 198 (12 * L + i) = w
    · rw [e] at hone
      by_cases e2 : M 199 (12 * L + i) = stb 0 w
      · have h3 : ¬ 1 < pc (M 199 (12 * L + i)) := by have := hone.mpr e2; omega
        rw [if_neg (by simp [e, bi]), if_neg h3]
        simp [e, e2]
      · have h3 : 1 < pc (M 199 (12 * L + i)) := by
          have : ¬ pc (M 199 (12 * L + i)) ≤ 1 := fun x => e2 (hone.mp x)
          omega
        rw [if_neg (by simp [e, bi]), if_pos h3]
        simp [e, e2]
    · simp [e, bi]
  · rw [u1_1]
    unfold fX9_isUseless_L10
    rw [mcn h, ly167_16 h.lay, h.bk, if_neg (by omega)]
end PUSE
