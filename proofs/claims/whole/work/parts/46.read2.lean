/-! worths, flow, useless purses, both sides -/
section PREAD2
def allB (P : Int → Bool) : Nat → Bool
  | 0 => true
  | i + 1 => allB P i && P (i : Int)
theorem allB_iff {P : Int → Bool} : ∀ {n : Nat}, allB P n = true ↔ ∀ c : Int, 0 ≤ c → c < n → P c = true
  | 0 => by
    constructor
    · intro _ c h0 h1; omega
    · intro _; rfl
  | i + 1 => by
    rw [show allB P (i + 1) = (allB P i && P (i : Int)) from rfl, Bool.and_eq_true, allB_iff]
    constructor
    · intro ⟨h, hi⟩ c h0 h1
      by_cases e : c = (i : Int)
      · rw [e]; exact hi
      · exact h c h0 (by omega)
    · intro h
      exact ⟨fun c h0 h1 => h c h0 (by omega), h (i : Int) (by omega) (by omega)⟩
theorem allB_congr {P Q : Int → Bool} : ∀ n : Nat, (∀ c : Int, 0 ≤ c → c < n → P c = Q c) → allB P n = allB Q n
  | 0, _ => rfl
  | i + 1, h => by
    unfold allB
    rw [allB_congr i (fun c h0 h1 => h c h0 (by omega)), h (i : Int) (by omega) (by omega)]
theorem lp_all {body : Int → Option (Int ⊕ (Unit ⊕ Unit))} {P : Int → Bool} {n : Nat} (hs : ∀ i : Nat, i < n → body (i : Int) = if P (i : Int) = true then some (.inl ((i : Int) + 1)) else some (.inr (.inr ()))) (he : body (n : Int) = some (.inr (.inl ()))) : ∀ N, n < N → lp body N 0 = some (if allB P n = true then .inl () else .inr ()) := by
  have key : ∀ k i N : Nat, i + k = n → k < N → allB P i = true → lp body N (i : Int) = some (if allB P n = true then .inl () else .inr ()) := by
    intro k
    induction k with
    | zero =>
      intro i N h hN ha
      have : i = n := by omega
      subst this
      obtain ⟨m, rfl⟩ : ∃ m, N = m + 1 := ⟨N - 1, by omega⟩
      rw [lp_st he, if_pos ha]
    | succ k ih =>
      intro i N h hN ha
      obtain ⟨m, rfl⟩ : ∃ m, N = m + 1 := ⟨N - 1, by omega⟩
      have hb := hs i (by omega)
      by_cases hp : P (i : Int) = true
      · rw [if_pos hp] at hb
        rw [lp_go hb]
        exact ih (i + 1) m (by omega) (by omega) (by unfold allB; rw [ha, hp]; rfl)
      · rw [if_neg hp] at hb
        rw [lp_st hb, if_neg]
        intro x
        exact hp (allB_iff.mp x (i : Int) (by omega) (by omega))
  intro N hN
  exact key n 0 N (by omega) hN rfl
theorem mul_b {a p : Int} (a0 : 0 ≤ a) (a1 : a ≤ 99) (p0 : 0 ≤ p) (p1 : p ≤ 12) : -99 ≤ a * (p - 1) ∧ a * (p - 1) ≤ 1089 := by
  have : p = 0 ∨ p = 1 ∨ p = 2 ∨ p = 3 ∨ p = 4 ∨ p = 5 ∨ p = 6 ∨ p = 7 ∨ p = 8 ∨ p = 9 ∨ p = 10 ∨ p = 11 ∨ p = 12 := by omega
  rcases this with rfl | rfl | rfl | rfl | rfl | rfl | rfl | rfl | rfl | rfl | rfl | rfl | rfl <;> omega
/-- the worth of a set of coins -/
def wtS (W : Int → Int) (S : Int) (n : Nat) : Int := accS (fun i => if hz S i = true then W i else 0) n
theorem worth_n {M : AwM} {cr so S : Int} (h : CW M cr so) (hS : ms 12 S) : fX5_worthOf SH M so S = some (wtS (M (so + 4)) S (M (so + 1) 1).toNat) := by
  unfold fX5_worthOf
  have c0 := h.c0
  have c1 := h.c1
  have key := lp_cnt (body := u2 (fX5_worthOf_L4 SH M so S)) (fun i => (wtS (M (so + 4)) S i, (i : Int))) (wtS (M (so + 4)) S (M (so + 1) 1).toNat) (M (so + 1) 1).toNat ?_ ?_ FU (FU_gt (by omega))
  · show pb (lp (u2 (fX5_worthOf_L4 SH M so S)) FU (0, 0)) _ = _
    rw [show ((0 : Int), (0 : Int)) = (wtS (M (so + 4)) S 0, ((0 : Nat) : Int)) from rfl, key, pb_1, u1_1]
  · intro i hi
    have hm := accS_b (f := fun i => if hz S i = true then M (so + 4) i else 0) (lo := 0) (hi := 99) i (fun c c0 c1 => by
      by_cases e : hz S c = true
      · simp only [if_pos e]; exact h.wo c c0 (by omega)
      · simp only [if_neg e]; omega)
    have hw := h.wo i (by omega) (by omega)
    change _ ≤ wtS (M (so + 4)) S i ∧ wtS (M (so + 4)) S i ≤ _ at hm
    rw [u2_1]
    unfold fX5_worthOf_L4
    rw [kso0 h.hso, gd_t rfl, lso0_0 h.lay h.hso, kso1 h.hso, gd_t (by decide), if_pos (by omega), isIn_n hS (by omega), pb_1, u1_1, lso0_3 h.lay h.hso, kso4 h.hso, w32_s (v := i + 1) (by omega) (by omega)]
    by_cases e : hz S i = true
    · rw [if_neg (by rw [e]; decide), gd_t ⟨rfl, by omega, by show (i : Int) < ((12 : Nat) : Int); omega⟩, w32_s (by omega) (by omega)]
      simp [wtS, accS, e]
    · rw [if_pos (bi_0.mpr (Bool.eq_false_iff.mpr e))]
      simp [wtS, accS, e]
  · rw [u2_1]
    unfold fX5_worthOf_L4
    rw [kso0 h.hso, gd_t rfl, lso0_0 h.lay h.hso, kso1 h.hso, gd_t (by decide), if_neg (by omega)]
theorem mworth_n {M : AwM} {b L S : Int} (h : MW M b L) (hS : ms 12 S) : fX9_worthAll SH M 167 S = some (wtS (fun i => M 172 (12 * b + i)) S (M 171 b).toNat) := by
  unfold fX9_worthAll
  have c0 := h.c0
  have c1 := h.c1
  have key := lp_cnt (body := u2 (fX9_worthAll_L4 SH M 167 S)) (fun i => (wtS (fun i => M 172 (12 * b + i)) S i, (i : Int))) (wtS (fun i => M 172 (12 * b + i)) S (M 171 b).toNat) (M 171 b).toNat ?_ ?_ FU (FU_gt (by omega))
  · show pb (lp (u2 (fX9_worthAll_L4 SH M 167 S)) FU (0, 0)) _ = _
    rw [show ((0 : Int), (0 : Int)) = (wtS (fun i => M 172 (12 * b + i)) S 0, ((0 : Nat) : Int)) from rfl, key, pb_1, u1_1]
  · intro i hi
    have hm := accS_b (f := fun i => if hz S i = true then M 172 (12 * b + i) else 0) (lo := 0) (hi := 99) i (fun c c0 c1 => by
      by_cases e : hz S c = true
      · simp only [if_pos e]; exact h.wo c c0 (by omega)
      · simp only [if_neg e]; omega)
    have hw := h.wo i (by omega) (by omega)
    change _ ≤ wtS (fun i => M 172 (12 * b + i)) S i ∧ wtS (fun i => M 172 (12 * b + i)) S i ≤ _ at hm
    rw [u2_1]
    unfold fX9_worthAll_L4
    rw [mcn h, ly167_16 h.lay, h.bk, if_pos (by omega), has2_n hS (by omega) (by omega) (by omega), pb_1, u1_1, w32_s (v := i + 1) (by omega) (by omega)]
    by_cases e : hz S i = true
    · rw [if_neg (by rw [e]; decide), mworthOf_n h (by omega) (by omega), pb_1, u1_1, w32_s (by omega) (by omega)]
      simp [wtS, accS, e]
    · rw [if_pos (bi_0.mpr (Bool.eq_false_iff.mpr e)), w32_s (by omega) (by omega)]
      simp [wtS, accS, e]
  · rw [u2_1]
    unfold fX9_worthAll_L4
    rw [mcn h, ly167_16 h.lay, h.bk, if_neg (by omega)]
/-- the flow -/
def flS (W K : Int → Int) (n : Nat) : Int := accS (fun i => W i * (pc (K i) - 1)) n
theorem flow_n {M : AwM} {cr so : Int} (h : CW M cr so) : fX0_flow SH M cr = some (flS (M (so + 4)) (M (cr + 3)) (M (so + 1) 1).toNat) := by
  unfold fX0_flow
  have c0 := h.c0
  have c1 := h.c1
  have key := lp_cnt (body := u2 (fX0_flow_L4 SH M cr)) (fun i => (flS (M (so + 4)) (M (cr + 3)) i, (i : Int))) (flS (M (so + 4)) (M (cr + 3)) (M (so + 1) 1).toNat) (M (so + 1) 1).toNat ?_ ?_ FU (FU_gt (by omega))
  · show pb (lp (u2 (fX0_flow_L4 SH M cr)) FU (0, 0)) _ = _
    rw [show ((0 : Int), (0 : Int)) = (flS (M (so + 4)) (M (cr + 3)) 0, ((0 : Nat) : Int)) from rfl, key, pb_1, u1_1]
  · intro i hi
    have hm := accS_b (f := fun i => M (so + 4) i * (pc (M (cr + 3) i) - 1)) (lo := -99) (hi := 1089) i (fun c c0 c1 => mul_b (h.wo c c0 (by omega)).1 (h.wo c c0 (by omega)).2 (pc_b _).1 (pc_b _).2)
    have hw := h.wo i (by omega) (by omega)
    have hp := pc_b (M (cr + 3) i)
    have hq := mul_b hw.1 hw.2 hp.1 hp.2
    change _ ≤ flS (M (so + 4)) (M (cr + 3)) i ∧ flS (M (so + 4)) (M (cr + 3)) i ≤ _ at hm
    rw [u2_1]
    unfold fX0_flow_L4
    rw [kcr0 h.hcr, gd_t rfl, coins_n h, pb_1, u1_1, if_pos (by omega), h.ref, kso0 h.hso, gd_t rfl, lso0_3 h.lay h.hso, kso4 h.hso, gd_t ⟨rfl, by omega, by show (i : Int) < ((12 : Nat) : Int); omega⟩, lcr0_0 h.lay h.hcr, kcr1 h.hcr, gd_t rfl, lcr1_2 h.lay h.hcr, kcr3 h.hcr, gd_t ⟨rfl, by omega, by show (i : Int) < ((12 : Nat) : Int); omega⟩, bc_n (ms_up (h.kn i (by omega) (by omega)) (by omega)), pb_1, u1_1, w32_s (v := pc (M (cr + 3) i) - 1) (by omega) (by omega), w32_s (v := M (so + 4) i * (pc (M (cr + 3) i) - 1)) (by omega) (by omega), bd_1, w32_s (by omega) (by omega), w32_s (by omega) (by omega)]
    rfl
  · rw [u2_1]
    unfold fX0_flow_L4
    rw [kcr0 h.hcr, gd_t rfl, coins_n h, pb_1, u1_1, if_neg (by omega)]
theorem mflow_n {M : AwM} {b L : Int} (h : MW M b L) : fX9_flowOf SH M 167 L = some (flS (fun i => M 172 (12 * b + i)) (fun i => M 199 (12 * L + i)) (M 171 b).toNat) := by
  unfold fX9_flowOf
  have c0 := h.c0
  have c1 := h.c1
  have l0 := h.l0
  have l1 := h.l1
  have key := lp_cnt (body := u2 (fX9_flowOf_L4 SH M 167 L)) (fun i => (flS (fun i => M 172 (12 * b + i)) (fun i => M 199 (12 * L + i)) i, (i : Int))) (flS (fun i => M 172 (12 * b + i)) (fun i => M 199 (12 * L + i)) (M 171 b).toNat) (M 171 b).toNat ?_ ?_ FU (FU_gt (by omega))
  · show pb (lp (u2 (fX9_flowOf_L4 SH M 167 L)) FU (0, 0)) _ = _
    rw [show ((0 : Int), (0 : Int)) = (flS (fun i => M 172 (12 * b + i)) (fun i => M 199 (12 * L + i)) 0, ((0 : Nat) : Int)) from rfl, key, pb_1, u1_1]
  · intro i hi
    have hm := accS_b (f := fun i => M 172 (12 * b + i) * (pc (M 199 (12 * L + i)) - 1)) (lo := -99) (hi := 1089) i (fun c c0 c1 => mul_b (h.wo c c0 (by omega)).1 (h.wo c c0 (by omega)).2 (pc_b _).1 (pc_b _).2)
    have hw := h.wo i (by omega) (by omega)
    have hp := pc_b (M 199 (12 * L + i))
    have hq := mul_b hw.1 hw.2 hp.1 hp.2
    change _ ≤ flS (fun i => M 172 (12 * b + i)) (fun i => M 199 (12 * L + i)) i ∧ flS (fun i => M 172 (12 * b + i)) (fun i => M 199 (12 * L + i)) i ≤ _ at hm
    rw [u2_1]
    unfold fX9_flowOf_L4
    rw [mcn h, ly167_16 h.lay, h.bk, if_pos (by omega), mworthOf_n h (by omega) (by omega), pb_1, u1_1, ly167_50 h.lay, kd199, w32_s (v := 12 * L) (by omega) (by omega), w32_s (v := 12 * L + i) (by omega) (by omega), gd_t ⟨rfl, by omega, by show (12 * L + i : Int) < ((264 : Nat) : Int); omega⟩, bits_n (ms_up (h.kn i (by omega) (by omega)) (by omega)), pb_1, u1_1, w32_s (v := pc (M 199 (12 * L + i)) - 1) (by omega) (by omega), w32_s (v := M 172 (12 * b + i) * (pc (M 199 (12 * L + i)) - 1)) (by omega) (by omega), w32_s (by omega) (by omega), w32_s (by omega) (by omega)]
    rfl
  · rw [u2_1]
    unfold fX9_flowOf_L4
    rw [mcn h, ly167_16 h.lay, h.bk, if_neg (by omega)]
end PREAD2
