/-! useless purses all, and how many are known by all, both sides -/
section PALL
def usP (H K : Int → Int) (nC : Nat) (nP : Nat) : Int := accB (fun w => ulS H K w nC) nP
theorem purses_n {M : AwM} {cr so : Int} (h : CW M cr so) : fX0_uselessPurses SH M cr = some (usP (M (cr + 2)) (M (cr + 3)) (M (so + 1) 1).toNat (M (so + 1) 0).toNat) := by
  unfold fX0_uselessPurses
  have p0 := h.p0
  have p1 := h.p1
  have key := lp_cnt (body := u2 (fX0_uselessPurses_L4 SH M cr)) (fun i => (usP (M (cr + 2)) (M (cr + 3)) (M (so + 1) 1).toNat i, (i : Int))) (usP (M (cr + 2)) (M (cr + 3)) (M (so + 1) 1).toNat (M (so + 1) 0).toNat) (M (so + 1) 0).toNat ?_ ?_ FU (FU_gt (by omega))
  · show pb (lp (u2 (fX0_uselessPurses_L4 SH M cr)) FU (0, 0)) _ = _
    rw [show ((0 : Int), (0 : Int)) = (usP (M (cr + 2)) (M (cr + 3)) (M (so + 1) 1).toNat 0, ((0 : Nat) : Int)) from rfl, key, pb_1, u1_1]
  · intro i hi
    have hm := accB_lt (P := fun w => ulS (M (cr + 2)) (M (cr + 3)) w (M (so + 1) 1).toNat) (i := i) (by omega)
    change _ ≤ usP (M (cr + 2)) (M (cr + 3)) (M (so + 1) 1).toNat i ∧ usP (M (cr + 2)) (M (cr + 3)) (M (so + 1) 1).toNat i < _ at hm
    rw [u2_1]
    unfold fX0_uselessPurses_L4
    rw [kcr0 h.hcr, gd_t rfl, h.ref, kso0 h.hso, gd_t rfl, lso0_0 h.lay h.hso, kso1 h.hso, gd_t (by decide), if_pos (by omega), useless_n h (by omega) (by omega), pb_1, u1_1, w32_s (by omega) (by omega), stb_n hm.1 hm.2 (by omega) (by omega)]
    cases e : ulS (M (cr + 2)) (M (cr + 3)) i (M (so + 1) 1).toNat <;> simp [usP, accB, e, bi]
  · rw [u2_1]
    unfold fX0_uselessPurses_L4
    rw [kcr0 h.hcr, gd_t rfl, h.ref, kso0 h.hso, gd_t rfl, lso0_0 h.lay h.hso, kso1 h.hso, gd_t (by decide), if_neg (by omega)]
theorem mpn {M : AwM} {b L : Int} (h : MW M b L) {α : Type} {t : Option α} : gd_ (kd_ SH 167 = (0, 9)) (gd_ ((kd_ SH (M 167 14)).1 = 1 ∧ (0 : Int) ≤ (M 167 13) ∧ (M 167 13) < ((kd_ SH (M 167 14)).2 : Int)) t) = t := by
  have := h.hb0
  have := h.hb1
  rw [kd167, gd_t rfl, ly167_14 h.lay, kd169, h.bk, gd_t ⟨rfl, by omega, by show b < ((2 : Nat) : Int); omega⟩]
theorem mpurses_n {M : AwM} {b : Int} (h : MW M b 0) (hk : ∀ i : Int, 0 ≤ i → i < M 171 b → hb (M 199 (12 * 0 + i)) (M 198 (12 * 0 + i)) = true) : lp (u2 (fX9_has_L216 SH M 167)) FU (0, 0) = some (usP (fun i => M 198 (12 * 0 + i)) (fun i => M 199 (12 * 0 + i)) (M 171 b).toNat (M 169 b).toNat) := by
  have p0 := h.p0
  have p1 := h.p1
  have key := lp_cnt (body := u2 (fX9_has_L216 SH M 167)) (fun i => (usP (fun i => M 198 (12 * 0 + i)) (fun i => M 199 (12 * 0 + i)) (M 171 b).toNat i, (i : Int))) (usP (fun i => M 198 (12 * 0 + i)) (fun i => M 199 (12 * 0 + i)) (M 171 b).toNat (M 169 b).toNat) (M 169 b).toNat ?_ ?_ FU (FU_gt (by omega))
  · exact key
  · intro i hi
    have hm := accB_lt (P := fun w => ulS (fun i => M 198 (12 * 0 + i)) (fun i => M 199 (12 * 0 + i)) w (M 171 b).toNat) (i := i) (by omega)
    change _ ≤ usP (fun i => M 198 (12 * 0 + i)) (fun i => M 199 (12 * 0 + i)) (M 171 b).toNat i ∧ usP (fun i => M 198 (12 * 0 + i)) (fun i => M 199 (12 * 0 + i)) (M 171 b).toNat i < _ at hm
    rw [u2_1]
    unfold fX9_has_L216
    rw [mpn h, ly167_14 h.lay, h.bk, if_pos (by omega), museless_n h hk, pb_1, u1_1, w32_s (by omega) (by omega), stb_n hm.1 hm.2 (by omega) (by omega), or0_ hm.1 hm.2]
    rw [show usP (fun i => M 198 (12 * 0 + i)) (fun i => M 199 (12 * 0 + i)) (M 171 b).toNat (i + 1) = if ulS (fun i => M 198 (12 * 0 + i)) (fun i => M 199 (12 * 0 + i)) (i : Int) (M 171 b).toNat = true then stb (usP (fun i => M 198 (12 * 0 + i)) (fun i => M 199 (12 * 0 + i)) (M 171 b).toNat i) (i : Int) else usP (fun i => M 198 (12 * 0 + i)) (fun i => M 199 (12 * 0 + i)) (M 171 b).toNat i from rfl]
    generalize ulS (fun i => M 198 (12 * 0 + i)) (fun i => M 199 (12 * 0 + i)) (i : Int) (M 171 b).toNat = q
    cases q <;> rfl
  · rw [u2_1]
    unfold fX9_has_L216
    rw [mpn h, ly167_14 h.lay, h.bk, if_neg (by omega)]
/-- how many coins everyone knows -/
def kaS (K : Int → Int) (p : Int) (n : Nat) : Int := accS (fun i => if pc (K i) = p then 1 else 0) n
theorem kaS_b (K : Int → Int) (p : Int) (n : Nat) : 0 ≤ kaS K p n ∧ kaS K p n ≤ n := by
  have hm := accS_b (f := fun i => if pc (K i) = p then (1 : Int) else 0) (lo := 0) (hi := 1) n (fun c _ _ => by
    by_cases e : pc (K c) = p
    · simp only [if_pos e]; omega
    · simp only [if_neg e]; omega)
  change _ ≤ kaS K p n ∧ kaS K p n ≤ _ at hm
  omega
theorem full_n : (List.range 11).all (fun p => decide (w32 (sl_ 1 (p : Int) - 1) = ((2 ^ p - 1 : Nat) : Int))) = true := by decide +kernel
theorem allPeople_n {M : AwM} {cr so : Int} (h : CW M cr so) : fX5_allPeople SH M so = some ((2 ^ (M (so + 1) 0).toNat - 1 : Nat) : Int) := by
  unfold fX5_allPeople
  have p0 := h.p0
  have p1 := h.p1
  have e := of_decide_eq_true (List.all_eq_true.mp full_n (M (so + 1) 0).toNat (List.mem_range.mpr (by omega)))
  rw [show (((M (so + 1) 0).toNat : Nat) : Int) = M (so + 1) 0 by omega] at e
  rw [kso0 h.hso, gd_t rfl, lso0_0 h.lay h.hso, kso1 h.hso, gd_t (by decide), e]
theorem knowAll_n {M : AwM} {cr so : Int} (h : CW M cr so) : fX0_knowingAllCount SH M cr = some (kaS (M (cr + 3)) (M (so + 1) 0) (M (so + 1) 1).toNat) := by
  unfold fX0_knowingAllCount
  have c0 := h.c0
  have c1 := h.c1
  have key := lp_cnt (body := u2 (fX0_knowingAllCount_L4 SH M cr)) (fun i => (kaS (M (cr + 3)) (M (so + 1) 0) i, (i : Int))) (kaS (M (cr + 3)) (M (so + 1) 0) (M (so + 1) 1).toNat) (M (so + 1) 1).toNat ?_ ?_ FU (FU_gt (by omega))
  · show pb (lp (u2 (fX0_knowingAllCount_L4 SH M cr)) FU (0, 0)) _ = _
    rw [show ((0 : Int), (0 : Int)) = (kaS (M (cr + 3)) (M (so + 1) 0) 0, ((0 : Nat) : Int)) from rfl, key, pb_1, u1_1]
  · intro i hi
    have hm := kaS_b (M (cr + 3)) (M (so + 1) 0) i
    have hf := pc_full h.p0 h.p1 (h.knp i (by omega) (by omega))
    rw [u2_1]
    unfold fX0_knowingAllCount_L4
    rw [kcr0 h.hcr, gd_t rfl, coins_n h, pb_1, u1_1, if_pos (by omega), lcr0_0 h.lay h.hcr, kcr1 h.hcr, gd_t rfl, lcr1_2 h.lay h.hcr, kcr3 h.hcr, gd_t ⟨rfl, by omega, by show (i : Int) < ((12 : Nat) : Int); omega⟩, h.ref, kso0 h.hso, gd_t rfl, allPeople_n h, pb_1, u1_1, w32_s (v := (i : Int) + 1) (by omega) (by omega)]
    by_cases e : pc (M (cr + 3) i) = M (so + 1) 0
    · rw [if_pos (hf.mp e), w32_s (by omega) (by omega)]
      simp [kaS, accS, e]
    · rw [if_neg (fun x => e (hf.mpr x))]
      simp [kaS, accS, e]
  · rw [u2_1]
    unfold fX0_knowingAllCount_L4
    rw [kcr0 h.hcr, gd_t rfl, coins_n h, pb_1, u1_1, if_neg (by omega)]
theorem mknowAll_n {M : AwM} {b : Int} (h : MW M b 0) : lp (u2 (fX9_has_L164 SH M 167)) FU (0, 0) = some (kaS (M 199) (M 169 b) (M 171 b).toNat) := by
  have c0 := h.c0
  have c1 := h.c1
  have := h.hb0
  have := h.hb1
  have key := lp_cnt (body := u2 (fX9_has_L164 SH M 167)) (fun i => (kaS (M 199) (M 169 b) i, (i : Int))) (kaS (M 199) (M 169 b) (M 171 b).toNat) (M 171 b).toNat ?_ ?_ FU (FU_gt (by omega))
  · exact key
  · intro i hi
    have hm := kaS_b (M 199) (M 169 b) i
    have hs := h.kn i (by omega) (by omega)
    rw [Int.mul_zero, Int.zero_add] at hs
    rw [u2_1]
    unfold fX9_has_L164
    rw [mcn h, ly167_16 h.lay, h.bk, if_pos (by omega), ly167_50 h.lay, kd199, gd_t ⟨rfl, by omega, by show (i : Int) < ((264 : Nat) : Int); omega⟩, bits_n (ms_up hs (by omega)), pb_1, u1_1, ly167_14 h.lay, kd169, gd_t ⟨rfl, by omega, by show b < ((2 : Nat) : Int); omega⟩, w32_s (v := (i : Int) + 1) (by omega) (by omega)]
    by_cases e : pc (M 199 i) = M 169 b
    · rw [if_pos e, w32_s (by omega) (by omega)]
      simp [kaS, accS, e]
    · rw [if_neg e, w32_s (by omega) (by omega)]
      simp [kaS, accS, e]
  · rw [u2_1]
    unfold fX9_has_L164
    rw [mcn h, ly167_16 h.lay, h.bk, if_neg (by omega)]
end PALL
