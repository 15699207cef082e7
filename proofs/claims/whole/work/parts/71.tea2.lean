/-! the call of a tea; masks -/
section PTEA2
theorem an_not {v m : Int} (hv : I32 v) (m0 : 0 ≤ m) (m1 : m < 2147483648) : an_ v (xo_ m (-1)) = 0 ↔ 0 ≤ v ∧ ∀ q : Int, 0 ≤ q → q < 31 → hb v q = true → hb m q = true := by
  obtain ⟨a, rfl⟩ := Int.eq_ofNat_of_zero_le m0
  have ha : a < 2 ^ 31 := by omega
  have hm : ∀ i, i < 32 → (i32 (-1)).toBitVec.getLsbD i = true := fun i hi => by
    have : (i32 (-1)).toBitVec = BitVec.allOnes 32 := by decide
    rw [this, BitVec.getLsbD_allOnes]
    exact decide_eq_true hi
  have hA : ∀ i, (i32 (a : Int)).toBitVec.getLsbD i = (decide (i < 32) && a.testBit i) := fun i => by
    show (BitVec.ofNat 32 a).getLsbD i = _
    rw [BitVec.getLsbD_ofNat]
  have key : an_ v (xo_ (a : Int) (-1)) = 0 ↔ ∀ i, i < 32 → (i32 v).toBitVec.getLsbD i = true → a.testBit i = true := by
    unfold an_ xo_
    rw [i32_t]
    have h0 : (i32 v &&& (i32 (a : Int) ^^^ i32 (-1))).toInt = 0 ↔ (i32 v &&& (i32 (a : Int) ^^^ i32 (-1))) = 0 := by
      rw [← Int32.toInt_inj]
      exact Iff.rfl
    rw [h0, ← Int32.toBitVec_inj, Int32.toBitVec_and, Int32.toBitVec_xor]
    constructor
    · intro h i hi hvi
      have h2 := congrArg (fun x : BitVec 32 => x.getLsbD i) h
      simp only [BitVec.getLsbD_and, BitVec.getLsbD_xor, hvi, hm i hi, hA i, decide_eq_true hi, Bool.true_and] at h2
      have z : (0 : Int32).toBitVec.getLsbD i = false := by
        show (0 : BitVec 32).getLsbD i = false
        simp
      rw [z] at h2
      cases hb2 : a.testBit i
      · rw [hb2] at h2; cases h2
      · rfl
    · intro h
      apply BitVec.eq_of_getLsbD_eq
      intro i hi
      have z : (0 : Int32).toBitVec.getLsbD i = false := by
        show (0 : BitVec 32).getLsbD i = false
        simp
      rw [z, BitVec.getLsbD_and, BitVec.getLsbD_xor, hm i hi, hA i, decide_eq_true hi, Bool.true_and]
      cases hvi : (i32 v).toBitVec.getLsbD i
      · rfl
      · rw [h i hi hvi]; rfl
  rw [key]
  have hmsb : (i32 v).toBitVec.getLsbD 31 = decide (v < 0) := by
    have h1 : (i32 v).toBitVec.msb = decide (v < 0) := by
      rw [BitVec.msb_eq_toInt]
      show decide ((i32 v).toInt < 0) = _
      rw [i32_i hv]
    rw [← h1, BitVec.msb_eq_getLsbD_last]
  have hN : ∀ b : Nat, v = (b : Int) → ∀ i, i < 32 → (i32 v).toBitVec.getLsbD i = b.testBit i := fun b hb' i hi => by
    rw [hb']
    show (BitVec.ofNat 32 b).getLsbD i = _
    rw [BitVec.getLsbD_ofNat, decide_eq_true hi, Bool.true_and]
  constructor
  · intro h
    have v0 : 0 ≤ v := by
      apply Classical.byContradiction
      intro g
      have := h 31 (by decide) (by rw [hmsb]; exact decide_eq_true (by omega))
      rw [Nat.testBit_lt_two_pow ha] at this
      cases this
    refine ⟨v0, fun q q0 q1 hq => ?_⟩
    unfold hb at *
    rw [Int.toNat_natCast]
    refine h q.toNat (by omega) ?_
    rw [hN v.toNat (by omega) _ (by omega)]
    exact hq
  · rintro ⟨v0, h⟩ i hi hvi
    rw [hN v.toNat (by omega) i hi] at hvi
    by_cases g : i = 31
    · subst g
      unfold I32 at hv
      rw [Nat.testBit_lt_two_pow (by omega)] at hvi
      cases hvi
    · have := h (i : Int) (by omega) (by omega) (by unfold hb; exact hvi)
      unfold hb at this
      simpa using this
theorem ms_sub {n : Nat} {v m : Int} (hm : ms n m) (hn : n ≤ 31) (v0 : 0 ≤ v) (v1 : v ≤ 2147483647) (h : ∀ q : Int, 0 ≤ q → q < 31 → hb v q = true → hb m q = true) : ms n v := by
  have h31 : ms 31 v := ms_n.mpr ⟨v.toNat, by omega, by omega⟩
  have hb2 : ∀ q : Int, 0 ≤ q → hb v q = true → q < n := fun q q0 hq => by
    apply Classical.byContradiction
    intro g
    by_cases g2 : q < 31
    · have := h q q0 g2 hq
      rw [ms_hb hm (by omega)] at this
      cases this
    · rw [ms_hb h31 (by omega)] at hq
      cases hq
  refine ms_n.mpr ⟨v.toNat, by omega, ?_⟩
  apply Nat.lt_pow_two_of_testBit
  intro i hi
  cases g : v.toNat.testBit i
  · rfl
  · have := hb2 (i : Int) (by omega) (by unfold hb; exact g)
    omega
theorem isr_n {sh : AwS} {M : AwM} {v lo hi : Int} : fX9_is sh M v lo hi = some (bi (decide (lo ≤ v ∧ v ≤ hi))) := by
  unfold fX9_is
  by_cases a : v < lo
  · rw [if_pos a, decide_eq_false (by omega)]; rfl
  · rw [if_neg a]
    by_cases c : hi < v
    · rw [if_pos c, decide_eq_false (by omega)]; rfl
    · rw [if_neg c, decide_eq_true (⟨by omega, by omega⟩ : lo ≤ v ∧ v ≤ hi)]; rfl
theorem bcx {sh : AwS} {M : AwM} {v : Int} : ∃ x, fJ6_bitCount_0f7a4 sh M v = some x := ⟨_, rfl⟩
theorem ms_full {p : Int} (p0 : 0 ≤ p) (p1 : p ≤ 10) : ms p.toNat ((2 ^ p.toNat - 1 : Nat) : Int) ∧ ∀ q : Int, 0 ≤ q → q < p → hb ((2 ^ p.toNat - 1 : Nat) : Int) q = true := by
  have hp := Nat.two_pow_pos p.toNat
  refine ⟨ms_n.mpr ⟨_, rfl, by omega⟩, fun q q0 q1 => ?_⟩
  unfold hb
  rw [Int.toNat_natCast, Nat.testBit_two_pow_sub_one]
  exact decide_eq_true (by omega)
theorem msl_n {s d : AwM} {M : AwM} {b L : Int} (h : MM M b L s d) : w32 (sl_ 1 (M 169 b) - 1) = ((2 ^ (s 0 0).toNat - 1 : Nat) : Int) := by
  have hp := h.ok.p
  have e := of_decide_eq_true (List.all_eq_true.mp full_n (s 0 0).toNat (List.mem_range.mpr (by omega)))
  rw [show (((s 0 0).toNat : Nat) : Int) = s 0 0 by omega] at e
  rw [h.n0, e]
def gstA (s : AwM) (g : Int) : Bool := decide (0 ≤ g ∧ g ≤ ((2 ^ (s 0 0).toNat - 1 : Nat) : Int)) && decide (2 ≤ pc g ∧ pc g ≤ 4)
theorem msk_n {s : AwM} {g : Int} (ho : SoOK s) (hg : I32 g) : an_ g (xo_ ((2 ^ (s 0 0).toNat - 1 : Nat) : Int) (-1)) = 0 ↔ 0 ≤ g ∧ g ≤ ((2 ^ (s 0 0).toNat - 1 : Nat) : Int) := by
  have hp := ho.p
  obtain ⟨f1, f2⟩ := ms_full hp.1 hp.2
  have fl := ms_lt f1 (by omega)
  have pp := Nat.two_pow_pos (s 0 0).toNat
  rw [an_not hg fl.1 fl.2]
  constructor
  · rintro ⟨g0, h⟩
    have := ms_sub f1 (by omega) g0 hg.2 h
    obtain ⟨x, e, hx⟩ := ms_n.mp this
    omega
  · rintro ⟨g0, g1⟩
    refine ⟨g0, fun q q0 q1 hq => f2 q q0 ?_⟩
    have hm : ms (s 0 0).toNat g := ms_n.mpr ⟨g.toNat, by omega, by omega⟩
    apply Classical.byContradiction
    intro z
    rw [ms_hb hm (by omega)] at hq
    cases hq
theorem tea_b {s d : AwM} {n : Int} {R : Int → AwM} {mi : AwM} {g : Int} (hg : I32 g) : BSt (fun M => fX8_tea SH M 1 g) (fun M => fX9_tea SH M 167 g) s d n R mi := by
  by_cases ha : gstA s g = true
  · refine ⟨(teaA s g d).1, s, (teaA s g d).2, min 20 (n + 1), kpR d R, mi, fun M h => ?_, fun M h => ?_⟩
    · have l := h.lay
      have ho := h.cc.ok
      have hp := ho.p
      have pp := Nat.two_pow_pos (s 0 0).toNat
      unfold gstA at ha
      rw [Bool.and_eq_true, decide_eq_true_iff, decide_eq_true_iff] at ha
      have hm : ms 10 g := ms_up (ms_n.mpr ⟨g.toNat, by omega, show g.toNat < 2 ^ (s 0 0).toNat by omega⟩) (by omega)
      obtain ⟨M1, e1, h1, f1, g1⟩ := keep_n h
      obtain ⟨M2, e2, h2, f2⟩ := takeTea_n h1.cc hm
      refine ⟨M2, ?_, CR_of h1 f2 h2, hif_tr f1 (cfr_hi (Or.inl rfl) h1.cc.hso f2)⟩
      show fX8_tea SH M 1 g = _
      unfold fX8_tea
      rw [bc_n (ms_up hm (by decide)), pb_1, u1_1, kd1, gd_t rfl, kso0 h.cc.hso, gd_t rfl, allPeople_n h.cc.cw, pb_1, u1_1, h.cc.n0, if_pos ((msk_n ho hg).mpr ha.1), if_neg (by omega), if_neg (by omega), ly1_4 l, kd153, gd_t rfl, ly1_6 l, kd26, gd_t rfl, ly153_0 l, e1, pb_1, u1_1, ly1_4 h1.lay, kd153, gd_t rfl, e2, pb_1, u2_1]
    · have l := h.lay
      have ho := h.mm.ok
      have hp := ho.p
      have pp := Nat.two_pow_pos (s 0 0).toNat
      have hbb := h.mm.b01
      unfold gstA at ha
      rw [Bool.and_eq_true, decide_eq_true_iff, decide_eq_true_iff] at ha
      have hm : ms 10 g := ms_up (ms_n.mpr ⟨g.toNat, by omega, show g.toNat < 2 ^ (s 0 0).toNat by omega⟩) (by omega)
      obtain ⟨M1, e1, h1, f1⟩ := mkeep_n h
      obtain ⟨M2, e2, h2, f2⟩ := teaOf_n h1.mm hm
      refine ⟨M2, ?_, MR_of h1 f2 h2, lof_tr f1 (mfr_lo f2)⟩
      show fX9_tea SH M 167 g = _
      unfold fX9_tea
      rw [kd167, gd_t rfl, ly167_14 l, kd169, ga_t (by omega) (by omega), msl_n h.mm, isr_n, pb_1, u1_1, bi_if, if_pos (decide_eq_true ha.1), bits_n (ms_up hm (by decide)), pb_1, u1_1, isr_n, pb_1, u1_1, bi_if, if_pos (decide_eq_true ha.2), e1, pb_1, u1_1, e2, pb_1, u2_1]
  · refine ⟨-1, s, d, n, R, rfu mi 3, fun M h => ?_, fun M h => ?_⟩
    · have l := h.lay
      have ho := h.cc.ok
      have hp := ho.p
      have pp := Nat.two_pow_pos (s 0 0).toNat
      obtain ⟨M1, e1, h1, f1⟩ := refC h (k := 3) (by decide) (by decide)
      refine ⟨M1, ?_, h1, f1⟩
      show fX8_tea SH M 1 g = _
      unfold fX8_tea
      by_cases z : 0 ≤ g ∧ g ≤ ((2 ^ (s 0 0).toNat - 1 : Nat) : Int)
      · have hm : ms 10 g := ms_up (ms_n.mpr ⟨g.toNat, by omega, show g.toNat < 2 ^ (s 0 0).toNat by omega⟩) (by omega)
        have hn : ¬ (2 ≤ pc g ∧ pc g ≤ 4) := fun w => ha (by unfold gstA; rw [decide_eq_true z, decide_eq_true w]; rfl)
        rw [bc_n (ms_up hm (by decide)), pb_1, u1_1, kd1, gd_t rfl, kso0 h.cc.hso, gd_t rfl, allPeople_n h.cc.cw, pb_1, u1_1, h.cc.n0, if_pos ((msk_n ho hg).mpr z), e1, pb_1, u2_1]
        by_cases w : pc g < 2
        · rw [if_pos w]
        · rw [if_neg w, if_pos (by omega)]
      · obtain ⟨x, ex⟩ := bcx (sh := SH) (M := M) (v := g)
        rw [ex, pb_1, u1_1, kd1, gd_t rfl, kso0 h.cc.hso, gd_t rfl, allPeople_n h.cc.cw, pb_1, u1_1, h.cc.n0, if_neg (fun w => z ((msk_n ho hg).mp w)), e1, pb_1, u2_1]
    · have l := h.lay
      have ho := h.mm.ok
      have hp := ho.p
      have pp := Nat.two_pow_pos (s 0 0).toNat
      have hbb := h.mm.b01
      obtain ⟨M1, e1, h1, f1⟩ := refM h (k := 3) (by decide) (by decide)
      refine ⟨M1, ?_, h1, f1⟩
      show fX9_tea SH M 167 g = _
      unfold fX9_tea
      by_cases z : 0 ≤ g ∧ g ≤ ((2 ^ (s 0 0).toNat - 1 : Nat) : Int)
      · have hm : ms 10 g := ms_up (ms_n.mpr ⟨g.toNat, by omega, show g.toNat < 2 ^ (s 0 0).toNat by omega⟩) (by omega)
        have hn : ¬ (2 ≤ pc g ∧ pc g ≤ 4) := fun w => ha (by unfold gstA; rw [decide_eq_true z, decide_eq_true w]; rfl)
        rw [kd167, gd_t rfl, ly167_14 l, kd169, ga_t (by omega) (by omega), msl_n h.mm, isr_n, pb_1, u1_1, bi_if, if_pos (decide_eq_true z), bits_n (ms_up hm (by decide)), pb_1, u1_1, isr_n, pb_1, u1_1, bi_if, if_neg (by rw [decide_eq_false hn]; decide), e1, pb_1, u2_1]
      · rw [kd167, gd_t rfl, ly167_14 l, kd169, ga_t (by omega) (by omega), msl_n h.mm, isr_n, pb_1, u1_1, bi_if, if_neg (by rw [decide_eq_false z]; decide), e1, pb_1, u2_1]
end PTEA2
