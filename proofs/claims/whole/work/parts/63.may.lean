/-! who holds, knows; may, goods, spend: each side by itself -/
section PMAY
def hld (s d : AwM) (w : Int) : Int := accB (fun i => decide (d 1 i = w)) (s 0 1).toNat
def kng (s d : AwM) (w : Int) : Int := accB (fun i => hz (d 2 i) w) (s 0 1).toNat
def snb (s d : AwM) (w : Int) : Int := accB (fun i => hz (d 3 i) w) (s 0 1).toNat
def wts (s : AwM) (S : Int) : Int := wtS (s 2) S (s 0 1).toNat
theorem n1t {x : Int} (h : 0 ≤ x) : ((x.toNat : Nat) : Int) = x := by omega
theorem hld_n {M : AwM} {cr so : Int} {s d : AwM} (h : CC M cr so s d) {w : Int} : fX0_heldBy SH M cr w = some (hld s d w) := by
  have c := h.ok.c
  rw [heldBy_n h.cw, h.n1]
  exact congrArg some (accB_congr _ (fun i i0 i1 => by rw [h.ho i0 (by omega)]))
theorem kng_n {M : AwM} {cr so : Int} {s d : AwM} (h : CC M cr so s d) {w : Int} : fX0_knowing SH M cr w = some (kng s d w) := by
  have c := h.ok.c
  rw [knowing_n h.cw, h.n1]
  exact congrArg some (accB_congr _ (fun i i0 i1 => by rw [h.kn i0 (by omega)]))
theorem snb_n {M : AwM} {cr so : Int} {s d : AwM} (h : CC M cr so s d) {w : Int} : fX0_snubbedBy SH M cr w = some (snb s d w) := by
  have c := h.ok.c
  rw [snubbedBy_n h.cw, h.n1]
  exact congrArg some (accB_congr _ (fun i i0 i1 => by rw [h.sn i0 (by omega)]))
theorem wts_n {M : AwM} {cr so : Int} {s d : AwM} (h : CC M cr so s d) {S : Int} (hS : ms 12 S) : fX5_worthOf SH M so S = some (wts s S) := by
  have c := h.ok.c
  rw [worth_n h.cw hS, h.n1]
  exact congrArg some (wtS_congr _ (fun i i0 i1 => h.wo i0 (by omega)))
theorem mhld_n {M : AwM} {b L : Int} {s d : AwM} (h : MM M b L s d) {w : Int} : fX9_heldBy SH M 167 L w = some (hld s d w) := by
  have c := h.ok.c
  rw [mheldBy_n h.mw, h.n1]
  exact congrArg some (accB_congr _ (fun i i0 i1 => by rw [h.ho i0 (by omega)]))
theorem mkng_n {M : AwM} {b L : Int} {s d : AwM} (h : MM M b L s d) {w : Int} (w0 : 0 ≤ w) (w1 : w < 32) : fX9_knowing SH M 167 L w = some (kng s d w) := by
  have c := h.ok.c
  rw [mknowing_n h.mw w0 w1, h.n1]
  exact congrArg some (accB_congr _ (fun i i0 i1 => by rw [h.kn i0 (by omega)]))
theorem mwts_n {M : AwM} {b L : Int} {s d : AwM} (h : MM M b L s d) {S : Int} (hS : ms 12 S) : fX9_worthAll SH M 167 S = some (wts s S) := by
  have c := h.ok.c
  rw [mworth_n h.mw hS, h.n1]
  exact congrArg some (wtS_congr _ (fun i i0 i1 => h.wo i0 (by omega)))
theorem hld_ms {s d : AwM} (h : SoOK s) {w : Int} : ms 12 (hld s d w) := ms_up (accB_ms _ _) (by have := h.c; omega)
theorem kng_ms {s d : AwM} (h : SoOK s) {w : Int} : ms 12 (kng s d w) := ms_up (accB_ms _ _) (by have := h.c; omega)
theorem hld_pc {s d : AwM} (h : SoOK s) {w : Int} : 0 ≤ pc (hld s d w) ∧ pc (hld s d w) ≤ 12 := pc_b _
def tH (s d : AwM) (c p : Int) : Bool := tst s d c (d 1 c) p (pc (d 2 c)) (pc (hld s d (d 1 c)))
theorem testHolds_n {M : AwM} {cr so : Int} {s d : AwM} (h : CC M cr so s d) {c p : Int} (c0 : 0 ≤ c) (c1 : c < s 0 1) (p0 : 0 ≤ p) (p1 : p < s 0 0) : ∃ M', fX0_testHolds SH M cr c p = some (bi (tH s d c p), M') ∧ csc cr so M' M := by
  have hc := h.ok.c
  have hp := h.ok.p
  obtain ⟨q0, q1⟩ := h.ld.ho c c0 c1
  have hk := ms_up (h.ld.kn c c0 c1) (show (s 0 0).toNat ≤ 12 by omega)
  obtain ⟨M', e, f⟩ := testWould_n h c0 c1 q0 q1 p0 p1 (pc_b (d 2 c)) (pc_b (hld s d (d 1 c)))
  refine ⟨M', ?_, f⟩
  unfold fX0_testHolds
  rw [kcr0 h.hcr, gd_t rfl, lcr0_0 h.lay h.hcr, kcr1 h.hcr, gd_t rfl, lcr1_1 h.lay h.hcr, kcr2 h.hcr, ga_t c0 (by omega), lcr1_2 h.lay h.hcr, kcr3 h.hcr, ga_t c0 (by omega), h.kn c0 c1, bc_n hk, pb_1, u1_1, h.ho c0 c1, hld_n h, pb_1, u1_1, bc_n (hld_ms h.ok), pb_1, u1_1, e, pb_1, u2_1, gd_t (bi_01 _)]
  rfl
theorem wouldKnow_n {M : AwM} {b L : Int} {s d : AwM} (h : MM M b L s d) {c p : Int} (c0 : 0 ≤ c) (c1 : c < s 0 1) (p0 : 0 ≤ p) (p1 : p < s 0 0) : ∃ M', fX9_wouldKnow SH M 167 L c p = some (bi (tH s d c p), M') ∧ msc M' M := by
  have hc := h.ok.c
  have hp := h.ok.p
  have hL := h.l21
  obtain ⟨q0, q1⟩ := h.ld.ho c c0 c1
  have hk := ms_up (h.ld.kn c c0 c1) (show (s 0 0).toNat ≤ 12 by omega)
  obtain ⟨M', e, f⟩ := mholds_n h c0 c1 q0 q1 p0 p1 (pc_b (d 2 c)) (pc_b (hld s d (d 1 c)))
  refine ⟨M', ?_, f⟩
  unfold fX9_wouldKnow
  rw [kd167, gd_t rfl, ly167_49 h.lay, kd198, w32_s (v := 12 * L) (by omega) (by omega), w32_s (v := 12 * L + c) (by omega) (by omega), ga_t (by omega) (by omega), ly167_50 h.lay, kd199, ga_t (by omega) (by omega), h.kn c0 c1, bits_n hk, pb_1, u1_1, h.ho c0 c1, mhld_n h, pb_1, u1_1, bits_n (hld_ms h.ok), pb_1, u1_1, ly167_48 h.lay, kd197, ga_t (by omega) (by omega), h.day, e, pb_1, u2_1, gd_t (bi_01 _)]
  rfl
def cbp (d : AwM) (c p : Int) : Bool := !hb (d 2 c) p && !hb (d 3 c) p
theorem hz_p {m k : Int} (k0 : 0 ≤ k) : hz m k = hb m k := by unfold hz; rw [decide_eq_true k0, Bool.true_and]
theorem canBe_n {M : AwM} {cr so : Int} {s d : AwM} (h : CC M cr so s d) {c p : Int} (c0 : 0 ≤ c) (c1 : c < s 0 1) (p0 : 0 ≤ p) : fX0_canBePresented SH M cr c p = some (bi (cbp d c p)) := by
  have hc := h.ok.c
  have hp := h.ok.p
  unfold fX0_canBePresented
  rw [kcr0 h.hcr, gd_t rfl, knows_n h.cw c0 (by rw [h.n1]; exact c1), pb_1, u1_1, h.kn c0 c1, hz_p p0, lcr0_0 h.lay h.hcr, kcr1 h.hcr, gd_t rfl, lcr1_3 h.lay h.hcr, kcr4 h.hcr, ga_t c0 (by omega), h.sn c0 c1, isIn_n (h.ld.sn c c0 c1) (by omega), pb_1, u1_1, hz_p p0]
  unfold cbp
  cases hb (d 2 c) p <;> cases hb (d 3 c) p <;> rfl
theorem or_hb {n : Nat} {a b k : Int} (ha : ms n a) (hb' : ms n b) (hn : n ≤ 31) : ms n (or_ a b) ∧ hb (or_ a b) k = (hb a k || hb b k) := by
  obtain ⟨x, rfl, hx⟩ := ms_n.mp ha
  obtain ⟨y, rfl, hy⟩ := ms_n.mp hb'
  have h31 : (2 : Nat) ^ n ≤ 2 ^ 31 := Nat.pow_le_pow_right (by omega) hn
  rw [or_n (by omega) (by omega)]
  refine ⟨ms_n.mpr ⟨_, rfl, Nat.or_lt_two_pow hx hy⟩, ?_⟩
  unfold hb
  rw [Int.toNat_natCast, Int.toNat_natCast, Int.toNat_natCast, Nat.testBit_or]
theorem canP_n {M : AwM} {b L : Int} {s d : AwM} (h : MM M b L s d) {c p : Int} (c0 : 0 ≤ c) (c1 : c < s 0 1) (p0 : 0 ≤ p) (p1 : p < 32) : fX9_canPresent SH M 167 L c p = some (bi (cbp d c p)) := by
  have hc := h.ok.c
  have hp := h.ok.p
  have hL := h.l21
  obtain ⟨o1, o2⟩ := or_hb (k := p) (h.ld.kn c c0 c1) (h.ld.sn c c0 c1) (show (s 0 0).toNat ≤ 31 by omega)
  unfold fX9_canPresent
  rw [kd167, gd_t rfl, ly167_50 h.lay, kd199, w32_s (v := 12 * L) (by omega) (by omega), w32_s (v := 12 * L + c) (by omega) (by omega), ga_t (by omega) (by omega), ly167_51 h.lay, kd200, ga_t (by omega) (by omega), h.kn c0 c1, h.sn c0 c1, has2_n o1 (by omega) p0 p1, pb_1, u1_1, hz_p p0, o2]
  unfold cbp
  cases hb (d 2 c) p <;> cases hb (d 3 c) p <;> rfl
end PMAY
