/-! gone on from a state, the class -/
section PGON
theorem cdC_d {P w m : Int} (hP : 0 ≤ P ∧ P ≤ 10) (w0 : 0 ≤ w) (w1 : w < P) (hm : ms P.toNat m) : sr_ (cdC P w m) P = w ∧ an_ (cdC P w m) (w32 (sl_ 1 P - 1)) = m := by
  obtain ⟨-, c2, c3⟩ := cdC_n hP w0 w1 hm
  obtain ⟨a, rfl, ha⟩ := ms_n.mp hm
  obtain ⟨k, rfl⟩ := Int.eq_ofNat_of_zero_le hP.1
  rw [Int.toNat_natCast] at ha
  have h10 : 2 ^ k ≤ 2 ^ 10 := Nat.pow_le_pow_right (by decide) (by omega)
  have p := Nat.two_pow_pos k
  have es : w32 (sl_ 1 (k : Int) - 1) = ((2 ^ k - 1 : Nat) : Int) := by
    rw [show (1 : Int) = ((1 : Nat) : Int) from rfl, sl_n (by omega) (by omega), w32_s (by omega) (by omega)]
    omega
  rw [es]
  unfold cdC at *
  rw [Int.toNat_natCast, Int.toNat_natCast] at *
  refine ⟨?_, ?_⟩
  · rw [sr_n (by omega) (by omega), Nat.mul_comm, Nat.mul_add_div p, Nat.div_eq_of_lt ha]
    omega
  · rw [an_n (by omega), Nat.and_two_pow_sub_one_eq_mod, Nat.mul_comm, Nat.mul_add_mod, Nat.mod_eq_of_lt ha]
theorem payF_n {M : AwM} {P w m p : Int} {l : List (Int × Int × Int × Int)} (hl : LAY M) (hP : 0 ≤ P ∧ P ≤ 10) (hq : QOK P l) (h : CQ M P l) (hw : 0 ≤ w ∧ w < P) (hm : ms P.toNat m) (hp : 0 ≤ p ∧ p < P) (hn : hb m p = false) : ∃ M', fX7_payFrom SH M 128 w m p = some (-1, M') ∧ CQ M' P (payQ l w m P.toNat) ∧ wfr M' M := by
  obtain ⟨M', e, h', f⟩ := payC_n hl hP hq h hw hm
  refine ⟨M', ?_, h', f⟩
  unfold fX7_payFrom
  rw [isIn_n (ms_up hm (show P.toNat ≤ 10 by omega)) (by decide), pb_1, u1_1, bi_if, hz_p hp.1, if_neg (by rw [hn]; decide), e, pb_1, u1_1]
theorem payT_n {M : AwM} {P w m p : Int} {l : List (Int × Int × Int × Int)} (hl : LAY M) (hP : 0 ≤ P ∧ P ≤ 10) (hq : QOK P l) (h : CQ M P l) (hw : 0 ≤ w ∧ w < P) (hm : ms P.toNat m) (hp : 0 ≤ p ∧ p < P) (hn : hb m p = true) : ∃ M', fX7_payFrom SH M 128 w m p = some (cdC P p m, M') ∧ CQ M' P (rchQ l (p, m, w, p)) ∧ wfr M' M := by
  have nd : NdOK P (p, m, w, p) := ⟨hp, hm, Or.inr ⟨hw, hp.1, by show p < 20; omega⟩⟩
  obtain ⟨M', e, h', f⟩ := reach_n hl hP hq h nd
  refine ⟨M', ?_, h', f⟩
  have eh : w32 (w32 (1 + p) + w32 (20 * w)) = hmC (p, m, w, p) := by
    rw [w32_s (v := 1 + p) (by omega) (by omega), w32_s (v := 20 * w) (by omega) (by omega), w32_s (by omega) (by omega)]
    unfold hmC
    rw [if_neg (show ¬ w = -1 by omega)]
  unfold fX7_payFrom
  rw [isIn_n (ms_up hm (show P.toNat ≤ 10 by omega)) (by decide), pb_1, u1_1, bi_if, hz_p hp.1, if_pos hn, kd128, gd_t rfl, eh, show fX7_reach SH M 128 p m (hmC (p, m, w, p)) = some M' from e, pb_1, u1_1, stOf_n h'.1 hP hp.1 hp.2 hm, pb_1, u1_1]
theorem preF_n {M : AwM} {so : Int} {s d : AwM} (g : CC M 153 so s d) {c w m : Int} {l : List (Int × Int × Int × Int)} (c0 : 0 ≤ c) (c1 : c < s 0 1) (hq : QOK (s 0 0) l) (h : CQ M (s 0 0) l) (hM : MEM M s d c) (hw : 0 ≤ w ∧ w < s 0 0) (hm : ms (s 0 0).toNat m) (hwm : hb m w = true) : ∃ M', fX7_presentFrom SH M 128 153 c (cdC (s 0 0) w m) = some M' ∧ CQ M' (s 0 0) (preQ l s d c w m (s 0 0).toNat) ∧ MEM M' s d c ∧ wf2 so M' M := by
  have hP := g.ok.p
  have hc := g.ok.c
  have hl := g.lay
  obtain ⟨t1, t2⟩ := cdC_d hP hw.1 hw.2 hm
  obtain ⟨M', e, h', hM', f⟩ := preC_n g c0 c1 hq h hM hw hm hwm
  refine ⟨M', ?_, h', hM', f⟩
  have es : M 157 c = d 3 c := g.sn c0 c1
  unfold fX7_presentFrom
  rw [kd128, gd_t rfl, kd153, gd_t rfl, ly153_0 hl, kd154, gd_t rfl, ly154_3 hl, kd157, ga_t c0 (by omega), es, h.1, t1, t2, bd_1, e, pb_1, u1_1]
end PGON
