/-! calls and the seed, both sides alike -/
section PCALL
theorem anl_n {a b : Nat} (ha : a < 2 ^ 63) : anl_ (a : Int) (b : Int) = ((a &&& b : Nat) : Int) := by
  have e : i64 (a : Int) &&& i64 (b : Int) = i64 ((a &&& b : Nat) : Int) := by
    apply Int64.toBitVec_inj.1
    show BitVec.ofNat 64 a &&& BitVec.ofNat 64 b = BitVec.ofNat 64 (a &&& b)
    apply BitVec.eq_of_getLsbD_eq
    intro i hi
    simp [hi]
  unfold anl_
  have hle : a &&& b ≤ a := Nat.and_le_left
  rw [e, i64_i ⟨by omega, by omega⟩]
def drw (x : Int) : Int := (1103515245 * x + 12345) % 2147483648
def sdm (mi : AwM) (v : Int) : AwM := up_ mi 18 0 v
theorem drw_b (x : Int) : 0 ≤ drw x ∧ drw x ≤ 2147483647 := by unfold drw; omega
theorem MiOK_sd {mi : AwM} {v : Int} (h : MiOK mi) (v0 : 0 ≤ v) (v1 : v ≤ 2147483647) : MiOK (sdm mi v) := by
  unfold MiOK sdm at *
  simp (disch := omega) only [up_of, up_at]
  exact ⟨h.1, h.2.1, h.2.2.1, h.2.2.2.1, v0, v1⟩
theorem CR_sd {M s d : AwM} {n : Int} {R : Int → AwM} {mi : AwM} {v : Int} (h : CR M s d n R mi) (v0 : 0 ≤ v) (v1 : v ≤ 2147483647) : CR (up_ M 1 13 v) s d n R (sdm mi v) := by
  have hl : LAY (up_ M 1 13 v) := LAY_up h.lay (by decide +kernel)
  refine CR_mi h hl (fun a i x _ _ _ _ _ => if_neg (by omega)) (MiOK_sd h.mk v0 v1) ?_
  obtain ⟨a1, a2, a3, a4, a5, a6, a7, a8, a9, a10⟩ := h.mi
  unfold sdm CMi
  simp (disch := omega) only [up_of, up_oi, up_at]
  exact ⟨a1, a2, a3, a4, a5, a6, a7, a8, trivial, a10⟩
theorem MR_sd {M s d : AwM} {n : Int} {R : Int → AwM} {mi : AwM} {v : Int} (h : MR M s d n R mi) (v0 : 0 ≤ v) (v1 : v ≤ 2147483647) : MR (up_ M 167 55 v) s d n R (sdm mi v) := by
  have hl : LAY (up_ M 167 55 v) := LAY_up h.lay (by decide +kernel)
  refine MR_mi h hl (fun a i x _ _ _ => if_neg (by omega)) (MiOK_sd h.mk v0 v1) ?_
  obtain ⟨a1, a2, a3, a4, a5, a6, a7, a8, a9, a10⟩ := h.mi
  unfold sdm MMi
  simp (disch := omega) only [up_of, up_oi, up_at]
  exact ⟨a1, a2, a3, a4, a5, a6, a7, a8, trivial, a10⟩
theorem drawC {M s d : AwM} {n : Int} {R : Int → AwM} {mi : AwM} {x m : Int} (h : CR M s d n R (sdm mi x)) (m0 : 0 < m) (m1 : m ≤ 100) : ∃ M', fX8_draw SH M 1 m = some (drw x / 64 % m, M') ∧ CR M' s d n R (sdm mi (drw x)) ∧ hif M' M := by
  have hx := h.mk.2.2.2.2
  have e1 : M 1 13 = x := h.mi.2.2.2.2.2.2.2.2.1
  have ex : sdm mi x 18 0 = x := up_at
  rw [ex] at hx
  have hd := drw_b x
  have e2 : w32 (anl_ (w64 (w64 (1103515245 * x) + 12345)) 2147483647) = drw x := by
    rw [w64_s (v := 1103515245 * x) (by omega) (by omega), w64_s (by omega) (by omega)]
    have : (1103515245 * x + 12345) = (((1103515245 * x + 12345).toNat : Nat) : Int) := by omega
    rw [this, show (2147483647 : Int) = ((2 ^ 31 - 1 : Nat) : Int) from rfl, anl_n (by omega), Nat.and_two_pow_sub_one_eq_mod]
    unfold drw
    rw [w32_s (by omega) (by omega)]
    omega
  have h2 := CR_sd (v := drw x) h hd.1 hd.2
  rw [show sdm (sdm mi x) (drw x) = sdm mi (drw x) from by
    funext a i
    unfold sdm up_
    by_cases g : a = 18 ∧ i = 0
    · rw [if_pos g, if_pos g]
    · rw [if_neg g, if_neg g, if_neg g]] at h2
  refine ⟨_, ?_, h2, fun a i y => up_of (by omega)⟩
  unfold fX8_draw
  rw [kd1, gd_t rfl, e1, e2, bd_1, if_pos m0, gd_t (by omega), up_at, Int.tdiv_eq_ediv_of_nonneg hd.1, w32_s (by omega) (by omega), Int.tmod_eq_emod_of_nonneg (by omega)]
theorem drawM {M s d : AwM} {n : Int} {R : Int → AwM} {mi : AwM} {x m : Int} (h : MR M s d n R (sdm mi x)) (m0 : 0 < m) (m1 : m ≤ 100) : ∃ M', fX9_draw SH M 167 m = some (drw x / 64 % m, M') ∧ MR M' s d n R (sdm mi (drw x)) ∧ lof M' M := by
  have hx := h.mk.2.2.2.2
  have e1 : M 167 55 = x := h.mi.2.2.2.2.2.2.2.2.1
  have ex : sdm mi x 18 0 = x := up_at
  rw [ex] at hx
  have hd := drw_b x
  have e2 : (w64 (w64 (1103515245 * x) + 12345)).tmod 2147483648 = drw x := by
    rw [w64_s (v := 1103515245 * x) (by omega) (by omega), w64_s (by omega) (by omega), Int.tmod_eq_emod_of_nonneg (by omega)]
    rfl
  have h2 := MR_sd (v := drw x) h hd.1 hd.2
  rw [show sdm (sdm mi x) (drw x) = sdm mi (drw x) from by
    funext a i
    unfold sdm up_
    by_cases g : a = 18 ∧ i = 0
    · rw [if_pos g, if_pos g]
    · rw [if_neg g, if_neg g, if_neg g]] at h2
  refine ⟨_, ?_, h2, fun a i y => up_of (by omega)⟩
  have hm : 0 ≤ drw x / 64 % m ∧ drw x / 64 % m < m := ⟨Int.emod_nonneg _ (by omega), Int.emod_lt_of_pos _ m0⟩
  unfold fX9_draw
  rw [kd167, gd_t rfl, e1, e2, bd_1, gd_t (by omega), up_at, Int.tdiv_eq_ediv_of_nonneg hd.1, w64_s (by omega) (by omega), Int.tmod_eq_emod_of_nonneg (by omega), w32_s (by omega) (by omega)]
/-- one day of calls: how many, the seed, the ledger -/
def clA (s : AwM) (x : Int) (d : AwM) : Int × Int × AwM :=
  if drw x / 64 % 100 < s 0 4 ∧ s 0 1 ≠ 0 then
    (if cbp d (drw (drw x) / 64 % s 0 1) (drw (drw (drw x)) / 64 % s 0 0) = true then (1, drw (drw (drw x)), pre s d (drw (drw x) / 64 % s 0 1) (drw (drw (drw x)) / 64 % s 0 0)) else (0, drw (drw (drw x)), d))
  else (0, drw x, d)
def clO (s : AwM) (x : Int) (d : AwM) : Nat → Int × Int × AwM
  | 0 => (0, x, d)
  | k + 1 => ((clO s x d k).1 + (clA s (clO s x d k).2.1 (dayA s (clO s x d k).2.2).2).1, (clA s (clO s x d k).2.1 (dayA s (clO s x d k).2.2).2).2)
theorem clA_b {s : AwM} {x : Int} {d : AwM} : 0 ≤ (clA s x d).1 ∧ (clA s x d).1 ≤ 1 := by
  have h0 : ∀ y : Int × AwM, 0 ≤ ((0, y) : Int × Int × AwM).1 ∧ ((0, y) : Int × Int × AwM).1 ≤ 1 := fun y => ⟨by show (0 : Int) ≤ 0; omega, by show (0 : Int) ≤ 1; omega⟩
  have h1 : ∀ y : Int × AwM, 0 ≤ ((1, y) : Int × Int × AwM).1 ∧ ((1, y) : Int × Int × AwM).1 ≤ 1 := fun y => ⟨by show (0 : Int) ≤ 1; omega, by show (1 : Int) ≤ 1; omega⟩
  unfold clA
  split
  · split
    · exact h1 _
    · exact h0 _
  · exact h0 _
theorem clO_b {s : AwM} {x : Int} {d : AwM} : ∀ k : Nat, 0 ≤ (clO s x d k).1 ∧ (clO s x d k).1 ≤ k
  | 0 => ⟨by show (0 : Int) ≤ 0; omega, by show (0 : Int) ≤ ((0 : Nat) : Int); omega⟩
  | k + 1 => by
    have := clO_b (s := s) (x := x) (d := d) k
    have := clA_b (s := s) (x := (clO s x d k).2.1) (d := (dayA s (clO s x d k).2.2).2)
    unfold clO
    show 0 ≤ _ + _ ∧ _ + _ ≤ _
    omega
theorem pre_0 {s d : AwM} {c p : Int} : pre s d c p 0 0 = d 0 0 := by
  unfold pre
  split
  · unfold lea; rw [up_of (by decide), up_of (by decide)]
  · unfold snu; rw [up_of (by decide)]
theorem clA_0 {s : AwM} {x : Int} {d : AwM} : (clA s x d).2.2 0 0 = d 0 0 := by
  unfold clA
  split
  · split
    · exact pre_0
    · rfl
  · rfl
theorem clO_0 {s : AwM} {x : Int} {d : AwM} : ∀ k : Nat, (clO s x d k).2.2 0 0 = d 0 0 + k
  | 0 => by show d 0 0 = d 0 0 + ((0 : Nat) : Int); omega
  | k + 1 => by
    have := clO_0 (s := s) (x := x) (d := d) k
    unfold clO
    show (clA s _ _).2.2 0 0 = _
    rw [clA_0, dayA_0, this]
    omega
theorem dys1 {s d : AwM} : dysA s d 1 = dayA s d := by
  show ((0 : Int) + (dayA s d).1, (dayA s d).2) = dayA s d
  rw [Int.zero_add]
theorem mod_in {x m : Int} (h : 0 < m) : 0 ≤ x % m ∧ x % m < m := ⟨Int.emod_nonneg _ (by omega), Int.emod_lt_of_pos _ h⟩
theorem callPaid_n {M s d : AwM} {n : Int} {R : Int → AwM} {mi : AwM} {x : Int} (h : CR M s d n R (sdm mi x)) : ∃ M', fX8_callIsPaid SH M 1 = some ((clA s x d).1, M') ∧ CR M' s (clA s x d).2.2 n R (sdm mi (clA s x d).2.1) ∧ hif M' M := by
  have hv := h.cc.ok.vo
  have hc := h.cc.ok.c
  have hp := h.cc.ok.p
  have hcp := h.cc.ok.cp
  obtain ⟨M1, e1, h1, f1⟩ := drawC h (m := 100) (by decide) (by decide)
  unfold fX8_callIsPaid clA
  rw [kd1, gd_t rfl, e1, pb_1, u2_1, kso0 h1.cc.hso, gd_t rfl, h1.cc.n4]
  by_cases a : drw x / 64 % 100 < s 0 4
  · rw [if_pos a, lso0_0 h1.lay h1.cc.hso, kso1 h1.cc.hso, gd_t (by decide), h1.cc.n1]
    by_cases b : s 0 1 = 0
    · rw [if_pos b, if_neg (by omega)]
      exact ⟨M1, rfl, h1, f1⟩
    · obtain ⟨M2, e2, h2, f2⟩ := drawC h1 (m := s 0 1) (by omega) (by omega)
      obtain ⟨M3, e3, h3, f3⟩ := drawC h2 (m := s 0 0) (by omega) (by omega)
      obtain ⟨c0, c1⟩ := mod_in (x := drw (drw x) / 64) (show 0 < s 0 1 by omega)
      obtain ⟨p0, p1⟩ := mod_in (x := drw (drw (drw x)) / 64) (show 0 < s 0 0 by omega)
      have hath : ath s (drw (drw x) / 64 % s 0 1) (drw (drw (drw x)) / 64 % s 0 0) = true := by unfold ath; rw [decide_eq_true ⟨c0, c1⟩, decide_eq_true ⟨p0, p1⟩]; rfl
      rw [if_neg b, e2, pb_1, u2_1, kso0 h2.cc.hso, gd_t rfl, lso0_0 h2.lay h2.cc.hso, kso1 h2.cc.hso, gd_t (by decide), h2.cc.n0, e3, pb_1, u2_1, ath_n h3, pb_1, u1_1, hath, bi_if, if_pos rfl, ly1_4 h3.lay, kd153, gd_t rfl, canBe_n h3.cc c0 c1 p0, pb_1, u1_1, bi_if, if_pos (show drw x / 64 % 100 < s 0 4 ∧ s 0 1 ≠ 0 from ⟨a, b⟩)]
      by_cases g : cbp d (drw (drw x) / 64 % s 0 1) (drw (drw (drw x)) / 64 % s 0 0) = true
      · obtain ⟨M4, e4, h4, f4⟩ := presentTo_n h3.cc c0 c1 p0 p1 g
        rw [if_pos g, if_pos g, e4, pb_1, u2_1]
        exact ⟨M4, rfl, CR_of h3 f4 h4, hif_tr (hif_tr (hif_tr f1 f2) f3) (cfr_hi (Or.inl rfl) h3.cc.hso f4)⟩
      · rw [if_neg g, if_neg g]
        exact ⟨M3, rfl, h3, hif_tr (hif_tr f1 f2) f3⟩
  · rw [if_neg a, if_neg (by omega)]
    exact ⟨M1, rfl, h1, f1⟩
theorem calls_b {s d : AwM} {n : Int} {R : Int → AwM} {mi : AwM} {k : Int} : BSt (fun M => fX8_calls SH M 1 k) (fun M => fX9_calls SH M 167 k) s d n R mi := by
  have em : mi = sdm mi (mi 18 0) := (up_self rfl).symm
  by_cases hk : (1 ≤ k ∧ k ≤ 50) ∧ d 0 0 + k ≤ 999
  · obtain ⟨⟨k0, k1⟩, k2⟩ := hk
    refine ⟨(clO s (mi 18 0) d k.toNat).1, s, (clO s (mi 18 0) d k.toNat).2.2, min 20 (n + 1), kpR d R, sdm mi (clO s (mi 18 0) d k.toNat).2.1, fun M h => ?_, fun M h => ?_⟩
    · have l := h.lay
      have hdd := h.cc.ld.day
      obtain ⟨M1, e1, h1, f1, g1⟩ := keep_n h
      rw [em] at h1
      have key := lp_rel (body := u3 (fX8_calls_L53 SH 1 k)) (P := fun j (t : Int × Int × AwM) => t.2.1 = (j : Int) ∧ t.1 = (clO s (mi 18 0) d j).1 ∧ CR t.2.2 s (clO s (mi 18 0) d j).2.2 (min 20 (n + 1)) (kpR d R) (sdm mi (clO s (mi 18 0) d j).2.1) ∧ hif t.2.2 M) (X := fun r : Int × AwM => r.1 = (clO s (mi 18 0) d k.toNat).1 ∧ CR r.2 s (clO s (mi 18 0) d k.toNat).2.2 (min 20 (n + 1)) (kpR d R) (sdm mi (clO s (mi 18 0) d k.toNat).2.1) ∧ hif r.2 M) (n := k.toNat) ?_ FU (0, 0, M1) (FU_gt (by omega)) ⟨rfl, rfl, h1, f1⟩
      · obtain ⟨⟨r, M2⟩, e2, e3, h2, f2⟩ := key
        change r = _ at e3
        subst e3
        refine ⟨M2, ?_, h2, f2⟩
        show fX8_calls SH M 1 k = _
        unfold fX8_calls
        rw [if_neg (by omega), if_neg (by omega), kd1, gd_t rfl, ly1_4 l, kd153, gd_t rfl, ly153_0 l, kd154, gd_t rfl, show M 154 0 = d 0 0 from h.cc.day, w32_s (by omega) (by omega), if_neg (by omega), ly1_6 l, kd26, gd_t rfl, e1, pb_1, u1_1, e2, pb_1, u2_1]
      · rintro j ⟨v, i, M3⟩ hj ⟨hi, hv, h3, f3⟩
        change i = (j : Int) at hi
        change v = _ at hv
        change CR M3 s _ _ _ _ at h3
        subst hi
        subst hv
        have bb := clO_b (s := s) (x := mi 18 0) (d := d) j
        have dd := clO_0 (s := s) (x := mi 18 0) (d := d) j
        have hd3 := h3.cc.ld.day
        by_cases hjn : j < k.toNat
        · refine Or.inl ⟨hjn, ?_⟩
          obtain ⟨M4, e4, h4, f4⟩ := passDays_n h3.cc (n := 1) (by decide) (by decide) (by omega)
          rw [show (1 : Int).toNat = 1 from rfl, dys1] at e4 h4
          have h4' := CR_of h3 f4 h4
          obtain ⟨M5, e5, h5, f5⟩ := callPaid_n h4'
          have b5 := clA_b (s := s) (x := (clO s (mi 18 0) d j).2.1) (d := (dayA s (clO s (mi 18 0) d j).2.2).2)
          rw [u3_1]
          unfold fX8_calls_L53
          rw [if_pos (by omega), kd1, gd_t rfl, ly1_4 h3.lay, kd153, gd_t rfl, e4, pb_1, u2_1, e5, pb_1, u2_1, w32_s (v := (j : Int) + 1) (by omega) (by omega), w32_s (v := (clO s (mi 18 0) d j).1 + 1) (by omega) (by omega)]
          have f6 := hif_tr (hif_tr f3 (cfr_hi (Or.inl rfl) h3.cc.hso f4)) f5
          by_cases z : (clA s (clO s (mi 18 0) d j).2.1 (dayA s (clO s (mi 18 0) d j).2.2).2).1 = 0
          · rw [if_pos z]
            refine ⟨_, rfl, by simp, ?_, h5, f6⟩
            show _ = _ + (clA s _ _).1
            rw [z, Int.add_zero]
          · rw [if_neg z]
            refine ⟨_, rfl, by simp, ?_, h5, f6⟩
            show _ = _ + (clA s _ _).1
            rw [show (clA s (clO s (mi 18 0) d j).2.1 (dayA s (clO s (mi 18 0) d j).2.2).2).1 = 1 by omega]
        · have ej : k.toNat = j := by omega
          refine Or.inr ⟨((clO s (mi 18 0) d j).1, M3), ?_, ?_⟩
          · rw [u3_1]
            unfold fX8_calls_L53
            rw [if_neg (by omega)]
          · rw [ej]; exact ⟨rfl, h3, f3⟩
    · have l := h.lay
      have hdd := h.mm.ld.day
      obtain ⟨M1, e1, h1, f1⟩ := mkeep_n h
      rw [em] at h1
      have key := lp_rel (body := u3 (fX9_calls_L38 SH 167 k)) (P := fun j (t : Int × Int × AwM) => t.2.1 = (j : Int) ∧ t.1 = (clO s (mi 18 0) d j).1 ∧ MR t.2.2 s (clO s (mi 18 0) d j).2.2 (min 20 (n + 1)) (kpR d R) (sdm mi (clO s (mi 18 0) d j).2.1) ∧ lof t.2.2 M) (X := fun r : Int × AwM => r.1 = (clO s (mi 18 0) d k.toNat).1 ∧ MR r.2 s (clO s (mi 18 0) d k.toNat).2.2 (min 20 (n + 1)) (kpR d R) (sdm mi (clO s (mi 18 0) d k.toNat).2.1) ∧ lof r.2 M) (n := k.toNat) ?_ FU (0, 0, M1) (FU_gt (by omega)) ⟨rfl, rfl, h1, f1⟩
      · obtain ⟨⟨r, M2⟩, e2, e3, h2, f2⟩ := key
        change r = _ at e3
        subst e3
        refine ⟨M2, ?_, h2, f2⟩
        show fX9_calls SH M 167 k = _
        unfold fX9_calls
        rw [isr_n, pb_1, u1_1, bi_if, if_pos (decide_eq_true ⟨k0, k1⟩), kd167, gd_t rfl, ly167_48 l, kd197, gd_t (by decide), h.mm.day, w32_s (by omega) (by omega), if_neg (by omega), e1, pb_1, u1_1, e2, pb_1, u2_1]
      · rintro j ⟨v, i, M3⟩ hj ⟨hi, hv, h3, f3⟩
        change i = (j : Int) at hi
        change v = _ at hv
        change MR M3 s _ _ _ _ at h3
        subst hi
        subst hv
        have bb := clO_b (s := s) (x := mi 18 0) (d := d) j
        have dd := clO_0 (s := s) (x := mi 18 0) (d := d) j
        have hd3 := h3.mm.ld.day
        by_cases hjn : j < k.toNat
        · refine Or.inl ⟨hjn, ?_⟩
          have hbb := h3.mm.b01
          have hv := h3.mm.ok.vo
          have hc := h3.mm.ok.c
          have hp := h3.mm.ok.p
          have hcp := h3.mm.ok.cp
          obtain ⟨M4, e4, h4, f4⟩ := dayGoes_n h3.mm (by omega)
          have h4' := MR_of h3 f4 h4
          obtain ⟨M5, e5, h5, f5⟩ := drawM h4' (m := 100) (by decide) (by decide)
          have hb5 := h5.mm.b01
          have st : clO s (mi 18 0) d (j + 1) = ((clO s (mi 18 0) d j).1 + (clA s (clO s (mi 18 0) d j).2.1 (dayA s (clO s (mi 18 0) d j).2.2).2).1, (clA s (clO s (mi 18 0) d j).2.1 (dayA s (clO s (mi 18 0) d j).2.2).2).2) := rfl
          unfold clA at st
          have f6 := lof_tr (lof_tr f3 (mfr_lo f4)) f5
          rw [u3_1]
          unfold fX9_calls_L38 fX9_calls_J140_38
          rw [if_pos (by omega), kd167, gd_t rfl, e4, pb_1, u2_1, e5, pb_1, u2_1, ly167_25 h5.lay, kd180, ga_t (by omega) (by omega), h5.mm.n4, w32_s (v := (j : Int) + 1) (by omega) (by omega), w32_s (v := (clO s (mi 18 0) d j).1 + 1) (by omega) (by omega)]
          by_cases a : drw (clO s (mi 18 0) d j).2.1 / 64 % 100 < s 0 4
          · rw [if_pos a, ly167_16 h5.lay, kd171, ga_t (by omega) (by omega), h5.mm.n1]
            by_cases b : s 0 1 = 0
            · rw [if_pos b]
              rw [if_neg (by omega)] at st
              exact ⟨_, rfl, by simp, by rw [st]; exact (Int.add_zero _).symm, by rw [st]; exact h5, f6⟩
            · obtain ⟨M6, e6, h6, g6⟩ := drawM h5 (m := s 0 1) (by omega) (by omega)
              have hb6 := h6.mm.b01
              obtain ⟨M7, e7, h7, g7⟩ := drawM h6 (m := s 0 0) (by omega) (by omega)
              obtain ⟨c0, c1⟩ := mod_in (x := drw (drw (clO s (mi 18 0) d j).2.1) / 64) (show 0 < s 0 1 by omega)
              obtain ⟨p0, p1⟩ := mod_in (x := drw (drw (drw (clO s (mi 18 0) d j).2.1)) / 64) (show 0 < s 0 0 by omega)
              rw [if_pos ⟨a, b⟩] at st
              rw [if_neg b, e6, pb_1, u2_1, ly167_14 h6.lay, kd169, ga_t (by omega) (by omega), h6.mm.n0, e7, pb_1, u2_1, canP_n h7.mm c0 c1 p0 (by omega), pb_1, u1_1, bi_if]
              by_cases g : cbp (dayA s (clO s (mi 18 0) d j).2.2).2 (drw (drw (clO s (mi 18 0) d j).2.1) / 64 % s 0 1) (drw (drw (drw (clO s (mi 18 0) d j).2.1)) / 64 % s 0 0) = true
              · obtain ⟨M8, e8, h8, g8⟩ := presents_n h7.mm c0 c1 p0 p1 g
                rw [if_pos g] at st
                rw [if_pos g, e8, pb_1, u2_1]
                exact ⟨_, rfl, by simp, by rw [st], by rw [st]; exact MR_of h7 g8 h8, lof_tr (lof_tr (lof_tr f6 g6) g7) (mfr_lo g8)⟩
              · rw [if_neg g] at st
                rw [if_neg g]
                exact ⟨_, rfl, by simp, by rw [st]; exact (Int.add_zero _).symm, by rw [st]; exact h7, lof_tr (lof_tr f6 g6) g7⟩
          · rw [if_neg a]
            rw [if_neg (by omega)] at st
            exact ⟨_, rfl, by simp, by rw [st]; exact (Int.add_zero _).symm, by rw [st]; exact h5, f6⟩
        · have ej : k.toNat = j := by omega
          refine Or.inr ⟨((clO s (mi 18 0) d j).1, M3), ?_, ?_⟩
          · rw [u3_1]
            unfold fX9_calls_L38
            rw [if_neg (by omega)]
          · rw [ej]; exact ⟨rfl, h3, f3⟩
  · refine ⟨-1, s, d, n, R, rfu mi 4, fun M h => ?_, fun M h => ?_⟩
    · have l := h.lay
      have hdd := h.cc.ld.day
      obtain ⟨M1, e1, h1, f1⟩ := refC h (k := 4) (by decide) (by decide)
      refine ⟨M1, ?_, h1, f1⟩
      show fX8_calls SH M 1 k = _
      unfold fX8_calls
      rw [kd1, gd_t rfl, e1, pb_1, u2_1]
      by_cases a : k < 1
      · rw [if_pos a]
      · rw [if_neg a]
        by_cases c : 50 < k
        · rw [if_pos c]
        · rw [if_neg c, gd_t rfl, ly1_4 l, kd153, gd_t rfl, ly153_0 l, kd154, gd_t rfl, show M 154 0 = d 0 0 from h.cc.day, w32_s (by omega) (by omega), if_pos (by omega)]
    · have l := h.lay
      have hdd := h.mm.ld.day
      obtain ⟨M1, e1, h1, f1⟩ := refM h (k := 4) (by decide) (by decide)
      refine ⟨M1, ?_, h1, f1⟩
      show fX9_calls SH M 167 k = _
      unfold fX9_calls
      rw [isr_n, pb_1, u1_1, bi_if, kd167, e1, pb_1, u2_1]
      by_cases a : 1 ≤ k ∧ k ≤ 50
      · rw [if_pos (decide_eq_true a), gd_t rfl, ly167_48 l, kd197, gd_t (by decide), h.mm.day, w32_s (by omega) (by omega), if_pos (by omega)]
      · rw [if_neg (by rw [decide_eq_false a]; decide), gd_t rfl]
end PCALL
