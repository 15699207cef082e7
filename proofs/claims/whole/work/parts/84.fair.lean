/-! fair alike; the change -/
section PFAIR
def sbs (g h : Int) : Prop := g.toNat &&& h.toNat = g.toNat
theorem wts_b {s : AwM} (ho : SoOK s) (g : Int) : 0 ≤ wts s g ∧ wts s g ≤ 1188 := by
  have hc := ho.c
  have := accS_b (f := fun i => if hz g i = true then s 2 i else 0) (lo := 0) (hi := 99) (s 0 1).toNat (fun c c0 c1 => by
    have := ho.wo c c0 (by omega)
    by_cases z : hz g c = true
    · simp only [if_pos z]; omega
    · simp only [if_neg z]; omega)
  unfold wts wtS
  omega
def dif (s : AwM) (h g : Int) : Int := ((wts s h - 2 * wts s g).natAbs : Int)
theorem dif_n {M : AwM} {cr so : Int} {s d : AwM} (h : CC M cr so s d) {g k : Int} (hg : ms 12 g) (hk : ms 12 k) : fX5_difference SH M so g k = some (dif s k g) := by
  have b1 := wts_b h.ok g
  have b2 := wts_b h.ok k
  unfold fX5_difference dif fJ9_abs_0f7a4
  rw [kso0 h.hso, gd_t rfl, wts_n h hk, pb_1, u1_1, wts_n h hg, pb_1, u1_1, w32_s (v := 2 * wts s g) (by omega) (by omega), w32_s (v := wts s k - 2 * wts s g) (by omega) (by omega), w32_s (v := -(wts s k - 2 * wts s g)) (by omega) (by omega)]
  by_cases z : wts s k - 2 * wts s g < 0
  · rw [if_pos z, pb_1, u1_1]; congr 1; omega
  · rw [if_neg z, pb_1, u1_1]; congr 1; omega
/-- the fairest of the first sets of h -/
def frS (s : AwM) (h : Nat) : Nat → Int × Int
  | 0 => (-1, 100000000)
  | g + 1 => if g &&& h = g then (if dif s (h : Int) (g : Int) < (frS s h g).2 then ((g : Int), dif s (h : Int) (g : Int)) else frS s h g) else frS s h g
theorem frS_s {s : AwM} {h g : Nat} : frS s h (g + 1) = if g &&& h = g then (if dif s (h : Int) (g : Int) < (frS s h g).2 then ((g : Int), dif s (h : Int) (g : Int)) else frS s h g) else frS s h g := rfl
theorem frS_skip {s : AwM} {h a : Nat} : ∀ k : Nat, (∀ x, a ≤ x → x < a + k → ¬ x &&& h = x) → frS s h (a + k) = frS s h a
  | 0, _ => rfl
  | k + 1, hx => by
    rw [show a + (k + 1) = (a + k) + 1 by omega, frS_s, if_neg (hx (a + k) (by omega) (by omega))]
    exact frS_skip k (fun x x0 x1 => hx x x0 (by omega))
theorem dif_b {s : AwM} (ho : SoOK s) (h g : Int) : 0 ≤ dif s h g ∧ dif s h g ≤ 4000 := by
  have b1 := wts_b ho g
  have b2 := wts_b ho h
  unfold dif
  omega
theorem fairC_n {M : AwM} {cr so : Int} {s d : AwM} (h : CC M cr so s d) {k : Nat} (hk : k < 2 ^ (s 0 1).toNat) : fX5_fairPurse SH M so (k : Int) = some (frS s k (2 ^ (s 0 1).toNat)).1 := by
  have hc := h.ok.c
  have h12 : 2 ^ (s 0 1).toNat ≤ 2 ^ 12 := Nat.pow_le_pow_right (by decide) (by omega)
  have mk : ms 12 (k : Int) := ms_n.mpr ⟨k, rfl, by omega⟩
  have f0 : frS s k 1 = (0, dif s (k : Int) 0) := by
    have b := dif_b h.ok (k : Int) 0
    show (if 0 &&& k = 0 then (if dif s (k : Int) 0 < 100000000 then ((0 : Int), dif s (k : Int) 0) else (-1, 100000000)) else (-1, 100000000)) = _
    rw [if_pos (by simp), if_pos (by omega)]
  have key := lp_rel (body := u4 (fX5_fairPurse_L15 SH M so (k : Int))) (P := fun j (t : Int × Int × Int × Int) => ∃ p : Nat, p &&& k = p ∧ j ≤ p ∧ t.2.1 = (p : Int) ∧ t.1 = (frS s k (p + 1)).1 ∧ t.2.2.1 = (frS s k (p + 1)).2 ∧ t.2.2.2 = (j : Int)) (X := fun r => r = .inr (frS s k (2 ^ (s 0 1).toNat)).1) (n := 4096) ?_ FU (0, 0, dif s (k : Int) 0, 0) (FU_gt (by omega)) ⟨0, by simp, Nat.le_refl _, rfl, by rw [f0], by rw [f0], rfl⟩
  · obtain ⟨r, e, rfl⟩ := key
    unfold fX5_fairPurse
    rw [kso0 h.hso, gd_t rfl, dif_n h (ms_0 12) mk, pb_1, u1_1, e, pb_1]
    rfl
  · rintro j ⟨a, p', b, i⟩ hj ⟨p, hs, hjp, hp, ha, hb', hi⟩
    change p' = (p : Int) at hp
    change a = _ at ha
    change b = _ at hb'
    change i = (j : Int) at hi
    subst hp
    subst ha
    subst hb'
    subst hi
    have ple := sub_le hs
    rw [u4_1]
    unfold fX5_fairPurse_L15
    rw [if_pos (by omega), nxtI (by omega) hs]
    rcases nxt_ok 32 (show k < 2 ^ 32 by omega) hs with ⟨x, y⟩ | ⟨x, y, z⟩
    · refine Or.inr ⟨.inr (frS s k (p + 1)).1, by rw [y, if_pos (show ((0 : Nat) : Int) = 0 from rfl)], ?_⟩
      have : frS s k (2 ^ (s 0 1).toNat) = frS s k (p + 1) := by
        have := frS_skip (s := s) (h := k) (a := p + 1) (2 ^ (s 0 1).toNat - (p + 1)) (fun w w0 w1 hw => by have := sub_le hw; omega)
        rw [← this]
        congr 1
        omega
      rw [this]
    · have qle := sub_le y
      generalize hq : nxt 32 k p = q at *
      have mq : ms 12 (q : Int) := ms_n.mpr ⟨q, rfl, by omega⟩
      have st : frS s k (q + 1) = if dif s (k : Int) (q : Int) < (frS s k (p + 1)).2 then ((q : Int), dif s (k : Int) (q : Int)) else frS s k (p + 1) := by
        have sk := frS_skip (s := s) (h := k) (a := p + 1) (q - (p + 1)) (fun w w0 w1 hw => by have := z w hw (by omega); omega)
        rw [show p + 1 + (q - (p + 1)) = q by omega] at sk
        rw [frS_s, if_pos y, sk]
      refine Or.inl ⟨by omega, ?_⟩
      rw [if_neg (by omega), kso0 h.hso, gd_t rfl, dif_n h mq mk, pb_1, u1_1, w32_s (v := (j : Int) + 1) (by omega) (by omega)]
      by_cases w : dif s (k : Int) (q : Int) < (frS s k (p + 1)).2
      · rw [if_pos w] at st ⊢
        exact ⟨_, rfl, q, y, by omega, rfl, by rw [st], by rw [st], by simp⟩
      · rw [if_neg w] at st ⊢
        exact ⟨_, rfl, q, y, by omega, rfl, by rw [st], by rw [st], by simp⟩
theorem sbs_n {g h : Nat} (hg : g < 2 ^ 31) (hh : h < 2 ^ 31) : an_ (g : Int) (xo_ (h : Int) (-1)) = 0 ↔ g &&& h = g := by
  rw [an_not ⟨by omega, by omega⟩ (by omega) (by omega)]
  constructor
  · rintro ⟨-, w⟩
    apply Nat.eq_of_testBit_eq
    intro i
    rw [Nat.testBit_and]
    by_cases hi : i < 31
    · have := w (i : Int) (by omega) (by omega)
      unfold hb at this
      simp only [Int.toNat_natCast] at this
      cases e : g.testBit i
      · rfl
      · rw [this e]; rfl
    · rw [Nat.testBit_lt_two_pow (Nat.lt_of_lt_of_le hg (Nat.pow_le_pow_right (by omega) (by omega)))]
      rfl
  · intro w
    refine ⟨by omega, fun q q0 q1 hq => ?_⟩
    unfold hb at *
    simp only [Int.toNat_natCast] at *
    rw [← w, Nat.testBit_and, Bool.and_eq_true] at hq
    exact hq.2
theorem slc_n {M : AwM} {b L : Int} {s d : AwM} (h : MM M b L s d) : sl_ 1 (s 0 1) = ((2 ^ (s 0 1).toNat : Nat) : Int) := by
  have hc := h.ok.c
  rw [sl1_n (by omega) (by omega)]
  unfold stb
  simp
theorem fairM_n {M : AwM} {b v : Int} {s d : AwM} (h : MM M b 0 s d) {k : Nat} (hk : k < 2 ^ (s 0 1).toNat) : lp (u3 (fX9_fair_L37 SH M 167 v (k : Int))) FU (-1, 100000000, 0) = some (frS s k (2 ^ (s 0 1).toNat)) := by
  have hc := h.ok.c
  have hbb := h.b01
  have h12 : 2 ^ (s 0 1).toNat ≤ 2 ^ 12 := Nat.pow_le_pow_right (by decide) (by omega)
  have mk : ms 12 (k : Int) := ms_n.mpr ⟨k, rfl, by omega⟩
  refine lp_cnt (body := u3 (fX9_fair_L37 SH M 167 v (k : Int))) (fun i => ((frS s k i).1, (frS s k i).2, (i : Int))) _ (2 ^ (s 0 1).toNat) ?_ ?_ FU (FU_gt (by omega))
  · intro i hi
    have mi : ms 12 (i : Int) := ms_n.mpr ⟨i, rfl, by omega⟩
    have b1 := wts_b h.ok (i : Int)
    have b2 := wts_b h.ok (k : Int)
    rw [u3_1]
    unfold fX9_fair_L37 fX9_fair_J94_37
    rw [kd167, gd_t rfl, ly167_16 h.lay, kd171, h.bk, ga_t (by omega) (by omega), h.n1, slc_n h, if_pos (by omega), w32_s (v := (i : Int) + 1) (by omega) (by omega)]
    by_cases z : i &&& k = i
    · rw [if_pos ((sbs_n (by omega) (by omega)).mpr z), mwts_n h mi, pb_1, u1_1, mwts_n h mk, pb_1, u1_1, w32_s (v := 2 * wts s (i : Int)) (by omega) (by omega), w32_s (v := 2 * wts s (i : Int) - wts s (k : Int)) (by omega) (by omega), w32_s (v := -(2 * wts s (i : Int) - wts s (k : Int))) (by omega) (by omega)]
      have st : frS s k (i + 1) = if dif s (k : Int) (i : Int) < (frS s k i).2 then ((i : Int), dif s (k : Int) (i : Int)) else frS s k i := by rw [frS_s, if_pos z]
      have fin : ∀ q : Int, q = dif s (k : Int) (i : Int) → (if q < (frS s k i).2 then (some (.inl ((i : Int), q, (i : Int) + 1)) : Option ((Int × Int × Int) ⊕ (Int × Int))) else some (.inl ((frS s k i).1, (frS s k i).2, (i : Int) + 1))) = some (.inl ((frS s k (i + 1)).1, (frS s k (i + 1)).2, ((i + 1 : Nat) : Int))) := fun q hq => by
        subst hq
        by_cases w : dif s (k : Int) (i : Int) < (frS s k i).2
        · rw [if_pos w, st, if_pos w]; simp
        · rw [if_neg w, st, if_neg w]; simp
      by_cases w : 2 * wts s (i : Int) - wts s (k : Int) < 0
      · rw [if_pos w]; exact fin _ (by unfold dif; omega)
      · rw [if_neg w]; exact fin _ (by unfold dif; omega)
    · have st : frS s k (i + 1) = frS s k i := if_neg z
      rw [if_neg (fun w => z ((sbs_n (by omega) (by omega)).mp w)), st]
      simp
  · rw [u3_1]
    unfold fX9_fair_L37
    rw [kd167, gd_t rfl, ly167_16 h.lay, kd171, h.bk, ga_t (by omega) (by omega), h.n1, slc_n h, if_neg (by omega)]
theorem frS_in {s : AwM} {k : Nat} (ho : SoOK s) : ∀ n : Nat, 1 ≤ n → ∃ g : Nat, frS s k n = ((g : Int), dif s (k : Int) (g : Int)) ∧ g < n
  | 0, h => absurd h (by omega)
  | 1, _ => by
    have b := dif_b ho (k : Int) ((0 : Nat) : Int)
    refine ⟨0, ?_, by omega⟩
    show (if 0 &&& k = 0 then (if dif s (k : Int) ((0 : Nat) : Int) < 100000000 then (((0 : Nat) : Int), dif s (k : Int) ((0 : Nat) : Int)) else (-1, 100000000)) else (-1, 100000000)) = _
    rw [if_pos (by simp), if_pos (by omega)]
  | n + 2, _ => by
    obtain ⟨g, e, hg⟩ := frS_in ho (n + 1) (by omega)
    by_cases z : (n + 1) &&& k = n + 1
    · by_cases w : dif s (k : Int) ((n + 1 : Nat) : Int) < (frS s k (n + 1)).2
      · exact ⟨n + 1, by rw [frS_s, if_pos z, if_pos w], by omega⟩
      · exact ⟨g, by rw [frS_s, if_pos z, if_neg w, e], by omega⟩
    · exact ⟨g, by rw [frS_s, if_neg z, e], by omega⟩
theorem hld_nat {s d : AwM} (w : Int) : ∃ k : Nat, hld s d w = (k : Int) ∧ k < 2 ^ (s 0 1).toNat := ms_n.mp (accB_ms _ _)
theorem fair_e {M s d : AwM} {n : Int} {R : Int → AwM} {mi : AwM} {p v : Int} (h : CR M s d n R mi) (g : MR M s d n R mi) : ∃ r, fX8_fair SH M 1 p v = some r ∧ fX9_fair SH M 167 p v = some r := by
  have hc := h.cc.ok.c
  have h12 : 2 ^ (s 0 1).toNat ≤ 2 ^ 12 := Nat.pow_le_pow_right (by decide) (by omega)
  unfold fX8_fair fX9_fair
  rw [kd1, gd_t rfl, kso0 h.cc.hso, gd_t rfl, isTh_n h.cc (by decide) (by decide), pb_1, u1_1, bi_if, kd167, gd_t rfl, (mis_n (c := 0) (p := p) g.mm).2, pb_1, u1_1, bi_if]
  by_cases a : 0 ≤ p ∧ p < s 0 0
  · obtain ⟨k, ek, hk⟩ := hld_nat (s := s) (d := d) p
    obtain ⟨q, eq, hq⟩ := frS_in (k := k) h.cc.ok (2 ^ (s 0 1).toNat) (Nat.two_pow_pos _)
    rw [if_pos (decide_eq_true a), if_pos (decide_eq_true a), isr_n, pb_1, u1_1, bi_if, ly1_4 h.lay, kd153, gd_t rfl, hld_n h.cc, pb_1, u1_1, mhld_n g.mm, pb_1, u1_1, ek, fairC_n h.cc hk, pb_1, u1_1, fairM_n g.mm hk, pb_1, eq, u2_1, dif_n h.cc (ms_n.mpr ⟨q, rfl, by omega⟩) (ms_n.mpr ⟨k, rfl, by omega⟩), pb_1, u1_1]
    by_cases v0 : v = 0
    · exact ⟨(q : Int), by rw [if_pos v0], by rw [if_pos (decide_eq_true ⟨by omega, by omega⟩), if_pos v0]⟩
    · by_cases v1 : v = 1
      · exact ⟨dif s (k : Int) (q : Int), by rw [if_neg v0, if_pos v1], by rw [if_pos (decide_eq_true ⟨by omega, by omega⟩), if_neg v0]⟩
      · exact ⟨-1, by rw [if_neg v0, if_neg v1], by rw [if_neg (by rw [decide_eq_true_iff]; omega)]⟩
  · exact ⟨-1, by rw [if_neg (by rw [decide_eq_false a]; decide)], by rw [if_neg (by rw [decide_eq_false a]; decide)]⟩
end PFAIR
