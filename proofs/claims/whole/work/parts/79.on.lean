/-! on, the class's side -/
section PON
def rwT (s : AwM) (c : Int) : Int := 2 + c * (1 + s 0 0)
def dyT (mi : AwM) : Int := 256 * mi 14 0 + mi 14 1
theorem rwT_b {s : AwM} (ho : SoOK s) {c : Int} (c0 : 0 ≤ c) (c1 : c ≤ 12) : 2 ≤ rwT s c ∧ rwT s c ≤ 134 := by
  have hp := ho.p
  have h1 := Int.mul_le_mul c1 (show 1 + s 0 0 ≤ 11 by omega) (by omega) (by decide)
  have h2 := Int.mul_nonneg c0 (show 0 ≤ 1 + s 0 0 by omega)
  unfold rwT
  omega
theorem rwT_s {s : AwM} {c : Int} : rwT s (c + 1) = rwT s c + 1 + s 0 0 := by
  unfold rwT
  rw [Int.add_mul, Int.one_mul]
  omega
theorem rwT_m {s : AwM} (ho : SoOK s) {c n : Int} (c1 : c < n) : rwT s c + 1 + s 0 0 ≤ rwT s n := by
  have hp := ho.p
  rw [← rwT_s]
  have := Int.mul_le_mul_of_nonneg_right (show c + 1 ≤ n by omega) (show 0 ≤ 1 + s 0 0 by omega)
  unfold rwT
  omega
theorem imR_n {M s d : AwM} {so c : Int} (h : CC M 153 so s d) (h3 : M 1 3 = so) (c0 : 0 ≤ c) (c1 : c ≤ 12) : fX8_imageRow SH M 1 c = some (rwT s c) := by
  have hp := h.ok.p
  have b := rwT_b h.ok c0 c1
  unfold rwT at b
  unfold fX8_imageRow
  rw [kd1, gd_t rfl, h3, kso0 h.hso, gd_t rfl, lso0_0 h.lay h.hso, kso1 h.hso, gd_t (by decide), h.n0, w32_s (v := 1 + s 0 0) (by omega) (by omega), w32_s (v := c * (1 + s 0 0)) (by omega) (by omega), w32_s (by omega) (by omega)]
  rfl
theorem dy_n {x y : Int} (x0 : 0 ≤ x) (x1 : x ≤ 255) (y0 : 0 ≤ y) (y1 : y ≤ 255) : or_ (sl_ x 8) y = 256 * x + y := by
  obtain ⟨a, rfl⟩ := Int.eq_ofNat_of_zero_le x0
  obtain ⟨b, rfl⟩ := Int.eq_ofNat_of_zero_le y0
  rw [show (8 : Int) = ((8 : Nat) : Int) from rfl, sl_n (by omega) (by omega), or_n (by omega) (by omega)]
  have := Nat.shiftLeft_add_eq_or_of_lt (show b < 2 ^ 8 by omega) a
  rw [Nat.shiftLeft_eq] at this
  rw [← this]
  omega
def okC (s mi : AwM) (c : Int) : Bool := decide (0 ≤ mi 14 (rwT s c) ∧ mi 14 (rwT s c) < s 0 0) && (decide (2 ≤ mi 14 (rwT s c + 1 + mi 14 (rwT s c))) && allB (fun p => decide (mi 14 (rwT s c + 1 + p) ≤ 2 + min 200 (dyT mi))) (s 0 0).toNat)
def okI (s mi : AwM) (L : Int) : Bool := decide (L = rwT s (s 0 1) + 1) && (decide (dyT mi ≤ 999) && (allB (fun c => okC s mi c) (s 0 1).toNat && decide (mi 14 (L - 1) = ckS (mi 14) (L - 1).toNat)))
theorem tDay_n {M mi : AwM} {L : Int} (e0 : M 1 0 = 2) (hT : cTp M mi L) (hL : L ≤ 1600) (h2 : 2 ≤ L) : fX8_tapeDay SH M 1 = some (dyT mi) := by
  obtain ⟨-, x0, x1⟩ := hT 0 (by omega) (by omega)
  obtain ⟨-, y0, y1⟩ := hT 1 (by omega) (by omega)
  unfold fX8_tapeDay
  rw [kd1, gd_t rfl, tapeB_n e0 hT hL (by omega) (by omega), pb_1, u1_1, tapeB_n e0 hT hL (by omega) (by omega), pb_1, u1_1, dy_n x0 x1 y0 y1]
  rfl
theorem dyT_b {M mi : AwM} {L : Int} (hT : cTp M mi L) (h2 : 2 ≤ L) : 0 ≤ dyT mi ∧ dyT mi ≤ 65535 := by
  obtain ⟨-, x0, x1⟩ := hT 0 (by omega) (by omega)
  obtain ⟨-, y0, y1⟩ := hT 1 (by omega) (by omega)
  unfold dyT
  omega
theorem tellC_n {M s d mi : AwM} {L so c : Int} (h : CC M 153 so s d) (h3 : M 1 3 = so) (hT : cTp M mi L) (hL : L ≤ 1600) (c0 : 0 ≤ c) (c1 : c < s 0 1) (hl : L = rwT s (s 0 1) + 1) : fX8_tellsCoin SH M 1 (rwT s c) = some (bi (okC s mi c)) := by
  have hc := h.ok.c
  have hp := h.ok.p
  have rb := rwT_b h.ok c0 (show c ≤ 12 by omega)
  have rm := rwT_m h.ok c1
  have e0 := ly1_0 h.lay
  have db := dyT_b hT (by omega)
  unfold fX8_tellsCoin okC
  rw [kd1, gd_t rfl, tapeB_n e0 hT hL (by omega) (by omega), pb_1, u1_1, h3, kso0 h.hso, gd_t rfl, isTh_n h (by decide) (by decide), pb_1, u1_1, bi_if]
  by_cases a : 0 ≤ mi 14 (rwT s c) ∧ mi 14 (rwT s c) < s 0 0
  · rw [if_pos (decide_eq_true a), decide_eq_true a, Bool.true_and, w32_s (v := rwT s c + 1) (by omega) (by omega), w32_s (by omega) (by omega), tapeB_n e0 hT hL (by omega) (by omega), pb_1, u1_1]
    by_cases b : mi 14 (rwT s c + 1 + mi 14 (rwT s c)) < 2
    · rw [if_pos b, decide_eq_false (by omega), Bool.false_and]; rfl
    · rw [if_neg b, decide_eq_true (by omega), Bool.true_and, tDay_n e0 hT hL (by omega), pb_1, u1_1, min32_n, pb_1, u1_1, w32_s (v := 2 + min 200 (dyT mi)) (by omega) (by omega)]
      have key : lp (u1 (fX8_tellsCoin_L49 SH M 1 (rwT s c) (2 + min 200 (dyT mi)))) FU 0 = some (if allB (fun p => decide (mi 14 (rwT s c + 1 + p) ≤ 2 + min 200 (dyT mi))) (s 0 0).toNat = true then .inl () else .inr ()) := by
        refine lp_all (P := fun p => decide (mi 14 (rwT s c + 1 + p) ≤ 2 + min 200 (dyT mi))) (n := (s 0 0).toNat) ?_ ?_ FU (FU_gt (by omega))
        · intro i hi
          rw [u1_1]
          unfold fX8_tellsCoin_L49
          rw [kd1, gd_t rfl, h3, kso0 h.hso, gd_t rfl, lso0_0 h.lay h.hso, kso1 h.hso, gd_t (by decide), h.n0, if_pos (by omega), w32_s (v := rwT s c + 1) (by omega) (by omega), w32_s (v := rwT s c + 1 + (i : Int)) (by omega) (by omega), tapeB_n e0 hT hL (by omega) (by omega), pb_1, u1_1, w32_s (v := (i : Int) + 1) (by omega) (by omega)]
          by_cases z : 2 + min 200 (dyT mi) < mi 14 (rwT s c + 1 + (i : Int))
          · rw [if_pos z, if_neg (by rw [decide_eq_true_iff]; omega)]
          · rw [if_neg z, if_pos (by rw [decide_eq_true_iff]; omega)]
        · rw [u1_1]
          unfold fX8_tellsCoin_L49
          rw [kd1, gd_t rfl, h3, kso0 h.hso, gd_t rfl, lso0_0 h.lay h.hso, kso1 h.hso, gd_t (by decide), h.n0, if_neg (by omega)]
      rw [key, pb_1]
      cases allB (fun p => decide (mi 14 (rwT s c + 1 + p) ≤ 2 + min 200 (dyT mi))) (s 0 0).toNat <;> rfl
  · rw [if_neg (by rw [decide_eq_false a]; decide), decide_eq_false a, Bool.false_and]; rfl
theorem tellI_n {M s d mi : AwM} {L so : Int} (h : CC M 153 so s d) (h3 : M 1 3 = so) (hT : cTp M mi L) (hL : L ≤ 1600) : fX8_tellsImage SH M 1 L = some (bi (okI s mi L)) := by
  have hc := h.ok.c
  have rb := rwT_b h.ok hc.1 hc.2
  have e0 := ly1_0 h.lay
  unfold fX8_tellsImage okI
  rw [kd1, gd_t rfl, h3, kso0 h.hso, gd_t rfl, lso0_0 h.lay h.hso, kso1 h.hso, gd_t (by decide), h.n1, imR_n h h3 hc.1 hc.2, pb_1, u1_1, w32_s (v := rwT s (s 0 1) + 1) (by omega) (by omega)]
  by_cases a : L = rwT s (s 0 1) + 1
  · rw [if_pos a, decide_eq_true a, Bool.true_and, tDay_n e0 hT hL (by omega), pb_1, u1_1]
    by_cases b : 999 < dyT mi
    · rw [if_pos b, decide_eq_false (by omega), Bool.false_and]; rfl
    · rw [if_neg b, decide_eq_true (by omega), Bool.true_and]
      have key : lp (u1 (fX8_tellsImage_L33 SH M 1 L)) FU 0 = some (if allB (fun c => okC s mi c) (s 0 1).toNat = true then .inl () else .inr ()) := by
        refine lp_all (P := fun c => okC s mi c) (n := (s 0 1).toNat) ?_ ?_ FU (FU_gt (by omega))
        · intro i hi
          rw [u1_1]
          unfold fX8_tellsImage_L33
          rw [kd1, gd_t rfl, h3, kso0 h.hso, gd_t rfl, lso0_0 h.lay h.hso, kso1 h.hso, gd_t (by decide), h.n1, if_pos (by omega), imR_n h h3 (by omega) (by omega), pb_1, u1_1, tellC_n h h3 hT hL (by omega) (by omega) a, pb_1, u1_1, bi_if, w32_s (v := (i : Int) + 1) (by omega) (by omega)]
        · rw [u1_1]
          unfold fX8_tellsImage_L33
          rw [kd1, gd_t rfl, h3, kso0 h.hso, gd_t rfl, lso0_0 h.lay h.hso, kso1 h.hso, gd_t (by decide), h.n1, if_neg (by omega)]
      rw [key, pb_1]
      cases g : allB (fun c => okC s mi c) (s 0 1).toNat with
      | false => rfl
      | true =>
        rw [if_pos rfl, Bool.true_and]
        show pb (lp (u2 (fX8_tellsImage_L71 SH M 1 L)) FU (103, 0)) _ = _
        have key := lp_cnt (body := u2 (fX8_tellsImage_L71 SH M 1 L)) (fun i => (ckS (mi 14) i, (i : Int))) (ckS (mi 14) (L - 1).toNat) (L - 1).toNat ?_ ?_ FU (FU_gt (by omega))
        · rw [show ((103 : Int), (0 : Int)) = (ckS (mi 14) 0, ((0 : Nat) : Int)) from rfl, key, pb_1, u1_1, w32_s (v := L - 1) (by omega) (by omega), tapeB_n e0 hT hL (by omega) (by omega), pb_1, u1_1]
          by_cases z : mi 14 (L - 1) = ckS (mi 14) (L - 1).toNat
          · rw [if_pos z, decide_eq_true z]; rfl
          · rw [if_neg z, decide_eq_false z]; rfl
        · intro i hi
          have cb := ckS_b (mi 14) i
          have tb := (hT i (by omega) (by omega)).2
          rw [u2_1]
          unfold fX8_tellsImage_L71
          rw [w32_s (v := L - 1) (by omega) (by omega), if_pos (by omega), kd1, gd_t rfl, tapeB_n e0 hT hL (by omega) (by omega), pb_1, u1_1, w32_s (v := 5 * ckS (mi 14) i) (by omega) (by omega), w32_s (v := 5 * ckS (mi 14) i + mi 14 (i : Int)) (by omega) (by omega), Int.tmod_eq_emod_of_nonneg (by omega), bd_1, w32_s (v := (i : Int) + 1) (by omega) (by omega)]
          rfl
        · rw [u2_1]
          unfold fX8_tellsImage_L71
          rw [w32_s (v := L - 1) (by omega) (by omega), if_neg (by omega)]
  · rw [if_neg a, decide_eq_false a, Bool.false_and]; rfl
/-- the ledger that an image tells -/
def onA (s mi : AwM) : AwM := fun a i =>
  if a = 0 then dyT mi
  else if a = 1 then mi 14 (rwT s i)
  else if a = 2 then accB (fun p => decide (2 ≤ mi 14 (rwT s i + 1 + p))) (s 0 0).toNat
  else if a = 3 then accB (fun p => decide (mi 14 (rwT s i + 1 + p) = 1)) (s 0 0).toNat
  else dyT mi - (mi 14 (rwT s (i / 10) + 1 + i % 10) - 2)
theorem onA_4 {s mi : AwM} {c p : Int} (p0 : 0 ≤ p) (p1 : p < 10) : onA s mi 4 (10 * c + p) = dyT mi - (mi 14 (rwT s c + 1 + p) - 2) := by
  show dyT mi - (mi 14 (rwT s ((10 * c + p) / 10) + 1 + (10 * c + p) % 10) - 2) = _
  rw [show (10 * c + p) / 10 = c by omega, show (10 * c + p) % 10 = p by omega]
theorem okC_t {s mi : AwM} {c : Int} (h : okC s mi c = true) : (0 ≤ mi 14 (rwT s c) ∧ mi 14 (rwT s c) < s 0 0) ∧ 2 ≤ mi 14 (rwT s c + 1 + mi 14 (rwT s c)) ∧ ∀ p : Int, 0 ≤ p → p < ((s 0 0).toNat : Int) → mi 14 (rwT s c + 1 + p) ≤ 2 + min 200 (dyT mi) := by
  unfold okC at h
  rw [Bool.and_eq_true, Bool.and_eq_true, decide_eq_true_iff, decide_eq_true_iff, allB_iff] at h
  exact ⟨h.1, h.2.1, fun p p0 p1 => of_decide_eq_true (h.2.2 p p0 p1)⟩
theorem okI_t {s mi : AwM} {L : Int} (h : okI s mi L = true) : L = rwT s (s 0 1) + 1 ∧ dyT mi ≤ 999 ∧ ∀ c : Int, 0 ≤ c → c < ((s 0 1).toNat : Int) → okC s mi c = true := by
  unfold okI at h
  rw [Bool.and_eq_true, Bool.and_eq_true, Bool.and_eq_true, decide_eq_true_iff, decide_eq_true_iff, allB_iff] at h
  exact ⟨h.1, h.2.1, h.2.2.1⟩
theorem LdOK_on {s mi : AwM} {L : Int} (ho : SoOK s) (hok : okI s mi L = true) (hT : ∀ i : Int, 0 ≤ i → i < L → 0 ≤ mi 14 i ∧ mi 14 i ≤ 255) : LdOK s (onA s mi) := by
  obtain ⟨hl, hd, hc⟩ := okI_t hok
  have hcc := ho.c
  have hp := ho.p
  have rb := rwT_b ho hcc.1 hcc.2
  have t0 := hT 0 (by omega) (by omega)
  have t1 := hT 1 (by omega) (by omega)
  have ms' : ∀ (P : Int → Bool), ms (s 0 0).toNat (accB P (s 0 0).toNat) := fun P => accB_ms P _
  have hb2 : ∀ e p, 0 ≤ p → hb (onA s mi 2 e) p = (decide (p < ((s 0 0).toNat : Int)) && decide (2 ≤ mi 14 (rwT s e + 1 + p))) := fun e p p0 => accB_hb _ p0 _
  have hb3 : ∀ e p, 0 ≤ p → hb (onA s mi 3 e) p = (decide (p < ((s 0 0).toNat : Int)) && decide (mi 14 (rwT s e + 1 + p) = 1)) := fun e p p0 => accB_hb _ p0 _
  refine ⟨⟨?_, ?_⟩, fun e a b => (okC_t (hc e a (by omega))).1, fun e a b => ms' _, fun e a b => ms' _, fun e a b => ?_, fun e q a b x => ?_, fun e q a b x y z => ?_⟩
  · show 0 ≤ dyT mi; unfold dyT; omega
  · show dyT mi ≤ 1000; omega
  · obtain ⟨x, y, z⟩ := okC_t (hc e a (by omega))
    rw [show onA s mi 1 e = mi 14 (rwT s e) from rfl, hb2 e _ x.1, decide_eq_true (by omega), decide_eq_true y]; rfl
  · by_cases q0 : 0 ≤ q
    · rw [hb2 e q q0, Bool.and_eq_true, decide_eq_true_iff, decide_eq_true_iff] at x
      rw [hb3 e q q0, decide_eq_false (show ¬ mi 14 (rwT s e + 1 + q) = 1 by omega), Bool.and_false]
    · rw [hbn q0] at x ⊢
      rw [hb2 e 0 (by omega), Bool.and_eq_true, decide_eq_true_iff, decide_eq_true_iff] at x
      rw [hb3 e 0 (by omega), decide_eq_false (show ¬ mi 14 (rwT s e + 1 + 0) = 1 by omega), Bool.and_false]
  · rw [hb2 e q x, Bool.and_eq_true, decide_eq_true_iff, decide_eq_true_iff] at z
    obtain ⟨-, -, w⟩ := okC_t (hc e a (by omega))
    have := w q x (by omega)
    rw [onA_4 x (by omega)]
    have d0 : 0 ≤ dyT mi := by unfold dyT; omega
    omega
theorem onI_n {M0 M s d mi : AwM} {L so c r1 : Int} (h : CC M0 153 so s d) (hl : LAY M) (h3 : M 1 3 = so) (hs : M (so + 1) 0 = s 0 0) (hT : cTp M mi L) (hL : L ≤ 1600) (c0 : 0 ≤ c) (c1 : c < s 0 1) (hLe : L = rwT s (s 0 1) + 1) (hd : M 154 0 = dyT mi) (hdm : dyT mi ≤ 999) (hk : M 156 c = 0) (hn : M 157 c = 0) : ∃ M', lp (u2 (fX8_on_L93 SH 1 154 c (rwT s c))) FU (0, M) = some M' ∧ (∀ a i, ¬ (a = 156 ∧ i = c) → ¬ (a = 157 ∧ i = c) → ¬ (a = 158 ∧ 10 * c ≤ i ∧ i < 10 * c + 10) → M' a i = M a i) ∧ M' 156 c = onA s mi 2 c ∧ M' 157 c = onA s mi 3 c ∧ ∀ p : Int, 0 ≤ p → p < s 0 0 → 2 ≤ mi 14 (rwT s c + 1 + p) → M' 158 (10 * c + p) = onA s mi 4 (10 * c + p) := by
  have hc := h.ok.c
  have hp := h.ok.p
  have hso := h.hso
  have rb := rwT_b h.ok c0 (show c ≤ 12 by omega)
  have rm := rwT_m h.ok c1
  have db := dyT_b hT (by omega)
  have key := lp_rel (body := u2 (fX8_on_L93 SH 1 154 c (rwT s c))) (P := fun j (t : Int × AwM) => t.1 = (j : Int) ∧ (∀ a i, ¬ (a = 156 ∧ i = c) → ¬ (a = 157 ∧ i = c) → ¬ (a = 158 ∧ 10 * c ≤ i ∧ i < 10 * c + 10) → t.2 a i = M a i) ∧ t.2 156 c = accB (fun p => decide (2 ≤ mi 14 (rwT s c + 1 + p))) j ∧ t.2 157 c = accB (fun p => decide (mi 14 (rwT s c + 1 + p) = 1)) j ∧ ∀ p : Int, 0 ≤ p → p < j → 2 ≤ mi 14 (rwT s c + 1 + p) → t.2 158 (10 * c + p) = onA s mi 4 (10 * c + p)) (X := fun M' : AwM => (∀ a i, ¬ (a = 156 ∧ i = c) → ¬ (a = 157 ∧ i = c) → ¬ (a = 158 ∧ 10 * c ≤ i ∧ i < 10 * c + 10) → M' a i = M a i) ∧ M' 156 c = onA s mi 2 c ∧ M' 157 c = onA s mi 3 c ∧ ∀ p : Int, 0 ≤ p → p < s 0 0 → 2 ≤ mi 14 (rwT s c + 1 + p) → M' 158 (10 * c + p) = onA s mi 4 (10 * c + p)) (n := (s 0 0).toNat) ?_ FU (0, M) (FU_gt (by omega)) ⟨rfl, fun _ _ _ _ _ => rfl, hk, hn, fun p x y => absurd x (by omega)⟩
  · exact key
  · rintro j ⟨i, M3⟩ hj ⟨hi, f3, k3, n3, g3⟩
    change i = (j : Int) at hi
    change ∀ a i, ¬ (a = 156 ∧ i = c) → ¬ (a = 157 ∧ i = c) → ¬ (a = 158 ∧ 10 * c ≤ i ∧ i < 10 * c + 10) → M3 a i = M a i at f3
    change M3 156 c = _ at k3
    change M3 157 c = _ at n3
    change ∀ p : Int, 0 ≤ p → p < j → 2 ≤ mi 14 (rwT s c + 1 + p) → M3 158 (10 * c + p) = onA s mi 4 (10 * c + p) at g3
    subst hi
    have l3 : LAY M3 := LAY_fr hl (fun a i ha => f3 a i (fun z => ob_ne ha (x := 156) (by decide) z.1) (fun z => ob_ne ha (x := 157) (by decide) z.1) (fun z => ob_ne ha (x := 158) (by decide) z.1))
    have e3 : M3 1 3 = so := (f3 _ _ (by omega) (by omega) (by omega)).trans h3
    have es : M3 (so + 1) 0 = s 0 0 := (f3 _ _ (by omega) (by omega) (by omega)).trans hs
    have T3 : cTp M3 mi L := fun i i0 i1 => by rw [f3 _ _ (by omega) (by omega) (by omega)]; exact hT i i0 i1
    have ed : M3 154 0 = dyT mi := (f3 _ _ (by omega) (by omega) (by omega)).trans hd
    rw [u2_1]
    unfold fX8_on_L93
    rw [kd1, gd_t rfl, e3, kso0 hso, gd_t rfl, lso0_0 l3 hso, kso1 hso, gd_t (by decide), es]
    by_cases hjn : j < (s 0 0).toNat
    · have tv := (hT (rwT s c + 1 + (j : Int)) (by omega) (by omega)).2
      have st2 : accB (fun p => decide (2 ≤ mi 14 (rwT s c + 1 + p))) (j + 1) = if decide (2 ≤ mi 14 (rwT s c + 1 + (j : Int))) = true then stb (accB (fun p => decide (2 ≤ mi 14 (rwT s c + 1 + p))) j) (j : Int) else accB (fun p => decide (2 ≤ mi 14 (rwT s c + 1 + p))) j := rfl
      have st3 : accB (fun p => decide (mi 14 (rwT s c + 1 + p) = 1)) (j + 1) = if decide (mi 14 (rwT s c + 1 + (j : Int)) = 1) = true then stb (accB (fun p => decide (mi 14 (rwT s c + 1 + p) = 1)) j) (j : Int) else accB (fun p => decide (mi 14 (rwT s c + 1 + p) = 1)) j := rfl
      rw [if_pos (by omega), w32_s (v := rwT s c + 1) (by omega) (by omega), w32_s (v := rwT s c + 1 + (j : Int)) (by omega) (by omega), tapeB_n (ly1_0 l3) T3 hL (by omega) (by omega), pb_1, u1_1, ly1_4 l3, kd153, gd_t rfl, w32_s (v := (j : Int) + 1) (by omega) (by omega)]
      unfold fX0_stand
      rw [kd153]
      by_cases a : mi 14 (rwT s c + 1 + (j : Int)) < 2
      · rw [if_pos a]
        rw [decide_eq_false (show ¬ 2 ≤ mi 14 (rwT s c + 1 + (j : Int)) by omega), if_neg (by decide)] at st2
        by_cases b : mi 14 (rwT s c + 1 + (j : Int)) = 1
        · have kl := accB_lt (P := fun p => decide (mi 14 (rwT s c + 1 + p) = 1)) (i := j) (by omega)
          rw [decide_eq_true b, if_pos rfl] at st3
          refine Or.inl ⟨hjn, ((j : Int) + 1, up_ M3 157 c (stb (accB (fun p => decide (mi 14 (rwT s c + 1 + p) = 1)) j) (j : Int))), by rw [if_pos b, gd_t rfl, ly153_0 l3, kd154, gd_t rfl, ly154_3 l3, kd157, ga_t c0 (by omega), n3, stb_n kl.1 kl.2 (by omega) (by omega), bd_1, pb_1, u1_1], by simp, fun a i x y z => (if_neg y).trans (f3 a i x y z), (show up_ M3 157 c (stb (accB (fun p => decide (mi 14 (rwT s c + 1 + p) = 1)) j) (j : Int)) 156 c = _ from (up_of (by decide)).trans (k3.trans st2.symm)), up_at.trans st3.symm, fun p p0 p1 p2 => ?_⟩
          show up_ M3 157 c (stb (accB (fun p => decide (mi 14 (rwT s c + 1 + p) = 1)) j) (j : Int)) 158 (10 * c + p) = _
          refine (up_of (by decide)).trans (g3 p p0 ?_ p2)
          by_cases z : p = j
          · subst z; omega
          · omega
        · rw [decide_eq_false b, if_neg (by decide)] at st3
          refine Or.inl ⟨hjn, _, by rw [if_neg b, pb_1, u1_1], by simp, f3, k3.trans st2.symm, n3.trans st3.symm, fun p p0 p1 p2 => g3 p p0 ?_ p2⟩
          by_cases z : p = j
          · subst z; omega
          · omega
      · have kl := accB_lt (P := fun p => decide (2 ≤ mi 14 (rwT s c + 1 + p))) (i := j) (by omega)
        rw [decide_eq_true (show 2 ≤ mi 14 (rwT s c + 1 + (j : Int)) by omega), if_pos rfl] at st2
        rw [decide_eq_false (show ¬ mi 14 (rwT s c + 1 + (j : Int)) = 1 by omega), if_neg (by decide)] at st3
        have l4 : LAY (up_ M3 156 c (stb (accB (fun p => decide (2 ≤ mi 14 (rwT s c + 1 + p))) j) (j : Int))) := LAY_ua l3 (by decide)
        have sm := setMet_n (v := dyT mi - (mi 14 (rwT s c + 1 + (j : Int)) - 2)) l4 (Or.inl rfl) c0 (show c < 12 by omega) (show 0 ≤ (j : Int) by omega) (show (j : Int) < 10 by omega)
        change fX3_setMet SH _ 154 c (j : Int) _ = some (up_ _ 158 (10 * c + (j : Int)) _) at sm
        refine Or.inl ⟨hjn, ((j : Int) + 1, up_ (up_ M3 156 c (stb (accB (fun p => decide (2 ≤ mi 14 (rwT s c + 1 + p))) j) (j : Int))) 158 (10 * c + (j : Int)) (dyT mi - (mi 14 (rwT s c + 1 + (j : Int)) - 2))), by rw [if_neg a, gd_t rfl, ly153_0 l3, kd154, gd_t rfl, ly154_2 l3, kd156, ga_t c0 (by omega), k3, stb_n kl.1 kl.2 (by omega) (by omega), bd_1, ly153_0 l4, kd154, gd_t rfl, up_of (by decide), ed, w32_s (v := mi 14 (rwT s c + 1 + (j : Int)) - 2) (by omega) (by omega), w32_s (v := dyT mi - (mi 14 (rwT s c + 1 + (j : Int)) - 2)) (by omega) (by omega), sm, pb_1, u1_1, pb_1, u1_1], by simp, fun a i x y z => ?_, ?_, ?_, fun p p0 p1 p2 => ?_⟩
        · exact (if_neg (by omega)).trans ((if_neg x).trans (f3 a i x y z))
        · show up_ (up_ M3 156 c (stb (accB (fun p => decide (2 ≤ mi 14 (rwT s c + 1 + p))) j) (j : Int))) 158 (10 * c + (j : Int)) (dyT mi - (mi 14 (rwT s c + 1 + (j : Int)) - 2)) 156 c = _
          rw [up_of (by decide), up_at]; exact st2.symm
        · show up_ (up_ M3 156 c (stb (accB (fun p => decide (2 ≤ mi 14 (rwT s c + 1 + p))) j) (j : Int))) 158 (10 * c + (j : Int)) (dyT mi - (mi 14 (rwT s c + 1 + (j : Int)) - 2)) 157 c = _
          rw [up_of (by decide), up_of (by decide)]; exact n3.trans st3.symm
        · by_cases z : p = j
          · rw [z]
            exact up_at.trans (onA_4 (by omega) (by omega)).symm
          · exact ((up_oi (by omega)).trans (up_of (by decide))).trans (g3 p p0 (by omega) p2)
    · have ej : (s 0 0).toNat = j := by omega
      refine Or.inr ⟨M3, by rw [if_neg (by omega)], f3, ?_, ?_, fun p p0 p1 p2 => g3 p p0 (by omega) p2⟩
      · rw [k3, ← ej]; rfl
      · rw [n3, ← ej]; rfl
end PON
