/-! on alike -/
section PON2
theorem imR_r {M s : AwM} {so c : Int} (hl : LAY M) (hso : so = 10 ∨ so = 137) (ho : SoOK s) (hs : M (so + 1) 0 = s 0 0) (h3 : M 1 3 = so) (c0 : 0 ≤ c) (c1 : c ≤ 12) : fX8_imageRow SH M 1 c = some (rwT s c) := by
  have hp := ho.p
  have b := rwT_b ho c0 c1
  unfold rwT at b
  unfold fX8_imageRow
  rw [kd1, gd_t rfl, h3, kso0 hso, gd_t rfl, lso0_0 hl hso, kso1 hso, gd_t (by decide), hs, w32_s (v := 1 + s 0 0) (by omega) (by omega), w32_s (v := c * (1 + s 0 0)) (by omega) (by omega), w32_s (by omega) (by omega)]
  rfl
theorem onO_n {M s d mi : AwM} {L so : Int} (h : CC M 153 so s d) (h3 : M 1 3 = so) (hT : cTp M mi L) (hL : L ≤ 1600) (hok : okI s mi L = true) : ∃ M', lp (u2 (fX8_on_L44 SH 1 154)) FU (0, up_ M 154 0 (dyT mi)) = some M' ∧ CC M' 153 so s (onA s mi) ∧ cfr 153 so M' M := by
  have hc := h.ok.c
  have hp := h.ok.p
  have hso := h.hso
  obtain ⟨hLe, hdm, hall⟩ := okI_t hok
  have rb := rwT_b h.ok hc.1 hc.2
  have l11 : LAY (up_ M 154 0 (dyT mi)) := LAY_up h.lay (by decide +kernel)
  have key := lp_rel (body := u2 (fX8_on_L44 SH 1 154)) (P := fun j (t : Int × AwM) => t.1 = (j : Int) ∧ (∀ a i, ¬ (155 ≤ a ∧ a ≤ 158) → t.2 a i = up_ M 154 0 (dyT mi) a i) ∧ ∀ e : Int, 0 ≤ e → e < j → t.2 155 e = onA s mi 1 e ∧ t.2 156 e = onA s mi 2 e ∧ t.2 157 e = onA s mi 3 e ∧ ∀ p : Int, 0 ≤ p → p < s 0 0 → 2 ≤ mi 14 (rwT s e + 1 + p) → t.2 158 (10 * e + p) = onA s mi 4 (10 * e + p)) (X := fun M' : AwM => (∀ a i, ¬ (155 ≤ a ∧ a ≤ 158) → M' a i = up_ M 154 0 (dyT mi) a i) ∧ ∀ e : Int, 0 ≤ e → e < s 0 1 → M' 155 e = onA s mi 1 e ∧ M' 156 e = onA s mi 2 e ∧ M' 157 e = onA s mi 3 e ∧ ∀ p : Int, 0 ≤ p → p < s 0 0 → 2 ≤ mi 14 (rwT s e + 1 + p) → M' 158 (10 * e + p) = onA s mi 4 (10 * e + p)) (n := (s 0 1).toNat) ?_ FU (0, up_ M 154 0 (dyT mi)) (FU_gt (by omega)) ⟨rfl, fun _ _ _ => rfl, fun e x y => absurd x (by omega)⟩
  · obtain ⟨M', e', f', g'⟩ := key
    have f5 : cfr 153 so M' M := fun a i x y z w => (f' a i (by omega)).trans (if_neg (by omega))
    refine ⟨M', e', CC_of h f5 (LdOK_on h.ok hok (fun i i0 i1 => (hT i i0 i1).2)) ⟨?_, fun e a b => (g' e a b).1, fun e a b => (g' e a b).2.1, fun e a b => (g' e a b).2.2.1, fun e p a b x y z => ?_⟩, f5⟩
    · exact (f' _ _ (by decide)).trans up_at
    · refine (g' e a b).2.2.2 p x y ?_
      have := accB_hb (fun p => decide (2 ≤ mi 14 (rwT s e + 1 + p))) x (s 0 0).toNat
      rw [show accB (fun p => decide (2 ≤ mi 14 (rwT s e + 1 + p))) (s 0 0).toNat = onA s mi 2 e from rfl, z] at this
      have := this.symm
      rw [Bool.and_eq_true, decide_eq_true_iff, decide_eq_true_iff] at this
      exact this.2
  · rintro j ⟨i, M3⟩ hj ⟨hi, f3, g3⟩
    change i = (j : Int) at hi
    change ∀ a i, ¬ (155 ≤ a ∧ a ≤ 158) → M3 a i = up_ M 154 0 (dyT mi) a i at f3
    change ∀ e : Int, 0 ≤ e → e < j → M3 155 e = onA s mi 1 e ∧ M3 156 e = onA s mi 2 e ∧ M3 157 e = onA s mi 3 e ∧ ∀ p : Int, 0 ≤ p → p < s 0 0 → 2 ≤ mi 14 (rwT s e + 1 + p) → M3 158 (10 * e + p) = onA s mi 4 (10 * e + p) at g3
    subst hi
    have nob : ∀ a : Int, a ∈ obL → ¬ (155 ≤ a ∧ a ≤ 158) := fun a ha z => by
      have : a = 155 ∨ a = 156 ∨ a = 157 ∨ a = 158 := by omega
      rcases this with w | w | w | w <;> rw [w] at ha <;> revert ha <;> decide
    have l3 : LAY M3 := LAY_fr l11 (fun a i ha => f3 a i (nob a ha))
    have e3 : M3 1 3 = so := ((f3 _ _ (by omega)).trans (up_of (by decide))).trans h3
    have es0 : M3 (so + 1) 0 = s 0 0 := ((f3 _ _ (by omega)).trans (up_of (by omega))).trans h.n0
    have es1 : M3 (so + 1) 1 = s 0 1 := ((f3 _ _ (by omega)).trans (up_of (by omega))).trans h.n1
    have T3 : cTp M3 mi L := fun i i0 i1 => by rw [f3 _ _ (by omega), up_of (by decide)]; exact hT i i0 i1
    rw [u2_1]
    unfold fX8_on_L44
    rw [kd1, gd_t rfl, e3, kso0 hso, gd_t rfl, lso0_0 l3 hso, kso1 hso, gd_t (by decide), es1]
    by_cases hjn : j < (s 0 1).toNat
    · have rbj := rwT_b h.ok (show 0 ≤ (j : Int) by omega) (show (j : Int) ≤ 12 by omega)
      have rm := rwT_m h.ok (show (j : Int) < s 0 1 by omega)
      have l4 : LAY (up_ M3 155 (j : Int) (mi 14 (rwT s j))) := LAY_ua l3 (by decide)
      have l5 : LAY (up_ (up_ M3 155 (j : Int) (mi 14 (rwT s j))) 156 (j : Int) 0) := LAY_ua l4 (by decide)
      have l6 : LAY (up_ (up_ (up_ M3 155 (j : Int) (mi 14 (rwT s j))) 156 (j : Int) 0) 157 (j : Int) 0) := LAY_ua l5 (by decide)
      have f6 : ∀ a i, ¬ (155 ≤ a ∧ a ≤ 158) → up_ (up_ (up_ M3 155 (j : Int) (mi 14 (rwT s j))) 156 (j : Int) 0) 157 (j : Int) 0 a i = M3 a i := fun a i x => by rw [up_of (by omega), up_of (by omega), up_of (by omega)]
      obtain ⟨M7, e7, f7, k7, n7, g7⟩ := onI_n (M0 := M) (L := L) (c := (j : Int)) (r1 := 0) (mi := mi) h l6 ((f6 _ _ (by omega)).trans e3) ((f6 _ _ (by omega)).trans es0) (fun i i0 i1 => by rw [f6 _ _ (by omega)]; exact T3 i i0 i1) hL (by omega) (by omega) hLe ((f6 _ _ (by omega)).trans ((f3 _ _ (by omega)).trans up_at)) hdm ((up_of (by decide)).trans up_at) up_at
      refine Or.inl ⟨hjn, _, by rw [if_pos (by omega), imR_r l3 hso h.ok es0 e3 (by omega) (by omega), pb_1, u1_1, kd154, gd_t rfl, tapeB_n (ly1_0 l3) T3 hL (by omega) (by omega), pb_1, u1_1, ly154_1 l3, kd155, ga_t (by omega) (by omega), bd_1, ly154_2 l4, kd156, ga_t (by omega) (by omega), bd_1, ly154_3 l5, kd157, ga_t (by omega) (by omega), bd_1, e7, pb_1, u1_1, w32_s (v := (j : Int) + 1) (by omega) (by omega)], by simp, fun a i x => ?_, fun e e0 e1 => ?_⟩
      · exact (f7 a i (by omega) (by omega) (by omega)).trans ((f6 a i x).trans (f3 a i x))
      · by_cases z : e = j
        · rw [z]
          refine ⟨?_, k7, n7, g7⟩
          refine (f7 _ _ (by omega) (by omega) (by omega)).trans ?_
          rw [up_of (by decide), up_of (by decide), up_at]
          rfl
        · obtain ⟨q1, q2, q3, q4⟩ := g3 e e0 (by omega)
          refine ⟨?_, ?_, ?_, fun p p0 p1 p2 => ?_⟩
          · rw [← q1]; exact (f7 _ _ (by omega) (by omega) (by omega)).trans (by rw [up_of (by decide), up_of (by decide), up_oi z])
          · rw [← q2]; exact (f7 _ _ (by omega) (by omega) (by omega)).trans (by rw [up_of (by decide), up_oi z, up_of (by decide)])
          · rw [← q3]; exact (f7 _ _ (by omega) (by omega) (by omega)).trans (by rw [up_oi z, up_of (by decide), up_of (by decide)])
          · rw [← q4 p p0 p1 p2]; exact (f7 _ _ (by omega) (by omega) (by omega)).trans (by rw [up_of (by decide), up_of (by decide), up_of (by decide)])
    · have ej : (s 0 1).toNat = j := by omega
      exact Or.inr ⟨M3, by rw [if_neg (by omega)], f3, fun e e0 e1 => g3 e e0 (by omega)⟩
theorem CR_cl {M s d : AwM} {n : Int} {R : Int → AwM} {mi : AwM} (h : CR M s d n R mi) : CR (up_ M 26 2 0) s d 0 R mi := by
  have hso := h.cc.hso
  have hl : LAY (up_ M 26 2 0) := LAY_up h.lay (by decide +kernel)
  have e3 : up_ M 26 2 0 1 3 = M 1 3 := up_of (by decide)
  refine ⟨?_, ?_, ?_, own_fr h.ow (fun i => up_of (by decide)), ⟨?_, up_at, by decide, fun j x y => absurd x (by omega)⟩, h.mk, CMi_fr h.mi (fun i => up_of (by decide)) (fun i => up_of (by decide)) (fun i => up_of (by decide)) (fun a i _ _ => up_of (by omega))⟩
  · rw [e3]; exact CC_fr h.cc hl (up_of (by decide)) (fun a i _ _ _ => up_of (by omega)) (fun a i _ _ => up_of (by omega))
  · rw [e3, up_of (by decide)]; exact h.tr
  · rw [e3, up_of (by decide)]; exact h.dr
  · rw [up_oi (by decide)]; exact h.hi.1
theorem coinL_n {M s d mi : AwM} {b L c : Int} (h : MM M b 0 s d) (hT : mTp M mi L) (hB : ∀ i : Int, 0 ≤ i → i < L → 0 ≤ mi 14 i ∧ mi 14 i ≤ 255) (hL : L ≤ 1600) (c0 : 0 ≤ c) (c1 : c < s 0 1) (hLe : L = rwT s (s 0 1) + 1) (hd : M 197 1 = dyT mi) (hk : M 199 (12 + c) = 0) (hn : M 200 (12 + c) = 0) : ∃ r, lp (u2 (fX9_coinOn_L49 SH 167 c (rwT s c) (12 + c))) FU (0, M) = some r ∧ ((∃ M', r = .inl M' ∧ (∀ a i, ¬ (199 ≤ a ∧ a ≤ 200 ∧ i = 12 + c) → ¬ (a = 201 ∧ 120 + 10 * c ≤ i ∧ i < 120 + 10 * c + 10) → M' a i = M a i) ∧ allB (fun p => decide (mi 14 (rwT s c + 1 + p) ≤ 2 + min 200 (dyT mi))) (s 0 0).toNat = true ∧ M' 199 (12 + c) = onA s mi 2 c ∧ M' 200 (12 + c) = onA s mi 3 c ∧ ∀ p : Int, 0 ≤ p → p < s 0 0 → 2 ≤ mi 14 (rwT s c + 1 + p) → M' 201 (120 + (10 * c + p)) = onA s mi 4 (10 * c + p)) ∨ (∃ M', r = .inr M' ∧ (∀ a i, ¬ (199 ≤ a ∧ a ≤ 200 ∧ i = 12 + c) → ¬ (a = 201 ∧ 120 + 10 * c ≤ i ∧ i < 120 + 10 * c + 10) → M' a i = M a i) ∧ allB (fun p => decide (mi 14 (rwT s c + 1 + p) ≤ 2 + min 200 (dyT mi))) (s 0 0).toNat = false)) := by
  have hc := h.ok.c
  have hp := h.ok.p
  have hbb := h.b01
  have rb := rwT_b h.ok c0 (show c ≤ 12 by omega)
  have rm := rwT_m h.ok c1
  have t0 := hB 0 (by omega) (by omega)
  have t1 := hB 1 (by omega) (by omega)
  have db : 0 ≤ dyT mi ∧ dyT mi ≤ 65535 := by unfold dyT; omega
  refine lp_rel (body := u2 (fX9_coinOn_L49 SH 167 c (rwT s c) (12 + c))) (P := fun j (t : Int × AwM) => t.1 = (j : Int) ∧ (∀ a i, ¬ (199 ≤ a ∧ a ≤ 200 ∧ i = 12 + c) → ¬ (a = 201 ∧ 120 + 10 * c ≤ i ∧ i < 120 + 10 * c + 10) → t.2 a i = M a i) ∧ t.2 199 (12 + c) = accB (fun p => decide (2 ≤ mi 14 (rwT s c + 1 + p))) j ∧ t.2 200 (12 + c) = accB (fun p => decide (mi 14 (rwT s c + 1 + p) = 1)) j ∧ ∀ p : Int, 0 ≤ p → p < j → mi 14 (rwT s c + 1 + p) ≤ 2 + min 200 (dyT mi) ∧ (2 ≤ mi 14 (rwT s c + 1 + p) → t.2 201 (120 + (10 * c + p)) = onA s mi 4 (10 * c + p))) (X := _) (n := (s 0 0).toNat) ?_ FU (0, M) (FU_gt (by omega)) ⟨rfl, fun _ _ _ _ => rfl, hk, hn, fun p x y => absurd x (by omega)⟩
  rintro j ⟨i, M3⟩ hj ⟨hi, f3, k3, n3, g3⟩
  change i = (j : Int) at hi
  change ∀ a i, ¬ (199 ≤ a ∧ a ≤ 200 ∧ i = 12 + c) → ¬ (a = 201 ∧ 120 + 10 * c ≤ i ∧ i < 120 + 10 * c + 10) → M3 a i = M a i at f3
  change M3 199 (12 + c) = _ at k3
  change M3 200 (12 + c) = _ at n3
  change ∀ p : Int, 0 ≤ p → p < j → mi 14 (rwT s c + 1 + p) ≤ 2 + min 200 (dyT mi) ∧ (2 ≤ mi 14 (rwT s c + 1 + p) → M3 201 (120 + (10 * c + p)) = onA s mi 4 (10 * c + p)) at g3
  subst hi
  have l3 : LAY M3 := LAY_fr h.lay (fun a i ha => f3 a i (fun z => by
    have : a = 199 ∨ a = 200 := by omega
    exact nob_m a (by omega) ha) (fun z => nob_m a (by omega) ha))
  have e13 : M3 167 13 = b := (f3 _ _ (by omega) (by omega)).trans h.bk
  have e0 : M3 169 b = s 0 0 := (f3 _ _ (by omega) (by omega)).trans h.n0
  have T3 : mTp M3 mi L := fun i i0 i1 => by rw [f3 _ _ (by omega) (by omega)]; exact hT i i0 i1
  have ed : M3 197 1 = dyT mi := (f3 _ _ (by omega) (by omega)).trans hd
  rw [u2_1]
  unfold fX9_coinOn_L49
  rw [kd167, gd_t rfl, ly167_14 l3, kd169, e13, ga_t (by omega) (by omega), e0]
  by_cases hjn : j < (s 0 0).toNat
  · have tv := hB (rwT s c + 1 + (j : Int)) (by omega) (by omega)
    rw [if_pos (by omega), ly167_0 l3, kd168, w32_s (v := rwT s c + 1) (by omega) (by omega), w32_s (v := rwT s c + 1 + (j : Int)) (by omega) (by omega), ga_t (by omega) (by omega), T3 _ (by omega) (by omega), ly167_48 l3, kd197, gd_t (by decide), ed]
    have bad : ¬ mi 14 (rwT s c + 1 + (j : Int)) ≤ 2 + min 200 (dyT mi) → allB (fun p => decide (mi 14 (rwT s c + 1 + p) ≤ 2 + min 200 (dyT mi))) (s 0 0).toNat = false := fun w => allB_f (k := (j : Int)) (by omega) (by omega) (decide_eq_false w)
    by_cases a : 202 < mi 14 (rwT s c + 1 + (j : Int))
    · rw [if_pos a]
      exact Or.inr ⟨_, rfl, Or.inr ⟨M3, rfl, f3, bad (by omega)⟩⟩
    rw [if_neg a, w32_s (v := mi 14 (rwT s c + 1 + (j : Int)) - 2) (by omega) (by omega)]
    by_cases a2 : dyT mi < mi 14 (rwT s c + 1 + (j : Int)) - 2
    · rw [if_pos a2]
      exact Or.inr ⟨_, rfl, Or.inr ⟨M3, rfl, f3, bad (by omega)⟩⟩
    rw [if_neg a2, ly167_50 l3, kd199, ga_t (by omega) (by omega)]
    have st2 : accB (fun p => decide (2 ≤ mi 14 (rwT s c + 1 + p))) (j + 1) = if decide (2 ≤ mi 14 (rwT s c + 1 + (j : Int))) = true then stb (accB (fun p => decide (2 ≤ mi 14 (rwT s c + 1 + p))) j) (j : Int) else accB (fun p => decide (2 ≤ mi 14 (rwT s c + 1 + p))) j := rfl
    have st3 : accB (fun p => decide (mi 14 (rwT s c + 1 + p) = 1)) (j + 1) = if decide (mi 14 (rwT s c + 1 + (j : Int)) = 1) = true then stb (accB (fun p => decide (mi 14 (rwT s c + 1 + p) = 1)) j) (j : Int) else accB (fun p => decide (mi 14 (rwT s c + 1 + p) = 1)) j := rfl
    have kl := accB_lt (P := fun p => decide (2 ≤ mi 14 (rwT s c + 1 + p))) (i := j) (by omega)
    have nl := accB_lt (P := fun p => decide (mi 14 (rwT s c + 1 + p) = 1)) (i := j) (by omega)
    have fin : ∀ X Y : Int, X = accB (fun p => decide (2 ≤ mi 14 (rwT s c + 1 + p))) (j + 1) → Y = accB (fun p => decide (mi 14 (rwT s c + 1 + p) = 1)) (j + 1) → ∀ Z : Int, (2 ≤ mi 14 (rwT s c + 1 + (j : Int)) → Z = onA s mi 4 (10 * c + j)) → (j < (s 0 0).toNat ∧ ∃ s', (some (.inl ((j : Int) + 1, up_ (up_ (up_ M3 199 (12 + c) X) 200 (12 + c) Y) 201 (120 + 10 * c + (j : Int)) Z)) : Option ((Int × AwM) ⊕ (AwM ⊕ AwM))) = some (.inl s') ∧ s'.1 = ((j + 1 : Nat) : Int) ∧ (∀ a i, ¬ (199 ≤ a ∧ a ≤ 200 ∧ i = 12 + c) → ¬ (a = 201 ∧ 120 + 10 * c ≤ i ∧ i < 120 + 10 * c + 10) → s'.2 a i = M a i) ∧ s'.2 199 (12 + c) = accB (fun p => decide (2 ≤ mi 14 (rwT s c + 1 + p))) (j + 1) ∧ s'.2 200 (12 + c) = accB (fun p => decide (mi 14 (rwT s c + 1 + p) = 1)) (j + 1) ∧ ∀ p : Int, 0 ≤ p → p < ((j + 1 : Nat) : Int) → mi 14 (rwT s c + 1 + p) ≤ 2 + min 200 (dyT mi) ∧ (2 ≤ mi 14 (rwT s c + 1 + p) → s'.2 201 (120 + (10 * c + p)) = onA s mi 4 (10 * c + p))) := fun X Y hX hY Z hZ => by
      refine ⟨hjn, _, rfl, by simp, fun a i x y => ?_, ?_, ?_, fun p p0 p1 => ?_⟩
      · show up_ (up_ (up_ M3 199 (12 + c) X) 200 (12 + c) Y) 201 (120 + 10 * c + (j : Int)) Z a i = _
        exact (if_neg (by omega)).trans ((if_neg (by omega)).trans ((if_neg (by omega)).trans (f3 a i x y)))
      · show up_ (up_ (up_ M3 199 (12 + c) X) 200 (12 + c) Y) 201 (120 + 10 * c + (j : Int)) Z 199 (12 + c) = _
        rw [up_of (by decide), up_of (by decide), up_at]; exact hX
      · show up_ (up_ (up_ M3 199 (12 + c) X) 200 (12 + c) Y) 201 (120 + 10 * c + (j : Int)) Z 200 (12 + c) = _
        rw [up_of (by decide), up_at]; exact hY
      · by_cases z : p = j
        · rw [z]
          refine ⟨by omega, fun w => ?_⟩
          show up_ (up_ (up_ M3 199 (12 + c) X) 200 (12 + c) Y) 201 (120 + 10 * c + (j : Int)) Z 201 (120 + (10 * c + (j : Int))) = _
          rw [show 120 + (10 * c + (j : Int)) = 120 + 10 * c + (j : Int) by omega, up_at]
          exact hZ w
        · obtain ⟨q1, q2⟩ := g3 p p0 (by omega)
          refine ⟨q1, fun w => ?_⟩
          show up_ (up_ (up_ M3 199 (12 + c) X) 200 (12 + c) Y) 201 (120 + 10 * c + (j : Int)) Z 201 (120 + (10 * c + p)) = _
          rw [up_oi (by omega), up_of (by decide), up_of (by decide)]
          exact q2 w
    have j143 : ∀ (M4 : AwM) (X v : Int), LAY M4 → M4 = up_ M3 199 (12 + c) X → v = mi 14 (rwT s c + 1 + (j : Int)) → ∀ Y q : Int, or_ (accB (fun p => decide (mi 14 (rwT s c + 1 + p) = 1)) j) q = Y → fX9_coinOn_J143_49 SH M4 167 c (rwT s c) (12 + c) (j : Int) v 200 (12 + c) (accB (fun p => decide (mi 14 (rwT s c + 1 + p) = 1)) j) q = some (.inl ((j : Int) + 1, up_ (up_ (up_ M3 199 (12 + c) X) 200 (12 + c) Y) 201 (120 + 10 * c + (j : Int)) (if 1 < v then dyT mi - v + 2 else 0))) := fun M4 X v l4 hM4 hv Y q hY => by
      have l5 : LAY (up_ M4 200 (12 + c) Y) := LAY_ua l4 (by decide)
      have e5 : up_ M4 200 (12 + c) Y 197 1 = dyT mi := (up_of (by decide)).trans ((congrFun (congrFun hM4 197) 1).trans ((up_of (by decide)).trans ed))
      unfold fX9_coinOn_J143_49
      rw [kd200, ga_t (by omega) (by omega), hY, bd_1, kd167, gd_t rfl, ly167_48 l5, kd197, gd_t (by decide), ly167_52 l5, kd201, w32_s (v := 10 * c) (by omega) (by omega), w32_s (v := 120 + 10 * c) (by omega) (by omega), w32_s (v := 120 + 10 * c + (j : Int)) (by omega) (by omega), ga_t (by omega) (by omega), ga_t (by omega) (by omega), e5, w32_s (v := dyT mi - v) (by omega) (by omega), w32_s (v := dyT mi - v + 2) (by omega) (by omega), w32_s (v := (j : Int) + 1) (by omega) (by omega), bd_1, bd_1, hM4]
      by_cases z : 1 < v
      · rw [if_pos z, if_pos z]
      · rw [if_neg z, if_neg z]
    have j120 : ∀ (v : Int), v = mi 14 (rwT s c + 1 + (j : Int)) → ∀ X q : Int, or_ (accB (fun p => decide (2 ≤ mi 14 (rwT s c + 1 + p))) j) q = X → fX9_coinOn_J120_49 SH M3 167 c (rwT s c) (12 + c) (j : Int) v 199 (12 + c) (accB (fun p => decide (2 ≤ mi 14 (rwT s c + 1 + p))) j) q = some (.inl ((j : Int) + 1, up_ (up_ (up_ M3 199 (12 + c) X) 200 (12 + c) (accB (fun p => decide (mi 14 (rwT s c + 1 + p) = 1)) (j + 1))) 201 (120 + 10 * c + (j : Int)) (if 1 < v then dyT mi - v + 2 else 0))) := fun v hv X q hX => by
      have l4 : LAY (up_ M3 199 (12 + c) X) := LAY_ua l3 (by decide)
      unfold fX9_coinOn_J120_49
      rw [kd199, ga_t (by omega) (by omega), hX, bd_1, kd167, gd_t rfl, ly167_51 l4, kd200, ga_t (by omega) (by omega), show up_ M3 199 (12 + c) X 200 (12 + c) = accB (fun p => decide (mi 14 (rwT s c + 1 + p) = 1)) j from (up_of (by decide)).trans n3]
      by_cases z : v = 1
      · rw [if_pos z]
        refine j143 _ X v l4 rfl hv _ _ ?_
        rw [st3, if_pos (decide_eq_true (by omega)), stb_n nl.1 nl.2 (by omega) (by omega)]
      · rw [if_neg z]
        refine j143 _ X v l4 rfl hv _ _ ?_
        rw [st3, if_neg (by rw [decide_eq_true_iff]; omega), or0_ nl.1 nl.2]
    rw [k3]
    have hZ : 2 ≤ mi 14 (rwT s c + 1 + (j : Int)) → (if 1 < mi 14 (rwT s c + 1 + (j : Int)) then dyT mi - mi 14 (rwT s c + 1 + (j : Int)) + 2 else 0) = onA s mi 4 (10 * c + j) := fun w => by
      rw [if_pos (by omega), onA_4 (by omega) (by omega)]
      omega
    by_cases z : 1 < mi 14 (rwT s c + 1 + (j : Int))
    · rw [if_pos z, j120 _ rfl (accB (fun p => decide (2 ≤ mi 14 (rwT s c + 1 + p))) (j + 1)) _ (by rw [st2, if_pos (decide_eq_true (by omega)), stb_n kl.1 kl.2 (by omega) (by omega)])]
      exact Or.inl (fin _ _ rfl rfl _ hZ)
    · rw [if_neg z, j120 _ rfl (accB (fun p => decide (2 ≤ mi 14 (rwT s c + 1 + p))) (j + 1)) _ (by rw [st2, if_neg (by rw [decide_eq_true_iff]; omega), or0_ kl.1 kl.2])]
      exact Or.inl (fin _ _ rfl rfl _ hZ)
  · have ej : (s 0 0).toNat = j := by omega
    refine Or.inr ⟨_, by rw [if_neg (by omega)], Or.inl ⟨M3, rfl, f3, ?_, ?_, ?_, fun p p0 p1 p2 => (g3 p p0 (by omega)).2 p2⟩⟩
    · exact allB_iff.mpr (fun p p0 p1 => decide_eq_true (g3 p p0 (by omega)).1)
    · rw [k3, ← ej]; rfl
    · rw [n3, ← ej]; rfl
theorem coinOn_n {M s d mi : AwM} {b L c : Int} (h : MM M b 0 s d) (hT : mTp M mi L) (hB : ∀ i : Int, 0 ≤ i → i < L → 0 ≤ mi 14 i ∧ mi 14 i ≤ 255) (hL : L ≤ 1600) (c0 : 0 ≤ c) (c1 : c < s 0 1) (hLe : L = rwT s (s 0 1) + 1) (hd : M 197 1 = dyT mi) : ∃ M', fX9_coinOn SH M 167 c (rwT s c) = some (bi (okC s mi c), M') ∧ (∀ a i, ¬ (198 ≤ a ∧ a ≤ 200 ∧ i = 12 + c) → ¬ (a = 201 ∧ 120 + 10 * c ≤ i ∧ i < 120 + 10 * c + 10) → M' a i = M a i) ∧ (okC s mi c = true → M' 198 (12 + c) = onA s mi 1 c ∧ M' 199 (12 + c) = onA s mi 2 c ∧ M' 200 (12 + c) = onA s mi 3 c ∧ ∀ p : Int, 0 ≤ p → p < s 0 0 → 2 ≤ mi 14 (rwT s c + 1 + p) → M' 201 (120 + (10 * c + p)) = onA s mi 4 (10 * c + p)) := by
  have hc := h.ok.c
  have hp := h.ok.p
  have hbb := h.b01
  have rb := rwT_b h.ok c0 (show c ≤ 12 by omega)
  have rm := rwT_m h.ok c1
  have l4 : LAY (up_ M 198 (12 + c) (mi 14 (rwT s c))) := LAY_ua h.lay (by decide)
  have l7 : LAY (up_ (up_ M 198 (12 + c) (mi 14 (rwT s c))) 199 (12 + c) 0) := LAY_ua l4 (by decide)
  have l10 : LAY (up_ (up_ (up_ M 198 (12 + c) (mi 14 (rwT s c))) 199 (12 + c) 0) 200 (12 + c) 0) := LAY_ua l7 (by decide)
  have f10 : ∀ a i, ¬ (198 ≤ a ∧ a ≤ 200 ∧ i = 12 + c) → up_ (up_ (up_ M 198 (12 + c) (mi 14 (rwT s c))) 199 (12 + c) 0) 200 (12 + c) 0 a i = M a i := fun a i x => (if_neg (by omega)).trans ((if_neg (by omega)).trans (if_neg (by omega)))
  have h10 : MM (up_ (up_ (up_ M 198 (12 + c) (mi 14 (rwT s c))) 199 (12 + c) 0) 200 (12 + c) 0) b 0 s d := ⟨l10, (f10 _ _ (by omega)).trans h.bk, h.b01, h.l21, h.ok, h.ld, MS_fr h.ms (fun a i _ _ => f10 a i (by omega)), ML_fr h.ml h.ok (f10 _ _ (by omega)) (fun a i _ _ _ _ => f10 a i (by omega)) (fun i _ _ => f10 _ _ (by omega))⟩
  have T10 : mTp (up_ (up_ (up_ M 198 (12 + c) (mi 14 (rwT s c))) 199 (12 + c) 0) 200 (12 + c) 0) mi L := fun i i0 i1 => by rw [f10 _ _ (by omega)]; exact hT i i0 i1
  have e12 : w32 (12 + c) = 12 + c := w32_s (by omega) (by omega)
  unfold fX9_coinOn
  rw [kd167, gd_t rfl, ly167_0 h.lay, kd168, ga_t (by omega) (by omega), ly167_49 h.lay, kd198, e12, ga_t (by omega) (by omega), hT _ (by omega) (by omega), bd_1, ly167_50 l4, kd199, ga_t (by omega) (by omega), bd_1, ly167_51 l7, kd200, ga_t (by omega) (by omega), bd_1, ly167_0 l10, kd168, ga_t (by omega) (by omega), T10 _ (by omega) (by omega), (mis_n (c := 0) h10).2, pb_1, u1_1, bi_if]
  by_cases a : 0 ≤ mi 14 (rwT s c) ∧ mi 14 (rwT s c) < s 0 0
  · rw [if_pos (decide_eq_true a)]
    obtain ⟨r, e, hr⟩ := coinL_n (c := c) h10 T10 hB hL c0 c1 hLe ((f10 _ _ (by omega)).trans hd) (by rw [up_of (by decide), up_at]) up_at
    rw [e, pb_1]
    rcases hr with ⟨M', rfl, f', al, k', n', g'⟩ | ⟨M', rfl, f', al⟩
    · have fM : ∀ a i, ¬ (198 ≤ a ∧ a ≤ 200 ∧ i = 12 + c) → ¬ (a = 201 ∧ 120 + 10 * c ≤ i ∧ i < 120 + 10 * c + 10) → M' a i = M a i := fun a i x y => (f' a i (by omega) y).trans (f10 a i x)
      have l' : LAY M' := LAY_fr l10 (fun a i ha => f' a i (fun z => by
        have : a = 199 ∨ a = 200 := by omega
        exact nob_m a (by omega) ha) (fun z => nob_m a (by omega) ha))
      have hz2 : hz (onA s mi 2 c) (mi 14 (rwT s c)) = decide (2 ≤ mi 14 (rwT s c + 1 + mi 14 (rwT s c))) := by
        rw [hz_p a.1]
        have := accB_hb (fun p => decide (2 ≤ mi 14 (rwT s c + 1 + p))) a.1 (s 0 0).toNat
        rw [decide_eq_true (show mi 14 (rwT s c) < ((s 0 0).toNat : Int) by omega), Bool.true_and] at this
        exact this
      have oke : okC s mi c = hz (onA s mi 2 c) (mi 14 (rwT s c)) := by
        unfold okC
        rw [decide_eq_true a, al, Bool.true_and, Bool.and_true, hz2]
      refine ⟨M', ?_, fM, fun _ => ⟨?_, k', n', g'⟩⟩
      · show gd_ _ _ = _
        rw [ly167_50 l', kd199, ga_t (by omega) (by omega), ly167_0 l', kd168, ga_t (by omega) (by omega), k', show M' 168 (rwT s c) = mi 14 (rwT s c) from (fM _ _ (by omega) (by omega)).trans (hT _ (by omega) (by omega)), has2_n (show ms (s 0 0).toNat (onA s mi 2 c) from accB_ms _ _) (show (s 0 0).toNat ≤ 31 by omega) a.1 (by omega), pb_1, u1_1, gd_t (bi_01 _), oke]
      · rw [f' _ _ (by omega) (by omega), up_of (by decide), up_of (by decide), up_at]; rfl
    · refine ⟨M', ?_, fun a i x y => (f' a i (by omega) y).trans (f10 a i x), fun w => ?_⟩
      · have : okC s mi c = false := by unfold okC; rw [al, Bool.and_false, Bool.and_false]
        rw [this]; rfl
      · unfold okC at w
        rw [al, Bool.and_false, Bool.and_false] at w
        cases w
  · have : okC s mi c = false := by unfold okC; rw [decide_eq_false a, Bool.false_and]
    rw [if_neg (by rw [decide_eq_false a]; decide), this]
    exact ⟨_, rfl, fun a i x y => f10 a i x, fun w => by cases w⟩
theorem comesOn_n {M s d mi : AwM} {b L : Int} (h : MM M b 0 s d) (hT : mTp M mi L) (hB : ∀ i : Int, 0 ≤ i → i < L → 0 ≤ mi 14 i ∧ mi 14 i ≤ 255) (L0 : 0 ≤ L) (hL : L ≤ 1600) : ∃ M', fX9_comesOn SH M 167 L = some (bi (okI s mi L), M') ∧ mly 1 M' M ∧ (okI s mi L = true → ML M' 1 s (onA s mi)) := by
  have hc := h.ok.c
  have hp := h.ok.p
  have hbb := h.b01
  have rb := rwT_b h.ok hc.1 hc.2
  have hrw : w32 (3 + w32 (w32 (1 + s 0 0) * s 0 1)) = rwT s (s 0 1) + 1 := by
    have e : (1 + s 0 0) * s 0 1 = s 0 1 * (1 + s 0 0) := Int.mul_comm _ _
    unfold rwT at rb ⊢
    rw [w32_s (v := 1 + s 0 0) (by omega) (by omega), e, w32_s (v := s 0 1 * (1 + s 0 0)) (by omega) (by omega), w32_s (by omega) (by omega)]
    omega
  have rfM : mly 1 M M := fun _ _ _ _ _ => rfl
  unfold fX9_comesOn
  rw [kd167, gd_t rfl, ly167_14 h.lay, kd169, h.bk, ga_t (by omega) (by omega), ly167_16 h.lay, kd171, ga_t (by omega) (by omega), h.n0, h.n1, hrw]
  by_cases a : L = rwT s (s 0 1) + 1
  · have t0 := hB 0 (by omega) (by omega)
    have t1 := hB 1 (by omega) (by omega)
    have edy : or_ (sl_ (mi 14 0) 8) (mi 14 1) = dyT mi := dy_n t0.1 t0.2 t1.1 t1.2
    rw [if_pos a, ly167_0 h.lay, kd168, gd_t (by decide), gd_t (by decide), hT 0 (by omega) (by omega), hT 1 (by omega) (by omega), edy]
    by_cases b2 : 999 < dyT mi
    · rw [if_pos b2]
      have : okI s mi L = false := by unfold okI; rw [decide_eq_false (show ¬ dyT mi ≤ 999 by omega), Bool.false_and, Bool.and_false]
      rw [this]
      exact ⟨M, rfl, rfM, fun w => by cases w⟩
    · have key := lp_cnt (body := u2 (fX9_comesOn_L59 SH M 167 L (w32 (1 + s 0 0)))) (fun i => (ckS (mi 14) i, (i : Int))) (ckS (mi 14) (L - 1).toNat) (L - 1).toNat ?_ ?_ FU (FU_gt (by omega))
      · rw [if_neg b2, show ((103 : Int), (0 : Int)) = (ckS (mi 14) 0, ((0 : Nat) : Int)) from rfl, key, pb_1, u1_1, w32_s (v := L - 1) (by omega) (by omega), ga_t (by omega) (by omega), hT (L - 1) (by omega) (by omega)]
        by_cases ck : mi 14 (L - 1) = ckS (mi 14) (L - 1).toNat
        · obtain ⟨M1, e1, f1, g1⟩ := copies_n (A := 1) (B := 0) h.lay h.ok (by decide) (by decide) (by decide) (by decide) (by decide) h.ml
          have l1 : LAY M1 := LAY_mf h.lay (mly_mf f1)
          have l2 : LAY (up_ M1 197 1 (dyT mi)) := LAY_ua l1 (by decide)
          have f2 : mly 1 (up_ M1 197 1 (dyT mi)) M := fun a i x y z => (if_neg x).trans (f1 a i x y z)
          have okx : okI s mi L = allB (fun c => okC s mi c) (s 0 1).toNat := by
            unfold okI
            rw [decide_eq_true a, decide_eq_true (show dyT mi ≤ 999 by omega), decide_eq_true ck, Bool.true_and, Bool.true_and, Bool.and_true]
          have t0' : M1 168 0 = mi 14 0 := (f1 _ _ (by omega) (by omega) (by omega)).trans (hT 0 (by omega) (by omega))
          have t1' : M1 168 1 = mi 14 1 := (f1 _ _ (by omega) (by omega) (by omega)).trans (hT 1 (by omega) (by omega))
          rw [if_pos ck, e1, pb_1, u1_1, ly167_0 l1, kd168, gd_t (by decide), gd_t (by decide), ly167_48 l1, kd197, gd_t (by decide), t0', t1', edy, bd_1, okx]
          have key2 : ∃ r, lp (u2 (fX9_comesOn_L134 SH 167 (w32 (1 + s 0 0)))) FU (0, up_ M1 197 1 (dyT mi)) = some r ∧ ((∃ M', r = .inl M' ∧ mly 1 M' M ∧ M' 197 1 = dyT mi ∧ allB (fun c => okC s mi c) (s 0 1).toNat = true ∧ ∀ e : Int, 0 ≤ e → e < s 0 1 → M' 198 (12 + e) = onA s mi 1 e ∧ M' 199 (12 + e) = onA s mi 2 e ∧ M' 200 (12 + e) = onA s mi 3 e ∧ ∀ p : Int, 0 ≤ p → p < s 0 0 → 2 ≤ mi 14 (rwT s e + 1 + p) → M' 201 (120 + (10 * e + p)) = onA s mi 4 (10 * e + p)) ∨ (∃ M', r = .inr M' ∧ mly 1 M' M ∧ allB (fun c => okC s mi c) (s 0 1).toNat = false)) := by
            refine lp_rel (body := u2 (fX9_comesOn_L134 SH 167 (w32 (1 + s 0 0)))) (P := fun j (t : Int × AwM) => t.1 = (j : Int) ∧ mly 1 t.2 M ∧ t.2 197 1 = dyT mi ∧ ∀ e : Int, 0 ≤ e → e < j → okC s mi e = true ∧ t.2 198 (12 + e) = onA s mi 1 e ∧ t.2 199 (12 + e) = onA s mi 2 e ∧ t.2 200 (12 + e) = onA s mi 3 e ∧ ∀ p : Int, 0 ≤ p → p < s 0 0 → 2 ≤ mi 14 (rwT s e + 1 + p) → t.2 201 (120 + (10 * e + p)) = onA s mi 4 (10 * e + p)) (X := _) (n := (s 0 1).toNat) ?_ FU (0, up_ M1 197 1 (dyT mi)) (FU_gt (by omega)) ⟨rfl, f2, up_at (M := M1) (a := 197) (i := 1), fun e x y => absurd x (by omega)⟩
            rintro j ⟨i, M3⟩ hj ⟨hi, f3, d3, g3⟩
            change i = (j : Int) at hi
            change mly 1 M3 M at f3
            change M3 197 1 = dyT mi at d3
            change ∀ e : Int, 0 ≤ e → e < j → okC s mi e = true ∧ M3 198 (12 + e) = onA s mi 1 e ∧ M3 199 (12 + e) = onA s mi 2 e ∧ M3 200 (12 + e) = onA s mi 3 e ∧ ∀ p : Int, 0 ≤ p → p < s 0 0 → 2 ≤ mi 14 (rwT s e + 1 + p) → M3 201 (120 + (10 * e + p)) = onA s mi 4 (10 * e + p) at g3
            subst hi
            have l3 : LAY M3 := LAY_mf h.lay (mly_mf f3)
            have h3 : MM M3 b 0 s d := ⟨l3, (f3 _ _ (by omega) (by omega) (by omega)).trans h.bk, h.b01, h.l21, h.ok, h.ld, MS_fr h.ms (fun a i _ _ => f3 a i (by omega) (by omega) (by omega)), ML_fr h.ml h.ok (f3 _ _ (by omega) (by omega) (by omega)) (fun a i _ _ _ _ => f3 a i (by omega) (by omega) (by omega)) (fun i _ _ => f3 _ _ (by omega) (by omega) (by omega))⟩
            have T3 : mTp M3 mi L := fun i i0 i1 => by rw [f3 _ _ (by omega) (by omega) (by omega)]; exact hT i i0 i1
            rw [u2_1]
            unfold fX9_comesOn_L134
            rw [kd167, gd_t rfl, ly167_16 l3, kd171, h3.bk, ga_t (by omega) (by omega), h3.n1]
            by_cases hjn : j < (s 0 1).toNat
            · have rbj := rwT_b h.ok (show 0 ≤ (j : Int) by omega) (show (j : Int) ≤ 12 by omega)
              have hrj : w32 (2 + w32 (w32 (1 + s 0 0) * (j : Int))) = rwT s j := by
                have e : (1 + s 0 0) * (j : Int) = (j : Int) * (1 + s 0 0) := Int.mul_comm _ _
                unfold rwT at rbj ⊢
                rw [w32_s (v := 1 + s 0 0) (by omega) (by omega), e, w32_s (v := (j : Int) * (1 + s 0 0)) (by omega) (by omega), w32_s (by omega) (by omega)]
              obtain ⟨M4, e4, f4, g4⟩ := coinOn_n (c := (j : Int)) h3 T3 hB hL (by omega) (by omega) a d3
              have f5 : mly 1 M4 M := fun a i x y z => (f4 a i (by omega) (by omega)).trans (f3 a i x y z)
              rw [if_pos (by omega), hrj, e4, pb_1, u2_1, bi_if, w32_s (v := (j : Int) + 1) (by omega) (by omega)]
              by_cases z : okC s mi (j : Int) = true
              · rw [if_pos z]
                refine Or.inl ⟨hjn, _, rfl, by simp, f5, (f4 _ _ (by omega) (by omega)).trans d3, fun e e0 e1 => ?_⟩
                by_cases w : e = j
                · rw [w]; exact ⟨z, g4 z⟩
                · obtain ⟨q0, q1, q2, q3, q4⟩ := g3 e e0 (by omega)
                  exact ⟨q0, (f4 _ _ (by omega) (by omega)).trans q1, (f4 _ _ (by omega) (by omega)).trans q2, (f4 _ _ (by omega) (by omega)).trans q3, fun p p0 p1 p2 => (f4 _ _ (by omega) (by omega)).trans (q4 p p0 p1 p2)⟩
              · rw [if_neg z]
                exact Or.inr ⟨_, rfl, Or.inr ⟨M4, rfl, f5, allB_f (k := (j : Int)) (by omega) (by omega) (Bool.eq_false_iff.mpr z)⟩⟩
            · refine Or.inr ⟨_, by rw [if_neg (by omega)], Or.inl ⟨M3, rfl, f3, d3, ?_, fun e e0 e1 => (g3 e e0 (by omega)).2⟩⟩
              exact allB_iff.mpr (fun e e0 e1 => (g3 e e0 (by omega)).1)
          obtain ⟨r, er, hr⟩ := key2
          rw [er, pb_1]
          rcases hr with ⟨M', rfl, f', d', al, g'⟩ | ⟨M', rfl, f', al⟩
          · rw [al]
            refine ⟨M', rfl, f', fun _ => ⟨d', fun e x y => (g' e x y).1, fun e x y => (g' e x y).2.1, fun e x y => (g' e x y).2.2.1, fun e p x y z w k => ?_⟩⟩
            refine (g' e x y).2.2.2 p z w ?_
            have := accB_hb (fun p => decide (2 ≤ mi 14 (rwT s e + 1 + p))) z (s 0 0).toNat
            rw [show accB (fun p => decide (2 ≤ mi 14 (rwT s e + 1 + p))) (s 0 0).toNat = onA s mi 2 e from rfl, k] at this
            have := this.symm
            rw [Bool.and_eq_true, decide_eq_true_iff, decide_eq_true_iff] at this
            exact this.2
          · rw [al]
            exact ⟨M', rfl, f', fun w => by cases w⟩
        · have : okI s mi L = false := by unfold okI; rw [decide_eq_false ck, Bool.and_false, Bool.and_false, Bool.and_false]
          rw [if_neg ck, this]
          exact ⟨M, rfl, rfM, fun w => by cases w⟩
      · intro i hi
        have cb := ckS_b (mi 14) i
        have tb := hB i (by omega) (by omega)
        rw [u2_1]
        unfold fX9_comesOn_L59
        rw [w32_s (v := L - 1) (by omega) (by omega), if_pos (by omega), kd167, gd_t rfl, ly167_0 h.lay, kd168, ga_t (by omega) (by omega), hT _ (by omega) (by omega), w32_s (v := 5 * ckS (mi 14) i) (by omega) (by omega), w32_s (v := 5 * ckS (mi 14) i + mi 14 (i : Int)) (by omega) (by omega), Int.tmod_eq_emod_of_nonneg (by omega), bd_1, w32_s (v := (i : Int) + 1) (by omega) (by omega)]
        rfl
      · rw [u2_1]
        unfold fX9_comesOn_L59
        rw [w32_s (v := L - 1) (by omega) (by omega), if_neg (by omega)]
  · have : okI s mi L = false := by unfold okI; rw [decide_eq_false a, Bool.false_and]
    rw [if_neg a, this]
    exact ⟨M, rfl, rfM, fun w => by cases w⟩
theorem MR_cl {M s d : AwM} {n : Int} {R : Int → AwM} {mi : AwM} (h : MR M s d n R mi) : MR (up_ M 167 54 0) s d 0 R mi := by
  have hl : LAY (up_ M 167 54 0) := LAY_up h.lay (by decide +kernel)
  have e3 : up_ M 167 54 0 167 13 = M 167 13 := up_oi (by decide)
  refine ⟨?_, ⟨?_, up_at, by decide, fun j x y => absurd x (by omega)⟩, h.mk, MMi_fr h.mi (fun i _ => up_oi (by omega)) (fun i => up_of (by decide)) (fun i => up_of (by decide)) (fun i => up_of (by decide)) (fun i => up_of (by decide))⟩
  · rw [e3]; exact MM_fr h.mm hl (up_oi (by decide)) (fun a i _ _ => up_of (by omega)) (fun a i _ _ => up_of (by omega))
  · rw [up_oi (by decide)]; exact h.hi.1
theorem on_b {s d : AwM} {n : Int} {R : Int → AwM} {mi : AwM} : BSt (fun M => fX8_on SH M 1) (fun M => fX9_on SH M 167) s d n R mi := by
  by_cases hk : okI s mi (mi 14 (-1)) = true
  · refine ⟨1, s, onA s mi, 0, R, tln mi 0, fun M h => ?_, fun M h => ?_⟩
    · have hT : cTp M mi (mi 14 (-1)) := fun i i0 i1 => ⟨h.mi.2.1 i i0 i1, h.mk.2.1 i i0 i1⟩
      have hlen := h.mi.1
      have hL := h.mk.1
      have h2 : CR (up_ M 1 1 0) s d n R (tln mi 0) := CR_tl (mi := mi) h (fun x i y z => if_neg z) up_at (by decide) (by decide) (fun i i0 i1 => absurd i0 (by omega)) (fun _ _ _ => rfl)
      have l2 := h2.lay
      have T2 : cTp (up_ M 1 1 0) mi (mi 14 (-1)) := fun i i0 i1 => by rw [up_of (by decide)]; exact hT i i0 i1
      have hc := h.cc.ok.c
      have rb := rwT_b h.cc.ok hc.1 hc.2
      obtain ⟨hLe, -, -⟩ := okI_t hk
      obtain ⟨M3, e3, c3, f3⟩ := onO_n h2.cc rfl T2 hL.2 hk
      have h3 := CR_of h2 f3 c3
      refine ⟨up_ M3 26 2 0, ?_, CR_cl h3, fun a i x => (up_of (by omega)).trans ((cfr_hi (Or.inl rfl) h2.cc.hso f3 a i x).trans (up_of (by omega)))⟩
      show fX8_on SH M 1 = _
      unfold fX8_on fX2_clear
      rw [kd1, gd_t rfl, hlen, bd_1, tellI_n h2.cc rfl T2 hL.2, pb_1, u1_1, hk, bi_if, if_pos rfl, ly1_4 l2, kd153, gd_t rfl, tDay_n (ly1_0 l2) T2 hL.2 (by omega), pb_1, u1_1, ly153_0 l2, kd154, gd_t rfl, bd_1, e3, pb_1, u1_1, ly1_6 h3.lay, kd26, gd_t rfl, gd_t rfl, bd_1, pb_1, u1_1]
    · have hT : mTp M mi (mi 14 (-1)) := h.mi.2.1
      have hlen := h.mi.1
      have hL := h.mk.1
      have h2 : MR (up_ M 167 1 0) s d n R (tln mi 0) := MR_tl (mi := mi) h (fun x i y z => if_neg z) up_at (by decide) (by decide) (fun i i0 i1 => absurd i0 (by omega)) (fun i i0 i1 => absurd i0 (by omega)) (fun _ _ _ => rfl)
      have T2 : mTp (up_ M 167 1 0) mi (mi 14 (-1)) := fun i i0 i1 => by rw [up_of (by decide)]; exact hT i i0 i1
      obtain ⟨M3, e3, f3, g3⟩ := comesOn_n h2.mm T2 h.mk.2.1 hL.1 hL.2
      have l3 : LAY M3 := LAY_mf h2.lay (mly_mf f3)
      obtain ⟨M4, e4, f4, g4⟩ := copies_n (A := 0) (B := 1) l3 h.mm.ok (by decide) (by decide) (by decide) (by decide) (by decide) (g3 hk)
      have l4 : LAY M4 := LAY_mf l3 (mly_mf f4)
      have fM : ∀ a i, ¬ (197 ≤ a ∧ a ≤ 201) → M4 a i = up_ M 167 1 0 a i := fun a i x => (f4 a i (by omega) (by omega) (by omega)).trans (f3 a i (by omega) (by omega) (by omega))
      have h3 : MR M3 s d n R (tln mi 0) := MR_g h2 l3 (fun a i x1 x2 x3 x4 x5 x6 x7 => f3 a i x5 (by omega) (by omega)) h2.mk (MMi_fr h2.mi (fun i _ => f3 _ _ (by omega) (by omega) (by omega)) (fun i => f3 _ _ (by omega) (by omega) (by omega)) (fun i => f3 _ _ (by omega) (by omega) (by omega)) (fun i => f3 _ _ (by omega) (by omega) (by omega)) (fun i => f3 _ _ (by omega) (by omega) (by omega)))
      have h4 : MR M4 s (onA s mi) n R (tln mi 0) := MR_of h3 (mly_mf f4) (MM_of h3.mm (mly_mf f4) (LdOK_on h.mm.ok hk h.mk.2.1) g4)
      refine ⟨up_ M4 167 54 0, ?_, MR_cl h4, fun a i x => (up_of (by omega)).trans ((fM a i (by omega)).trans (up_of (by omega)))⟩
      show fX9_on SH M 167 = _
      unfold fX9_on
      rw [kd167, gd_t rfl, hlen, bd_1, e3, pb_1, u2_1, hk, bi_if, if_pos rfl, e4, pb_1, u1_1, bd_1]
  · refine ⟨0, s, d, n, R, rfu (tln mi 0) 5, fun M h => ?_, fun M h => ?_⟩
    · have hT : cTp M mi (mi 14 (-1)) := fun i i0 i1 => ⟨h.mi.2.1 i i0 i1, h.mk.2.1 i i0 i1⟩
      have hlen := h.mi.1
      have hL := h.mk.1
      have h2 : CR (up_ M 1 1 0) s d n R (tln mi 0) := CR_tl (mi := mi) h (fun x i y z => if_neg z) up_at (by decide) (by decide) (fun i i0 i1 => absurd i0 (by omega)) (fun _ _ _ => rfl)
      have T2 : cTp (up_ M 1 1 0) mi (mi 14 (-1)) := fun i i0 i1 => by rw [up_of (by decide)]; exact hT i i0 i1
      obtain ⟨M1, e1, h1, f1⟩ := refC h2 (k := 5) (by decide) (by decide)
      refine ⟨M1, ?_, h1, hif_tr (fun a i x => up_of (by omega)) f1⟩
      show fX8_on SH M 1 = _
      unfold fX8_on
      rw [kd1, gd_t rfl, hlen, bd_1, tellI_n h2.cc rfl T2 hL.2, pb_1, u1_1, bi_if, if_neg hk, e1, pb_1, u2_1]
    · have hT : mTp M mi (mi 14 (-1)) := h.mi.2.1
      have hlen := h.mi.1
      have hL := h.mk.1
      have h2 : MR (up_ M 167 1 0) s d n R (tln mi 0) := MR_tl (mi := mi) h (fun x i y z => if_neg z) up_at (by decide) (by decide) (fun i i0 i1 => absurd i0 (by omega)) (fun i i0 i1 => absurd i0 (by omega)) (fun _ _ _ => rfl)
      have T2 : mTp (up_ M 167 1 0) mi (mi 14 (-1)) := fun i i0 i1 => by rw [up_of (by decide)]; exact hT i i0 i1
      obtain ⟨M3, e3, f3, g3⟩ := comesOn_n h2.mm T2 h.mk.2.1 hL.1 hL.2
      have l3 : LAY M3 := LAY_mf h2.lay (mly_mf f3)
      have h3 : MR M3 s d n R (tln mi 0) := MR_g h2 l3 (fun a i x1 x2 x3 x4 x5 x6 x7 => f3 a i x5 (by omega) (by omega)) h2.mk (MMi_fr h2.mi (fun i _ => f3 _ _ (by omega) (by omega) (by omega)) (fun i => f3 _ _ (by omega) (by omega) (by omega)) (fun i => f3 _ _ (by omega) (by omega) (by omega)) (fun i => f3 _ _ (by omega) (by omega) (by omega)) (fun i => f3 _ _ (by omega) (by omega) (by omega)))
      obtain ⟨M1, e1, h1, f1⟩ := refM h3 (k := 5) (by decide) (by decide)
      refine ⟨M1, ?_, h1, lof_tr (fun a i x => (f3 a i (by omega) (by omega) (by omega)).trans (up_of (by omega))) f1⟩
      show fX9_on SH M 167 = _
      unfold fX9_on
      rw [kd167, gd_t rfl, hlen, bd_1, e3, pb_1, u2_1, bi_if, if_neg hk, e1, pb_1, u2_1, if_pos (by decide)]
end PON2
