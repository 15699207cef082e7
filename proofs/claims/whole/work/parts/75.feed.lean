/-! the tape: seed, end, feed alike -/
section PFEED
theorem mask32 (x m : Int32) {k : Nat} (hk : k < 31) (hm : m.toBitVec.toNat = 2 ^ k - 1) : (x &&& m).toInt = x.toInt % 2 ^ k := by
  have e : (x &&& m).toInt = (x.toBitVec &&& m.toBitVec).toInt := rfl
  have hp : (2 : Nat) ^ k ≤ 2 ^ 30 := Nat.pow_le_pow_right (by decide) (by omega)
  have hpos : 0 < (2 : Nat) ^ k := Nat.pow_pos (by decide)
  have n1 : (x.toBitVec &&& m.toBitVec).toNat = x.toBitVec.toNat % 2 ^ k := by rw [BitVec.toNat_and, hm, Nat.and_two_pow_sub_one_eq_mod]
  have hlt : x.toBitVec.toNat % 2 ^ k < 2 ^ k := Nat.mod_lt _ hpos
  rw [e, BitVec.toInt_eq_toNat_cond, n1, if_pos (by omega)]
  have e2 : x.toInt = Int.bmod x.toBitVec.toNat (2 ^ 32) := BitVec.toInt_eq_toNat_bmod _
  have hd : ((2 : Int) ^ k) ∣ ((2 ^ 32 : Nat) : Int) := by
    refine ⟨2 ^ (32 - k), ?_⟩
    rw [← Int.pow_add, show k + (32 - k) = 32 by omega]
    rfl
  rw [e2, Int.natCast_emod, Int.natCast_pow, ← Int.emod_emod_of_dvd (Int.bmod _ _) hd, Int.bmod_emod, Int.emod_emod_of_dvd _ hd]
  rfl
theorem an255 {x : Int} (h : I32 x) : an_ x 255 = x % 256 := by
  unfold an_
  rw [mask32 (i32 x) (i32 255) (k := 8) (by decide) (by decide), i32_i h]
  rfl
theorem w8_255 {x : Int} (h : I32 x) : w8_ (w8_ x) = w8_ (an_ x 255) := by
  rw [an255 h]
  unfold w8_
  omega
def fb (v k : Int) : Int := an_ (sr_ v (24 - 8 * k)) 255
theorem sr_in (v w : Int) : I32 (sr_ v w) := i32_r _
theorem fb_b (v k : Int) : 0 ≤ fb v k ∧ fb v k ≤ 255 := by
  unfold fb
  rw [an255 (sr_in _ _)]
  omega
/-- four bytes of v from place L on -/
def pA (mi : AwM) (L v : Int) : AwM := fun x i => if x = 14 ∧ L ≤ i ∧ i < L + 4 then fb v (i - L) else mi x i
theorem pA_n {mi : AwM} {L v x i : Int} (h : x ≠ 14) : pA mi L v x i = mi x i := if_neg (fun z => h z.1)
theorem pA_lo {mi : AwM} {L v x i : Int} (h : i < L) : pA mi L v x i = mi x i := if_neg (fun z => by omega)
/-- the class's tape up to L -/
def cTp (M mi : AwM) (L : Int) : Prop := ∀ i : Int, 0 ≤ i → i < L → M 2 i = w8_ (mi 14 i) ∧ 0 ≤ mi 14 i ∧ mi 14 i ≤ 255
def mTp (M mi : AwM) (L : Int) : Prop := ∀ i : Int, 0 ≤ i → i < L → M 168 i = mi 14 i
theorem putN_n {M mi : AwM} {L v : Int} (l : LAY M) (L0 : 0 ≤ L) (L1 : L + 4 ≤ 1600) (h : cTp M mi L) : ∃ M', fX8_putNumber SH M 1 L v = some M' ∧ (∀ a i, a ≠ 2 → M' a i = M a i) ∧ cTp M' (pA mi L v) (L + 4) := by
  have key := lp_rel (body := u2 (fX8_putNumber_L2 SH 1 L v)) (P := fun j (t : Int × AwM) => t.1 = (j : Int) ∧ (∀ a i, a ≠ 2 → t.2 a i = M a i) ∧ ∀ i : Int, t.2 2 i = if L ≤ i ∧ i < L + j then w8_ (fb v (i - L)) else M 2 i) (X := fun r : AwM => (∀ a i, a ≠ 2 → r a i = M a i) ∧ ∀ i : Int, r 2 i = if L ≤ i ∧ i < L + 4 then w8_ (fb v (i - L)) else M 2 i) (n := 4) ?_ FU (0, M) (FU_gt (by omega)) ⟨rfl, fun _ _ _ => rfl, fun i => by rw [if_neg (by omega)]⟩
  · obtain ⟨M', e, f, g⟩ := key
    refine ⟨M', ?_, f, fun i i0 i1 => ?_⟩
    · unfold fX8_putNumber
      rw [e, pb_1, u1_1]
    · rw [g]
      by_cases c : L ≤ i
      · rw [if_pos (by omega), show pA mi L v 14 i = fb v (i - L) from if_pos ⟨rfl, c, i1⟩]
        exact ⟨rfl, fb_b _ _⟩
      · rw [if_neg (by omega), pA_lo (by omega)]
        exact h i i0 (by omega)
  · rintro j ⟨k, M1⟩ hj ⟨hk, f, g⟩
    change k = (j : Int) at hk
    change ∀ a i, a ≠ 2 → M1 a i = M a i at f
    change ∀ i : Int, M1 2 i = _ at g
    subst hk
    by_cases hj4 : j < 4
    · have e0 : M1 1 0 = 2 := (f _ _ (by decide)).trans (ly1_0 l)
      refine Or.inl ⟨hj4, ((j : Int) + 1, up_ M1 2 (L + j) (w8_ (fb v j))), ?_, by simp, fun a i x => (up_of x).trans (f a i x), fun i => ?_⟩
      · rw [u2_1]
        unfold fX8_putNumber_L2
        rw [if_pos (by omega), if_neg (by omega), w32_s (v := L + (j : Int)) (by omega) (by omega), if_pos (by omega), kd1, gd_t rfl, e0, kd2, ga_t (by omega) (by omega), w32_s (v := 8 * (j : Int)) (by omega) (by omega), w32_s (v := 24 - 8 * (j : Int)) (by omega) (by omega), bd_1, w32_s (by omega) (by omega), w8_255 (sr_in _ _)]
        rfl
      · show up_ M1 2 (L + j) (w8_ (fb v j)) 2 i = _
        by_cases c : i = L + j
        · rw [c, up_at, if_pos (by omega)]
          congr 2
          omega
        · rw [up_oi c, g]
          by_cases z : L ≤ i ∧ i < L + j
          · rw [if_pos z, if_pos (by omega)]
          · rw [if_neg z, if_neg (by omega)]
    · refine Or.inr ⟨M1, ?_, f, fun i => ?_⟩
      · rw [u2_1]
        unfold fX8_putNumber_L2
        rw [if_neg (by omega)]
      · rw [g, show ((j : Nat) : Int) = 4 by omega]
theorem put_n {M mi : AwM} {L v : Int} (l : LAY M) (L0 : 0 ≤ L) (L1 : L + 4 ≤ 1600) (h1 : M 167 1 = L) (h : mTp M mi L) : ∃ M', fX9_put SH M 167 v = some M' ∧ (∀ a i, a ≠ 168 → ¬ (a = 167 ∧ i = 1) → M' a i = M a i) ∧ M' 167 1 = L + 4 ∧ mTp M' (pA mi L v) (L + 4) := by
  have key := lp_rel (body := u2 (fX9_put_L3 SH 167 v)) (P := fun j (t : Int × AwM) => t.1 = 24 - 8 * (j : Int) ∧ (∀ a i, a ≠ 168 → ¬ (a = 167 ∧ i = 1) → t.2 a i = M a i) ∧ t.2 167 1 = L + j ∧ ∀ i : Int, t.2 168 i = if L ≤ i ∧ i < L + j then fb v (i - L) else M 168 i) (X := fun r : AwM => (∀ a i, a ≠ 168 → ¬ (a = 167 ∧ i = 1) → r a i = M a i) ∧ r 167 1 = L + 4 ∧ ∀ i : Int, r 168 i = if L ≤ i ∧ i < L + 4 then fb v (i - L) else M 168 i) (n := 4) ?_ FU (24, M) (FU_gt (by omega)) ⟨rfl, fun _ _ _ _ => rfl, by show M 167 1 = L + ((0 : Nat) : Int); rw [h1]; simp, fun i => by rw [if_neg (by omega)]⟩
  · obtain ⟨M', e, f, f1, g⟩ := key
    refine ⟨M', ?_, f, f1, fun i i0 i1 => ?_⟩
    · unfold fX9_put
      rw [e, pb_1, u1_1]
    · rw [g]
      by_cases c : L ≤ i
      · rw [if_pos (by omega), show pA mi L v 14 i = fb v (i - L) from if_pos ⟨rfl, c, i1⟩]
      · rw [if_neg (by omega), pA_lo (by omega)]
        exact h i i0 (by omega)
  · rintro j ⟨k, M1⟩ hj ⟨hk, f, f1, g⟩
    change k = 24 - 8 * (j : Int) at hk
    change ∀ a i, a ≠ 168 → ¬ (a = 167 ∧ i = 1) → M1 a i = M a i at f
    change M1 167 1 = L + j at f1
    change ∀ i : Int, M1 168 i = _ at g
    subst hk
    by_cases hj4 : j < 4
    · have e0 : M1 167 0 = 168 := (f _ _ (by decide) (by decide)).trans (ly167_0 l)
      refine Or.inl ⟨hj4, (24 - 8 * ((j : Int) + 1), up_ (up_ M1 168 (L + j) (fb v j)) 167 1 (L + j + 1)), ?_, by simp, fun a i x y => ?_, ?_, fun i => ?_⟩
      · rw [u2_1]
        unfold fX9_put_L3
        rw [if_neg (by omega), kd167, gd_t rfl, e0, kd168, f1, ga_t (by omega) (by omega), bd_1, up_of (by decide), f1, w32_s (v := L + (j : Int) + 1) (by omega) (by omega), bd_1, w32_s (by omega) (by omega)]
        rw [show 24 - 8 * (j : Int) + -8 = 24 - 8 * ((j : Int) + 1) by omega]
        rfl
      · exact (if_neg y).trans ((up_of x).trans (f a i x y))
      · show up_ (up_ M1 168 (L + j) (fb v j)) 167 1 (L + j + 1) 167 1 = _
        rw [up_at]; simp; omega
      · show up_ (up_ M1 168 (L + j) (fb v j)) 167 1 (L + j + 1) 168 i = _
        rw [up_of (by decide)]
        by_cases c : i = L + j
        · rw [c, up_at, if_pos (by omega)]
          congr 1
          omega
        · rw [up_oi c, g]
          by_cases z : L ≤ i ∧ i < L + j
          · rw [if_pos z, if_pos (by omega)]
          · rw [if_neg z, if_neg (by omega)]
    · refine Or.inr ⟨M1, ?_, f, ?_, fun i => ?_⟩
      · rw [u2_1]
        unfold fX9_put_L3
        rw [if_pos (by omega)]
      · rw [f1, show ((j : Nat) : Int) = 4 by omega]
      · rw [g, show ((j : Nat) : Int) = 4 by omega]
/-- the tape's length -/
def tln (mi : AwM) (v : Int) : AwM := up_ mi 14 (-1) v
def fdA (mi : AwM) (L a b c d e : Int) : AwM := tln (pA (pA (pA (pA (pA mi L a) (L + 4) b) (L + 8) c) (L + 12) d) (L + 16) e) (L + 20)
theorem MiOK_tl {mi mi' : AwM} {v : Int} (h : MiOK mi) (v0 : 0 ≤ v) (v1 : v ≤ 1600) (ht : ∀ i : Int, 0 ≤ i → i < v → 0 ≤ mi' 14 i ∧ mi' 14 i ≤ 255) (hx : ∀ x i, x ≠ 14 → mi' x i = mi x i) : MiOK (tln mi' v) := by
  obtain ⟨h1, h2, h3, h4, h5⟩ := h
  unfold MiOK tln
  rw [up_at, up_of (by decide), up_of (by decide), up_of (by decide), hx _ _ (by decide), hx _ _ (by decide), hx _ _ (by decide)]
  refine ⟨⟨v0, v1⟩, fun i i0 i1 => ?_, h3, h4, h5⟩
  rw [up_oi (by omega)]
  exact ht i i0 i1
theorem CR_tl {M M' s d : AwM} {n : Int} {R : Int → AwM} {mi mi' : AwM} {v : Int} (h : CR M s d n R mi) (hf : ∀ a i, a ≠ 2 → ¬ (a = 1 ∧ i = 1) → M' a i = M a i) (h1 : M' 1 1 = v) (v0 : 0 ≤ v) (v1 : v ≤ 1600) (ht : cTp M' mi' v) (hx : ∀ x i, x ≠ 14 → mi' x i = mi x i) : CR M' s d n R (tln mi' v) := by
  have hl : LAY M' := LAY_fq h.lay (fun q hq => by
    have h0 : layT.all (fun q => decide (q.1 ≠ 2 ∧ ¬ (q.1 = 1 ∧ q.2.1 = 1))) = true := by decide +kernel
    have := of_decide_eq_true (List.all_eq_true.mp h0 q hq)
    exact hf _ _ this.1 this.2)
  refine CR_mi h hl (fun a i x y _ _ _ _ => hf a i y (by omega)) (MiOK_tl h.mk v0 v1 (fun i a b => (ht i a b).2) hx) ?_
  obtain ⟨a1, a2, a3, a4, a5, a6, a7, a8, a9, a10⟩ := h.mi
  unfold tln CMi
  rw [up_at]
  simp only [up_of (show (15 : Int) ≠ 14 by decide), up_of (show (16 : Int) ≠ 14 by decide), up_of (show (17 : Int) ≠ 14 by decide), up_of (show (18 : Int) ≠ 14 by decide), up_of (show (19 : Int) ≠ 14 by decide), hx 15 _ (by decide), hx 16 _ (by decide), hx 17 _ (by decide), hx 18 _ (by decide), hx 19 _ (by decide)]
  rw [hf 3 4 (by decide) (by decide), hf 3 5 (by decide) (by decide), hf 1 10 (by decide) (by decide), hf 1 12 (by decide) (by decide), hf 1 13 (by decide) (by decide)]
  refine ⟨h1, fun i i0 i1 => ?_, a3, a4, a5, fun i i0 i1 => (hf _ _ (by omega) (by omega)).trans (a6 i i0 i1), a7, fun i i0 i1 => ?_, a9, fun i i0 i1 => (hf _ _ (by omega) (by omega)).trans (a10 i i0 i1)⟩
  · rw [up_oi (by omega)]; exact (ht i i0 i1).1
  · rw [hf _ _ (by omega) (by omega)]; exact a8 i i0 i1
theorem MR_tl {M M' s d : AwM} {n : Int} {R : Int → AwM} {mi mi' : AwM} {v : Int} (h : MR M s d n R mi) (hf : ∀ a i, a ≠ 168 → ¬ (a = 167 ∧ i = 1) → M' a i = M a i) (h1 : M' 167 1 = v) (v0 : 0 ≤ v) (v1 : v ≤ 1600) (ht : mTp M' mi' v) (hb' : ∀ i : Int, 0 ≤ i → i < v → 0 ≤ mi' 14 i ∧ mi' 14 i ≤ 255) (hx : ∀ x i, x ≠ 14 → mi' x i = mi x i) : MR M' s d n R (tln mi' v) := by
  have hl : LAY M' := LAY_fq h.lay (fun q hq => by
    have h0 : layT.all (fun q => decide (q.1 ≠ 168 ∧ ¬ (q.1 = 167 ∧ q.2.1 = 1))) = true := by decide +kernel
    have := of_decide_eq_true (List.all_eq_true.mp h0 q hq)
    exact hf _ _ this.1 this.2)
  refine MR_mi h hl (fun a i x y _ _ => hf a i y (by omega)) (MiOK_tl h.mk v0 v1 hb' hx) ?_
  obtain ⟨a1, a2, a3, a4, a5, a6, a7, a8, a9, a10⟩ := h.mi
  unfold tln MMi
  rw [up_at]
  simp only [up_of (show (15 : Int) ≠ 14 by decide), up_of (show (16 : Int) ≠ 14 by decide), up_of (show (17 : Int) ≠ 14 by decide), up_of (show (18 : Int) ≠ 14 by decide), up_of (show (19 : Int) ≠ 14 by decide), hx 15 _ (by decide), hx 16 _ (by decide), hx 17 _ (by decide), hx 18 _ (by decide), hx 19 _ (by decide)]
  rw [hf 167 10 (by decide) (by decide), hf 167 11 (by decide) (by decide), hf 167 67 (by decide) (by decide), hf 167 70 (by decide) (by decide), hf 167 55 (by decide) (by decide)]
  refine ⟨h1, fun i i0 i1 => ?_, a3, a4, a5, fun i i0 i1 => (hf _ _ (by omega) (by omega)).trans (a6 i i0 i1), a7, fun i i0 i1 => (hf _ _ (by omega) (by omega)).trans (a8 i i0 i1), a9, fun i i0 i1 => (hf _ _ (by omega) (by omega)).trans (a10 i i0 i1)⟩
  rw [up_oi (by omega)]; exact ht i i0 i1
theorem feed_b {s d : AwM} {n : Int} {R : Int → AwM} {mi : AwM} {a b c e g : Int} : BSt (fun M => fX8_feed SH M 1 a b c e g) (fun M => fX9_feed SH M 167 a b c e g) s d n R mi := by
  by_cases hL : mi 14 (-1) + 20 ≤ 1600
  · refine ⟨mi 14 (-1) + 20, s, d, n, R, fdA mi (mi 14 (-1)) a b c e g, fun M h => ?_, fun M h => ?_⟩
    · have l := h.lay
      have l0 := h.mk.1.1
      have hT : cTp M mi (mi 14 (-1)) := fun i i0 i1 => ⟨h.mi.2.1 i i0 i1, h.mk.2.1 i i0 i1⟩
      have hlen := h.mi.1
      have lf : ∀ M', (∀ a i, a ≠ 2 → M' a i = M a i) → LAY M' := fun M' f => LAY_fr l (fun a i ha => f a i (ob_ne ha (by decide)))
      generalize hl' : mi 14 (-1) = L at *
      obtain ⟨M1, e1, f1, t1⟩ := putN_n (v := a) l l0 (by omega) hT
      obtain ⟨M2, e2, f2, t2⟩ := putN_n (v := b) (lf _ f1) (show 0 ≤ L + 4 by omega) (by omega) t1
      have f2' : ∀ a i, a ≠ 2 → M2 a i = M a i := fun a i x => (f2 a i x).trans (f1 a i x)
      rw [show L + 4 + 4 = L + 8 by omega] at t2
      obtain ⟨M3, e3, f3, t3⟩ := putN_n (v := c) (lf _ f2') (show 0 ≤ L + 8 by omega) (by omega) t2
      have f3' : ∀ a i, a ≠ 2 → M3 a i = M a i := fun a i x => (f3 a i x).trans (f2' a i x)
      rw [show L + 8 + 4 = L + 12 by omega] at t3
      obtain ⟨M4, e4, f4, t4⟩ := putN_n (v := e) (lf _ f3') (show 0 ≤ L + 12 by omega) (by omega) t3
      have f4' : ∀ a i, a ≠ 2 → M4 a i = M a i := fun a i x => (f4 a i x).trans (f3' a i x)
      rw [show L + 12 + 4 = L + 16 by omega] at t4
      obtain ⟨M5, e5, f5, t5⟩ := putN_n (v := g) (lf _ f4') (show 0 ≤ L + 16 by omega) (by omega) t4
      have f5' : ∀ a i, a ≠ 2 → M5 a i = M a i := fun a i x => (f5 a i x).trans (f4' a i x)
      rw [show L + 16 + 4 = L + 20 by omega] at t5
      refine ⟨up_ M5 1 1 (L + 20), ?_, CR_tl (mi := mi) h (fun x i y z => (if_neg z).trans (f5' x i y)) up_at (by omega) (by omega) (fun i i0 i1 => by rw [up_of (by decide)]; exact t5 i i0 i1) (fun x i y => by rw [pA_n y, pA_n y, pA_n y, pA_n y, pA_n y]), fun x i y => (up_of (by omega)).trans (f5' x i (by omega))⟩
      show fX8_feed SH M 1 a b c e g = _
      unfold fX8_feed
      rw [kd1, gd_t rfl, hlen, w32_s (by omega) (by omega), if_neg (by omega), e1, pb_1, u1_1, f1 1 1 (by decide), hlen, w32_s (by omega) (by omega), e2, pb_1, u1_1, f2' 1 1 (by decide), hlen, w32_s (by omega) (by omega), e3, pb_1, u1_1, f3' 1 1 (by decide), hlen, w32_s (by omega) (by omega), e4, pb_1, u1_1, f4' 1 1 (by decide), hlen, w32_s (by omega) (by omega), e5, pb_1, u1_1, f5' 1 1 (by decide), hlen, w32_s (by omega) (by omega), bd_1, up_at]
    · have l := h.lay
      have l0 := h.mk.1.1
      have hT : mTp M mi (mi 14 (-1)) := h.mi.2.1
      have hlen := h.mi.1
      have lf : ∀ M', (∀ a i, a ≠ 168 → ¬ (a = 167 ∧ i = 1) → M' a i = M a i) → LAY M' := fun M' f => LAY_fq h.lay (fun q hq => by
        have h0 : layT.all (fun q => decide (q.1 ≠ 168 ∧ ¬ (q.1 = 167 ∧ q.2.1 = 1))) = true := by decide +kernel
        have := of_decide_eq_true (List.all_eq_true.mp h0 q hq)
        exact f _ _ this.1 this.2)
      have hbB := h.mk.2.1
      generalize hl' : mi 14 (-1) = L at *
      obtain ⟨M1, e1, f1, g1, t1⟩ := put_n (v := a) l l0 (by omega) hlen hT
      obtain ⟨M2, e2, f2, g2, t2⟩ := put_n (v := b) (lf _ f1) (show 0 ≤ L + 4 by omega) (by omega) g1 t1
      have f2' : ∀ a i, a ≠ 168 → ¬ (a = 167 ∧ i = 1) → M2 a i = M a i := fun a i x y => (f2 a i x y).trans (f1 a i x y)
      rw [show L + 4 + 4 = L + 8 by omega] at t2 g2
      obtain ⟨M3, e3, f3, g3, t3⟩ := put_n (v := c) (lf _ f2') (show 0 ≤ L + 8 by omega) (by omega) g2 t2
      have f3' : ∀ a i, a ≠ 168 → ¬ (a = 167 ∧ i = 1) → M3 a i = M a i := fun a i x y => (f3 a i x y).trans (f2' a i x y)
      rw [show L + 8 + 4 = L + 12 by omega] at t3 g3
      obtain ⟨M4, e4, f4, g4, t4⟩ := put_n (v := e) (lf _ f3') (show 0 ≤ L + 12 by omega) (by omega) g3 t3
      have f4' : ∀ a i, a ≠ 168 → ¬ (a = 167 ∧ i = 1) → M4 a i = M a i := fun a i x y => (f4 a i x y).trans (f3' a i x y)
      rw [show L + 12 + 4 = L + 16 by omega] at t4 g4
      obtain ⟨M5, e5, f5, g5, t5⟩ := put_n (v := g) (lf _ f4') (show 0 ≤ L + 16 by omega) (by omega) g4 t4
      have f5' : ∀ a i, a ≠ 168 → ¬ (a = 167 ∧ i = 1) → M5 a i = M a i := fun a i x y => (f5 a i x y).trans (f4' a i x y)
      rw [show L + 16 + 4 = L + 20 by omega] at t5 g5
      refine ⟨M5, ?_, MR_tl (mi := mi) h f5' g5 (by omega) (by omega) t5 (fun i i0 i1 => ?_) (fun x i y => by rw [pA_n y, pA_n y, pA_n y, pA_n y, pA_n y]), fun x i y => f5' x i (by omega) (by omega)⟩
      · show fX9_feed SH M 167 a b c e g = _
        unfold fX9_feed
        rw [kd167, gd_t rfl, hlen, w32_s (by omega) (by omega), if_neg (by omega), e1, pb_1, u1_1, e2, pb_1, u1_1, e3, pb_1, u1_1, e4, pb_1, u1_1, e5, pb_1, u1_1, g5]
      · have step : ∀ (m : AwM) (K v : Int), (∀ i : Int, 0 ≤ i → i < K → 0 ≤ m 14 i ∧ m 14 i ≤ 255) → ∀ i : Int, 0 ≤ i → i < K + 4 → 0 ≤ pA m K v 14 i ∧ pA m K v 14 i ≤ 255 := fun m K v hm i i0 i1 => by
          by_cases z : K ≤ i
          · rw [show pA m K v 14 i = fb v (i - K) from if_pos ⟨rfl, z, i1⟩]; exact fb_b _ _
          · rw [pA_lo (by omega)]; exact hm i i0 (by omega)
        have s1 := step mi L a hbB
        have s2 := step _ (L + 4) b s1
        rw [show L + 4 + 4 = L + 8 by omega] at s2
        have s3 := step _ (L + 8) c s2
        rw [show L + 8 + 4 = L + 12 by omega] at s3
        have s4 := step _ (L + 12) e s3
        rw [show L + 12 + 4 = L + 16 by omega] at s4
        exact step _ (L + 16) g s4 i i0 (by omega)
  · refine ⟨-1, s, d, n, R, rfu mi 0, fun M h => ?_, fun M h => ?_⟩
    · have l1 := h.mk.1
      obtain ⟨M1, e1, h1, f1⟩ := refC h (k := 0) (by decide) (by decide)
      refine ⟨M1, ?_, h1, f1⟩
      show fX8_feed SH M 1 a b c e g = _
      unfold fX8_feed
      rw [kd1, gd_t rfl, h.mi.1, w32_s (by omega) (by omega), if_pos (by omega), e1, pb_1, u2_1]
    · have l1 := h.mk.1
      obtain ⟨M1, e1, h1, f1⟩ := refM h (k := 0) (by decide) (by decide)
      refine ⟨M1, ?_, h1, f1⟩
      show fX9_feed SH M 167 a b c e g = _
      unfold fX9_feed
      rw [kd167, gd_t rfl, h.mi.1, w32_s (by omega) (by omega), if_pos (by omega), e1, pb_1, u2_1]
theorem end_b {s d : AwM} {n : Int} {R : Int → AwM} {mi : AwM} {v : Int} : BSt (fun M => fX8_end SH M 1 v) (fun M => fX9_end SH M 167 v) s d n R mi := by
  by_cases hv : v < 0 ∨ mi 14 (-1) < v
  · refine ⟨0, s, d, n, R, rfu mi 0, fun M h => ?_, fun M h => ?_⟩
    · obtain ⟨M1, e1, h1, f1⟩ := refC h (k := 0) (by decide) (by decide)
      refine ⟨M1, ?_, h1, f1⟩
      have e2 := (refuse_n h.lay (k := 0) (by decide) (by decide)).symm.trans e1
      have e3 := (Prod.mk.inj (Option.some.inj e2)).2
      show fX8_end SH M 1 v = _
      rw [end_n h.lay, h.mi.1, if_pos hv, e3]
    · obtain ⟨M1, e1, h1, f1⟩ := refM h (k := 0) (by decide) (by decide)
      refine ⟨M1, ?_, h1, f1⟩
      have e2 := (mrefuse_n h.lay (k := 0) (by decide) (by decide)).symm.trans e1
      have e3 := (Prod.mk.inj (Option.some.inj e2)).2
      show fX9_end SH M 167 v = _
      rw [mend_n h.lay, h.mi.1, if_pos hv, e3]
  · refine ⟨1, s, d, n, R, tln mi v, fun M h => ?_, fun M h => ?_⟩
    · have l1 := h.mk.1
      refine ⟨up_ M 1 1 v, ?_, CR_tl (mi := mi) h (fun x i y z => if_neg z) up_at (by omega) (by omega) (fun i i0 i1 => ?_) (fun _ _ _ => rfl), fun x i y => up_of (by omega)⟩
      · show fX8_end SH M 1 v = _
        rw [end_n h.lay, h.mi.1, if_neg hv]
      · rw [up_of (by decide)]
        exact ⟨h.mi.2.1 i i0 (by omega), h.mk.2.1 i i0 (by omega)⟩
    · have l1 := h.mk.1
      refine ⟨up_ M 167 1 v, ?_, MR_tl (mi := mi) h (fun x i y z => if_neg z) up_at (by omega) (by omega) (fun i i0 i1 => ?_) (fun i i0 i1 => h.mk.2.1 i i0 (by omega)) (fun _ _ _ => rfl), fun x i y => up_of (by omega)⟩
      · show fX9_end SH M 167 v = _
        rw [mend_n h.lay, h.mi.1, if_neg hv]
      · rw [up_of (by decide)]
        exact h.mi.2.1 i i0 (by omega)
theorem seed_b {s d : AwM} {n : Int} {R : Int → AwM} {mi : AwM} {v : Int} (hv : I32 v) : BSt (fun M => fX8_seed SH M 1 v) (fun M => fX9_seed SH M 167 v) s d n R mi := by
  by_cases h0 : v < 0
  · refine ⟨0, s, d, n, R, rfu mi 5, fun M h => ?_, fun M h => ?_⟩
    · obtain ⟨M1, e1, h1, f1⟩ := refC h (k := 5) (by decide) (by decide)
      refine ⟨M1, ?_, h1, f1⟩
      have e2 := (refuse_n h.lay (k := 5) (by decide) (by decide)).symm.trans e1
      have e3 := (Prod.mk.inj (Option.some.inj e2)).2
      show fX8_seed SH M 1 v = _
      rw [seed_n h.lay, if_pos h0, e3]
    · obtain ⟨M1, e1, h1, f1⟩ := refM h (k := 5) (by decide) (by decide)
      refine ⟨M1, ?_, h1, f1⟩
      have e2 := (mrefuse_n h.lay (k := 5) (by decide) (by decide)).symm.trans e1
      have e3 := (Prod.mk.inj (Option.some.inj e2)).2
      show fX9_seed SH M 167 v = _
      rw [mseed_n h.lay, if_pos h0, e3]
  · have hv2 := hv.2
    refine ⟨1, s, d, n, R, sdm mi v, fun M h => ?_, fun M h => ?_⟩
    · refine ⟨_, ?_, CR_sd h (by omega) hv2, fun a i y => up_of (by omega)⟩
      show fX8_seed SH M 1 v = _
      rw [seed_n h.lay, if_neg h0]
    · refine ⟨_, ?_, MR_sd h (by omega) hv2, fun a i y => up_of (by omega)⟩
      show fX9_seed SH M 167 v = _
      rw [mseed_n h.lay, if_neg h0]
end PFEED
