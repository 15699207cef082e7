/-! the class's circle begins -/
section PCBG
variable {M : AwM} {cr so : Int}
def bfr (cr : Int) (M' M : AwM) : Prop := ∀ a i : Int, ¬ (a = cr ∧ i = 1) → ¬ (a = cr + 1 ∧ i = 0) → ¬ (cr + 2 ≤ a ∧ a ≤ cr + 5) → M' a i = M a i
theorem lay_bg : layT.all (fun q => decide (¬ (q.1 = 153 ∧ q.2.1 = 1) ∧ ¬ (q.1 = 160 ∧ q.2.1 = 1) ∧ ¬ (q.1 = 154 ∧ q.2.1 = 0) ∧ ¬ (q.1 = 161 ∧ q.2.1 = 0) ∧ ¬ (155 ≤ q.1 ∧ q.1 ≤ 158) ∧ ¬ (162 ≤ q.1 ∧ q.1 ≤ 165))) = true := by decide +kernel
theorem LAY_bg {M' : AwM} (hcr : cr = 153 ∨ cr = 160) (h : LAY M) (f : bfr cr M' M) : LAY M' := LAY_fq h (fun q hq => by
  have t := of_decide_eq_true (List.all_eq_true.mp lay_bg q hq)
  exact f _ _ (by omega) (by omega) (by omega))
/-- the days of meeting of one coin -/
theorem bmet_n {c : Int} (l : LAY M) (hcr : cr = 153 ∨ cr = 160) (c0 : 0 ≤ c) (c1 : c < 12) : ∃ M', lp (u2 (fX0_begin_L68 SH cr so c)) FU (0, M) = some M' ∧ (∀ p : Int, 0 ≤ p → p < 10 → M' (cr + 5) (10 * c + p) = 0) ∧ ∀ a i : Int, ¬ (a = cr + 5 ∧ 10 * c ≤ i ∧ i < 10 * c + 10) → M' a i = M a i := by
  refine lp_rel (body := u2 (fX0_begin_L68 SH cr so c)) (P := fun j (t : Int × AwM) => t.1 = (j : Int) ∧ (j : Int) ≤ 10 ∧ (∀ p : Int, 0 ≤ p → p < (j : Int) → t.2 (cr + 5) (10 * c + p) = 0) ∧ ∀ a i : Int, ¬ (a = cr + 5 ∧ 10 * c ≤ i ∧ i < 10 * c + 10) → t.2 a i = M a i) (X := fun M' => (∀ p : Int, 0 ≤ p → p < 10 → M' (cr + 5) (10 * c + p) = 0) ∧ ∀ a i : Int, ¬ (a = cr + 5 ∧ 10 * c ≤ i ∧ i < 10 * c + 10) → M' a i = M a i) (n := 10) ?_ FU (0, M) (FU_gt (by omega)) ⟨rfl, by decide, fun p x y => by omega, fun _ _ _ => rfl⟩
  rintro j ⟨v, W⟩ hj ⟨hv, hj10, hm, hf⟩
  dsimp only at hv hm hf
  subst hv
  rw [u2_1]
  unfold fX0_begin_L68
  by_cases z : (j : Int) < 10
  · have lW : LAY W := LAY_bg hcr l (fun a i _ _ r => hf a i (by omega))
    rw [if_pos z, kcr0 hcr, gd_t rfl, lcr0_0 lW hcr, kcr1 hcr, gd_t rfl, setMet_n lW hcr c0 c1 (by omega) z, pb_1, u1_1, w32_s (v := (j : Int) + 1) (by omega) (by omega)]
    refine Or.inl ⟨by omega, _, rfl, by show (j : Int) + 1 = _; omega, by omega, fun p x y => ?_, fun a i x => ?_⟩
    · dsimp only
      by_cases q : p = (j : Int)
      · rw [q, up_at]
      · rw [up_oi (by omega)]; exact hm p x (by omega)
    · dsimp only
      rw [up_nn (by omega)]; exact hf a i x
  · rw [if_neg z]
    exact Or.inr ⟨W, rfl, fun p x y => hm p x (by omega), hf⟩
theorem cbeg_n (l : LAY M) (hcr : cr = 153 ∨ cr = 160) (hso : so = 10 ∨ so = 137) : ∃ M', fX0_begin SH M cr so = some M' ∧ M' cr 1 = so ∧ M' (cr + 1) 0 = 0 ∧ (∀ c : Int, 0 ≤ c → c < 12 → (M' (cr + 2) c = M (so + 5) c ∧ M' (cr + 3) c = M (so + 6) c ∧ M' (cr + 4) c = M (so + 7) c) ∧ ∀ p : Int, 0 ≤ p → p < 10 → M' (cr + 5) (10 * c + p) = 0) ∧ bfr cr M' M := by
  have f0 : bfr cr (up_ (up_ M cr 1 so) (cr + 1) 0 0) M := fun a i p q _ => by rw [up_nn (by omega), up_nn (by omega)]
  have l0 := LAY_bg hcr l f0
  have l1 : LAY (up_ M cr 1 so) := LAY_bg hcr l (fun a i p q _ => by rw [up_nn (by omega)])
  have v1 : up_ (up_ M cr 1 so) (cr + 1) 0 0 cr 1 = so := by rw [up_of (by omega), up_at]
  have v2 : up_ (up_ M cr 1 so) (cr + 1) 0 0 (cr + 1) 0 = 0 := up_at
  have pre : ∀ R, pb (lp (u2 (fX0_begin_L15 SH cr so)) FU (0, up_ (up_ M cr 1 so) (cr + 1) 0 0)) (u1 (fun (tq31 : AwM) => some tq31)) = R → fX0_begin SH M cr so = R := fun R hR => by
    unfold fX0_begin
    rw [kcr0 hcr, gd_t rfl, bd_1, lcr0_0 l1 hcr, kcr1 hcr, gd_t rfl, bd_1]
    exact hR
  generalize up_ (up_ M cr 1 so) (cr + 1) 0 0 = M0 at *
  have key := lp_rel (body := u2 (fX0_begin_L15 SH cr so)) (P := fun j (t : Int × AwM) => t.1 = (j : Int) ∧ (j : Int) ≤ 12 ∧ (∀ c : Int, 0 ≤ c → c < (j : Int) → (t.2 (cr + 2) c = M (so + 5) c ∧ t.2 (cr + 3) c = M (so + 6) c ∧ t.2 (cr + 4) c = M (so + 7) c) ∧ ∀ p : Int, 0 ≤ p → p < 10 → t.2 (cr + 5) (10 * c + p) = 0) ∧ ∀ a i : Int, ¬ (cr + 2 ≤ a ∧ a ≤ cr + 5) → t.2 a i = M0 a i) (X := fun M' => (∀ c : Int, 0 ≤ c → c < 12 → (M' (cr + 2) c = M (so + 5) c ∧ M' (cr + 3) c = M (so + 6) c ∧ M' (cr + 4) c = M (so + 7) c) ∧ ∀ p : Int, 0 ≤ p → p < 10 → M' (cr + 5) (10 * c + p) = 0) ∧ ∀ a i : Int, ¬ (cr + 2 ≤ a ∧ a ≤ cr + 5) → M' a i = M0 a i) (n := 12) ?_ FU (0, M0) (FU_gt (by omega)) ⟨rfl, by decide, fun p x y => absurd y (by show ¬ p < 0; omega), fun _ _ _ => rfl⟩
  · obtain ⟨M', e, hv, hf⟩ := key
    exact ⟨M', pre _ (by rw [e, pb_1, u1_1]), by rw [hf _ _ (by omega)]; exact v1, by rw [hf _ _ (by omega)]; exact v2, hv, fun a i p q r => by rw [hf a i r, f0 a i p q r]⟩
  · rintro j ⟨v, W⟩ hj ⟨hv, hj12, hm, hf⟩
    dsimp only at hv hm hf
    subst hv
    rw [u2_1]
    unfold fX0_begin_L15
    by_cases z : (j : Int) < 12
    · have lW : LAY W := LAY_bg hcr l0 (fun a i _ _ r => hf a i r)
      have w5 : ∀ a : Int, so + 5 ≤ a → a ≤ so + 7 → W a (j : Int) = M a (j : Int) := fun a x y => by rw [hf a _ (by omega), f0 a _ (by omega) (by omega) (by omega)]
      have lA : LAY (up_ W (cr + 2) (j : Int) (W (so + 5) (j : Int))) := LAY_bg hcr lW (fun a i _ _ r => up_of (by omega))
      have lB : LAY (up_ (up_ W (cr + 2) (j : Int) (W (so + 5) (j : Int))) (cr + 3) (j : Int) (W (so + 6) (j : Int))) := LAY_bg hcr lA (fun a i _ _ r => up_of (by omega))
      have lC : LAY (up_ (up_ (up_ W (cr + 2) (j : Int) (W (so + 5) (j : Int))) (cr + 3) (j : Int) (W (so + 6) (j : Int))) (cr + 4) (j : Int) (W (so + 7) (j : Int))) := LAY_bg hcr lB (fun a i _ _ r => up_of (by omega))
      obtain ⟨W2, e2, m2, g2⟩ := bmet_n (so := so) (c := (j : Int)) lC hcr (by omega) z
      have eA : up_ W (cr + 2) (j : Int) (W (so + 5) (j : Int)) (so + 6) (j : Int) = W (so + 6) (j : Int) := up_of (by omega)
      have eB : up_ (up_ W (cr + 2) (j : Int) (W (so + 5) (j : Int))) (cr + 3) (j : Int) (W (so + 6) (j : Int)) (so + 7) (j : Int) = W (so + 7) (j : Int) := by rw [up_of (by omega), up_of (by omega)]
      rw [if_pos z, kcr0 hcr, gd_t rfl, lcr0_0 lW hcr, kcr1 hcr, gd_t rfl, kso0 hso, gd_t rfl, lso0_4 lW hso, kso5 hso, ga_t (by omega) (by omega), lcr1_1 lW hcr, kcr2 hcr, ga_t (by omega) (by omega), bd_1]
      rw [lcr0_0 lA hcr, kcr1 hcr, gd_t rfl, lso0_5 lA hso, kso6 hso, ga_t (by omega) (by omega), lcr1_2 lA hcr, kcr3 hcr, ga_t (by omega) (by omega), eA, bd_1]
      rw [lcr0_0 lB hcr, kcr1 hcr, gd_t rfl, lso0_6 lB hso, kso7 hso, ga_t (by omega) (by omega), lcr1_3 lB hcr, kcr4 hcr, ga_t (by omega) (by omega), eB, bd_1, e2, pb_1, u1_1, w32_s (v := (j : Int) + 1) (by omega) (by omega)]
      refine Or.inl ⟨by omega, _, rfl, by show (j : Int) + 1 = _; omega, by omega, fun c x y => ?_, fun a i x => ?_⟩
      · dsimp only
        by_cases q : c = (j : Int)
        · subst q
          refine ⟨⟨?_, ?_, ?_⟩, m2⟩
          · rw [g2 _ _ (by omega), up_of (by omega), up_of (by omega), up_at]; exact w5 _ (by omega) (by omega)
          · rw [g2 _ _ (by omega), up_of (by omega), up_at]; exact w5 _ (by omega) (by omega)
          · rw [g2 _ _ (by omega), up_at]; exact w5 _ (by omega) (by omega)
        · obtain ⟨⟨a1, a2, a3⟩, a4⟩ := hm c x (by omega)
          refine ⟨⟨?_, ?_, ?_⟩, fun p u w => ?_⟩
          · rw [g2 _ _ (by omega), up_of (by omega), up_of (by omega), up_oi q]; exact a1
          · rw [g2 _ _ (by omega), up_of (by omega), up_oi q, up_of (by omega)]; exact a2
          · rw [g2 _ _ (by omega), up_oi q, up_of (by omega), up_of (by omega)]; exact a3
          · rw [g2 _ _ (by omega), up_of (by omega), up_of (by omega), up_of (by omega)]; exact a4 p u w
      · dsimp only
        rw [g2 _ _ (by omega), up_of (by omega), up_of (by omega), up_of (by omega)]; exact hf a i x
    · rw [if_neg z]
      exact Or.inr ⟨W, rfl, fun c x y => hm c x (by omega), hf⟩
end PCBG
