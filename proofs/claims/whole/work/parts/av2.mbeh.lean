/-! the model's society: the first ledger, its rest -/
section PMBH
variable {M : AwM} {b : Int}
theorem mbmt_n (l : LAY M) : ∃ M', lp (u2 (fX9_begin_L93 SH 167)) FU (0, M) = some M' ∧ (∀ c : Int, 0 ≤ c → c < 120 → M' 201 c = 0) ∧ ∀ a i : Int, ¬ (a = 201 ∧ 0 ≤ i ∧ i < 120) → M' a i = M a i := by
  refine lp_rel (body := u2 (fX9_begin_L93 SH 167)) (P := fun j (t : Int × AwM) => t.1 = (j : Int) ∧ (j : Int) ≤ 120 ∧ (∀ c : Int, 0 ≤ c → c < (j : Int) → t.2 201 c = 0) ∧ ∀ a i : Int, ¬ (a = 201 ∧ 0 ≤ i ∧ i < 120) → t.2 a i = M a i) (X := fun M' => (∀ c : Int, 0 ≤ c → c < 120 → M' 201 c = 0) ∧ ∀ a i : Int, ¬ (a = 201 ∧ 0 ≤ i ∧ i < 120) → M' a i = M a i) (n := 120) ?_ FU (0, M) (FU_gt (by omega)) ⟨rfl, by decide, fun p x y => absurd y (by show ¬ p < 0; omega), fun _ _ _ => rfl⟩
  rintro j ⟨v, W⟩ hj ⟨hv, hj12, hm, hf⟩
  dsimp only at hv hm hf
  subst hv
  rw [u2_1]
  unfold fX9_begin_L93
  by_cases z : (j : Int) < 120
  · have lW : LAY W := LAY_mgf l (fun a i _ _ _ x => hf a i x)
    rw [if_pos z, kd167, gd_t rfl, ly167_52 lW, kd201, ga_t (by omega) (by omega), bd_1, w32_s (v := (j : Int) + 1) (by omega) (by omega)]
    refine Or.inl ⟨by omega, _, rfl, by show (j : Int) + 1 = _; omega, by omega, fun c x y => ?_, fun a i x => ?_⟩
    · dsimp only
      by_cases q : c = (j : Int)
      · rw [q, up_at]
      · rw [up_oi q]; exact hm c x (by omega)
    · dsimp only
      rw [up_nn (by omega)]; exact hf a i x
  · rw [if_neg z]
    exact Or.inr ⟨W, rfl, fun c x y => hm c x (by omega), hf⟩
theorem mbeg_n (l : LAY M) (hb : b = 0 ∨ b = 1) (e : M 167 13 = b) : ∃ M', fX9_begin SH M 167 = some M' ∧ (M' 197 0 = 0 ∧ M' 167 54 = 0 ∧ M' 167 67 = 0) ∧ (∀ c : Int, 0 ≤ c → c < 12 → M' 198 c = M 173 (12 * b + c) ∧ M' 199 c = M 174 (12 * b + c) ∧ M' 200 c = M 175 (12 * b + c)) ∧ (∀ c : Int, 0 ≤ c → c < 120 → M' 201 c = 0) ∧ mgf M' M := by
  have f0 : mgf (up_ (up_ (up_ M 197 0 0) 167 54 0) 167 67 0) M := fun a i x y _ _ => by rw [up_nn (by omega), up_nn (by omega), up_nn (by omega)]
  have l0 := LAY_mgf l f0
  have v1 : up_ (up_ (up_ M 197 0 0) 167 54 0) 167 67 0 197 0 = 0 := by rw [up_of (by decide), up_of (by decide), up_at]
  have v2 : up_ (up_ (up_ M 197 0 0) 167 54 0) 167 67 0 167 54 = 0 := by rw [up_oi (by decide), up_at]
  have v3 : up_ (up_ (up_ M 197 0 0) 167 54 0) 167 67 0 167 67 = 0 := up_at
  have pre : ∀ R, pb (lp (u2 (fX9_begin_L19 SH 167)) FU (0, up_ (up_ (up_ M 197 0 0) 167 54 0) 167 67 0)) (u1 (fun (tq23 : AwM) => pb (lp (u2 (fX9_begin_L93 SH 167)) FU (0, tq23)) (u1 (fun (tq29 : AwM) => some tq29)))) = R → fX9_begin SH M 167 = R := fun R hR => by
    unfold fX9_begin
    rw [kd167, gd_t rfl, ly167_48 l, kd197, ga_t (by decide) (by decide), bd_1, bd_1, bd_1]
    exact hR
  generalize up_ (up_ (up_ M 197 0 0) 167 54 0) 167 67 0 = M0 at *
  obtain ⟨M1, e1, c1, g1⟩ := mbcp_n l0 hb ((f0 _ _ (by decide) (by decide) (by decide) (by decide)).trans e)
  have l1 : LAY M1 := LAY_mgf l0 (fun a i _ _ x _ => g1 a i x)
  obtain ⟨M2, e2, c2, g2⟩ := mbmt_n l1
  refine ⟨M2, pre _ (by rw [e1, pb_1, u1_1, e2, pb_1, u1_1]), ⟨?_, ?_, ?_⟩, fun c x y => ?_, c2, fun a i x y z w => ?_⟩
  · rw [g2 _ _ (by decide), g1 _ _ (by decide)]; exact v1
  · rw [g2 _ _ (by decide), g1 _ _ (by decide)]; exact v2
  · rw [g2 _ _ (by decide), g1 _ _ (by decide)]; exact v3
  · obtain ⟨a1, a2, a3⟩ := c1 c x y
    refine ⟨?_, ?_, ?_⟩
    · rw [g2 _ _ (by omega), a1]; exact f0 _ _ (by omega) (by omega) (by omega) (by omega)
    · rw [g2 _ _ (by omega), a2]; exact f0 _ _ (by omega) (by omega) (by omega) (by omega)
    · rw [g2 _ _ (by omega), a3]; exact f0 _ _ (by omega) (by omega) (by omega) (by omega)
  · rw [g2 a i w, g1 a i z]; exact f0 a i x y z w
end PMBH
