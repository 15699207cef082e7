/-! the model's society: the first ledger -/
section PMBG
variable {M : AwM} {b : Int}
def mgf (M' M : AwM) : Prop := ∀ a i : Int, ¬ (a = 197 ∧ i = 0) → ¬ (a = 167 ∧ (i = 54 ∨ i = 67)) → ¬ (198 ≤ a ∧ a ≤ 200 ∧ 0 ≤ i ∧ i < 12) → ¬ (a = 201 ∧ 0 ≤ i ∧ i < 120) → M' a i = M a i
theorem LAY_mgf {M' : AwM} (h : LAY M) (f : mgf M' M) : LAY M' := LAY_fq h (fun q hq => by
  have t := of_decide_eq_true (List.all_eq_true.mp lay_mso q hq)
  exact f _ _ (by omega) (by omega) (by omega) (by omega))
theorem w12_ {b : Int} (hb : b = 0 ∨ b = 1) : w32 (12 * b) = 12 * b := w32_s (by omega) (by omega)
theorem w12j_ {b j : Int} (hb : b = 0 ∨ b = 1) (h0 : 0 ≤ j) (h1 : j < 12) : w32 (12 * b + j) = 12 * b + j := w32_s (by omega) (by omega)
theorem wj1_ {j : Int} (h0 : 0 ≤ j) (h1 : j ≤ 1000) : w32 (j + 1) = j + 1 := w32_s (by omega) (by omega)
theorem mbcy_n {W : AwM} {j q : Int} (l : LAY W) (h13 : W 167 13 = b) (w1 : w32 (12 * b) = 12 * b) (w2 : w32 (12 * b + j) = q) (w3 : w32 (j + 1) = j + 1) (z : j < 12) (q0 : 0 ≤ q) (q1 : q < ((24 : Nat) : Int)) (j0 : 0 ≤ j) (j1 : j < ((264 : Nat) : Int)) : fX9_begin_L19 SH 167 j W = some (.inl (j + 1, up_ (up_ (up_ W 198 j (W 173 q)) 199 j (W 174 q)) 200 j (W 175 q))) := by
  have l1 : LAY (up_ W 198 j (W 173 q)) := LAY_ua l (by decide)
  have l2 : LAY (up_ (up_ W 198 j (W 173 q)) 199 j (W 174 q)) := LAY_ua l1 (by decide)
  have b1 : up_ W 198 j (W 173 q) 167 13 = b := (up_of (by decide)).trans h13
  have b2 : up_ (up_ W 198 j (W 173 q)) 199 j (W 174 q) 167 13 = b := (up_of (by decide)).trans b1
  have t1 : up_ W 198 j (W 173 q) 174 q = W 174 q := up_of (by decide)
  have t2 : up_ (up_ W 198 j (W 173 q)) 199 j (W 174 q) 175 q = W 175 q := (up_of (by decide)).trans (up_of (by decide))
  unfold fX9_begin_L19
  rw [if_pos z, kd167, gd_t rfl, ly167_18 l, kd173, h13, w1, w2, ga_t q0 q1, ly167_49 l, kd198, ga_t j0 j1, bd_1]
  rw [ly167_19 l1, kd174, b1, w1, w2, ga_t q0 q1, ly167_50 l1, kd199, ga_t j0 j1, t1, bd_1]
  rw [ly167_20 l2, kd175, b2, w1, w2, ga_t q0 q1, ly167_51 l2, kd200, ga_t j0 j1, t2, bd_1, w3]
theorem mbcp_n (l : LAY M) (hb : b = 0 ∨ b = 1) (e : M 167 13 = b) : ∃ M', lp (u2 (fX9_begin_L19 SH 167)) FU (0, M) = some M' ∧ (∀ c : Int, 0 ≤ c → c < 12 → M' 198 c = M 173 (12 * b + c) ∧ M' 199 c = M 174 (12 * b + c) ∧ M' 200 c = M 175 (12 * b + c)) ∧ ∀ a i : Int, ¬ (198 ≤ a ∧ a ≤ 200 ∧ 0 ≤ i ∧ i < 12) → M' a i = M a i := by
  refine lp_rel (body := u2 (fX9_begin_L19 SH 167)) (P := fun j (t : Int × AwM) => t.1 = (j : Int) ∧ (j : Int) ≤ 12 ∧ (∀ c : Int, 0 ≤ c → c < (j : Int) → t.2 198 c = M 173 (12 * b + c) ∧ t.2 199 c = M 174 (12 * b + c) ∧ t.2 200 c = M 175 (12 * b + c)) ∧ ∀ a i : Int, ¬ (198 ≤ a ∧ a ≤ 200 ∧ 0 ≤ i ∧ i < 12) → t.2 a i = M a i) (X := fun M' => (∀ c : Int, 0 ≤ c → c < 12 → M' 198 c = M 173 (12 * b + c) ∧ M' 199 c = M 174 (12 * b + c) ∧ M' 200 c = M 175 (12 * b + c)) ∧ ∀ a i : Int, ¬ (198 ≤ a ∧ a ≤ 200 ∧ 0 ≤ i ∧ i < 12) → M' a i = M a i) (n := 12) ?_ FU (0, M) (FU_gt (by omega)) ⟨rfl, by decide, fun p x y => absurd y (by show ¬ p < 0; omega), fun _ _ _ => rfl⟩
  rintro j ⟨v, W⟩ hj ⟨hv, hj12, hm, hf⟩
  dsimp only at hv hm hf
  subst hv
  rw [u2_1]
  by_cases z : (j : Int) < 12
  · have lW : LAY W := LAY_mgf l (fun a i _ _ x _ => hf a i x)
    have r13 : W 167 13 = b := (hf 167 13 (by decide)).trans e
    obtain ⟨q, hq⟩ : ∃ q : Int, 12 * b + (j : Int) = q := ⟨_, rfl⟩
    have st := mbcy_n lW r13 (w12_ hb) ((w12j_ hb (by omega) z).trans hq) (wj1_ (by omega) (by omega)) z (by omega) (by omega) (by omega) (by omega)
    clear r13
    refine Or.inl ⟨by omega, _, st, by show (j : Int) + 1 = _; omega, by omega, fun c x y => ?_, fun a i x => ?_⟩
    · dsimp only
      clear st
      by_cases qc : c = (j : Int)
      · subst qc
        rw [hq]
        refine ⟨?_, ?_, ?_⟩
        · rw [up_of (by decide), up_of (by decide), up_at]; exact hf 173 q (fun u => absurd u.1 (by decide))
        · rw [up_of (by decide), up_at]; exact hf 174 q (fun u => absurd u.1 (by decide))
        · rw [up_at]; exact hf 175 q (fun u => absurd u.1 (by decide))
      · obtain ⟨a1, a2, a3⟩ := hm c x (by omega)
        refine ⟨?_, ?_, ?_⟩
        · rw [up_of (by decide), up_of (by decide), up_oi qc]; exact a1
        · rw [up_of (by decide), up_oi qc, up_of (by decide)]; exact a2
        · rw [up_oi qc, up_of (by decide), up_of (by decide)]; exact a3
    · dsimp only
      clear st
      rw [up_nn (by omega), up_nn (by omega), up_nn (by omega)]; exact hf a i x
  · unfold fX9_begin_L19
    rw [if_neg z]
    exact Or.inr ⟨W, rfl, fun c x y => hm c x (by omega), hf⟩
end PMBG
