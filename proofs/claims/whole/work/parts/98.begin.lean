/-! the class's search begins -/
section PBEG
theorem begin_n {M : AwM} {so : Int} {s d : AwM} (g : CC M 153 so s d) {c : Int} (c0 : 0 ≤ c) (c1 : c < s 0 1) : ∃ M', fX7_begin SH M 128 153 c = some M' ∧ CQ M' (s 0 0) [] ∧ MEM M' s d c ∧ wf2 so M' M := by
  have hP := g.ok.p
  have hc := g.ok.c
  have hso := g.hso
  have hl := g.lay
  have f1 : wf2 so (up_ M 128 5 (s 0 0)) M := fun a i x y _ _ _ => up_nn (fun q => y ⟨q.1, Or.inr (Or.inl q.2)⟩)
  have g1 := CC_w2 g f1
  have h10 : 2 ^ (s 0 0).toNat ≤ 2 ^ 10 := Nat.pow_le_pow_right (by decide) (by omega)
  have hv : (s 0 0).toNat * 2 ^ (s 0 0).toNat ≤ 10 * 2 ^ 10 := Nat.mul_le_mul (by omega) h10
  have esl : sl_ (s 0 0) (s 0 0) = (((s 0 0).toNat * 2 ^ (s 0 0).toNat : Nat) : Int) := by
    have e : s 0 0 = (((s 0 0).toNat : Nat) : Int) := by omega
    rw [e, sl_n (by omega) (by omega), Int.toNat_natCast]
  have k1 := lp_rel (body := u2 (fX7_begin_L15 SH 128 153 c)) (P := fun j (t : Int × AwM) => t.1 = (j : Int) ∧ (∀ i : Int, 0 ≤ i → i < j → t.2 129 i = 0) ∧ t.2 128 5 = s 0 0 ∧ wf2 so t.2 M) (X := fun r : AwM => (∀ i : Int, 0 ≤ i → i < (((s 0 0).toNat * 2 ^ (s 0 0).toNat : Nat) : Int) → r 129 i = 0) ∧ r 128 5 = s 0 0 ∧ wf2 so r M) (n := (s 0 0).toNat * 2 ^ (s 0 0).toNat) ?_ FU (0, up_ M 128 5 (s 0 0)) (FU_gt (by omega)) ⟨rfl, fun i a b => by omega, up_at (M := M) (a := 128) (i := 5) (v := s 0 0), f1⟩
  · obtain ⟨M2, e2, v2, p2, f2⟩ := k1
    have g2 := CC_w2 g f2
    have k3 := lp_rel (body := u2 (fJ7_fill_53178_L5 SH 131 0 1000)) (P := fun j (t : Int × AwM) => t.1 = (j : Int) ∧ (∀ i : Int, 0 ≤ i → i < j → t.2 131 i = 0) ∧ ∀ a i : Int, a ≠ 131 → t.2 a i = M2 a i) (X := fun r : AwM => (∀ i : Int, 0 ≤ i → i < 1000 → r 131 i = 0) ∧ ∀ a i : Int, a ≠ 131 → r a i = M2 a i) (n := 1000) ?_ FU (0, M2) (FU_gt (by omega)) ⟨rfl, fun i a b => by omega, fun _ _ _ => rfl⟩
    · obtain ⟨M3, e3, v3, q3⟩ := k3
      have f4 : wf2 so (up_ M3 128 2 0) M := fun a i x y z w u => by
        rw [up_nn (fun q => y ⟨q.1, Or.inl q.2⟩), q3 a i (by omega)]
        exact f2 a i x y z w u
      have g4 := CC_w2 g f4
      have k5 := lp_rel (body := u2 (fX7_begin_L74 SH 128 153 (d 1 c))) (P := fun j (t : Int × AwM) => t.1 = (j : Int) ∧ (∀ w : Int, 0 ≤ w → w < j → t.2 132 w = cnH s d c w) ∧ (∀ a i : Int, a ≠ 132 → t.2 a i = up_ M3 128 2 0 a i)) (X := fun r : AwM => (∀ w : Int, 0 ≤ w → w < 10 → r 132 w = cnH s d c w) ∧ (∀ a i : Int, a ≠ 132 → r a i = up_ M3 128 2 0 a i)) (n := 10) ?_ FU (0, up_ M3 128 2 0) (FU_gt (by omega)) ⟨rfl, fun i a b => by omega, fun _ _ _ => rfl⟩
      · obtain ⟨M5, e5, v5, q5⟩ := k5
        refine ⟨M5, ?_, ⟨?_, ?_, fun k x hx => by simp at hx, fun x hx => absurd hx (List.not_mem_nil), fun w m w0 w1 hm _ => ?_⟩, ⟨fun w w0 w1 => v5 w w0 (by omega), fun w k b w0 w1 k0 k1 b0 b1 => Or.inl ?_⟩, fun a i x y z w u => ?_⟩
        · have h0 : M (so + 1) 0 = s 0 0 := g.n0
          have h1c : up_ M3 128 2 0 155 c = d 1 c := g4.ho c0 c1
          unfold fX7_begin
          rw [kd153, gd_t rfl, g.ref, kso0 hso, gd_t rfl, lso0_0 hl hso, kso1 hso, ga_t (by decide) (by decide), kd128, gd_t rfl, h0, bd_1, e2, pb_1, u1_1]
          unfold fX7_begin_J48 fJ7_fill_53178
          rw [kd128, gd_t rfl, ly128_3 g2.lay, kd131, gd_t (by decide), show (((1, 1000) : Nat × Nat).2 : Int) = 1000 from rfl, e3, pb_1, u1_1, pb_1, u1_1, bd_1, kd153, gd_t rfl, ly153_0 g4.lay, kd154, gd_t rfl, ly154_1 g4.lay, kd155, ga_t c0 (by omega), h1c, e5, pb_1, u1_1]
        · rw [q5 _ _ (by decide), up_oi (by decide), q3 _ _ (by decide)]; exact p2
        · rw [q5 _ _ (by decide), up_at]; rfl
        · obtain ⟨a, rfl, ha⟩ := ms_n.mp hm
          rw [q5 _ _ (by decide), up_of (by decide), q3 _ _ (by decide)]
          refine v2 _ (cdC_n hP w0 w1 hm).2.1 ?_
          unfold cdC
          rw [Int.toNat_natCast]
          have : (w.toNat + 1) * 2 ^ (s 0 0).toNat ≤ (s 0 0).toNat * 2 ^ (s 0 0).toNat := Nat.mul_le_mul_right _ (by omega)
          rw [Nat.add_mul, Nat.one_mul] at this
          omega
        · rw [q5 _ _ (by decide), up_of (by decide)]
          exact v3 _ (by omega) (by omega)
        · rw [q5 a i (by omega)]
          exact f4 a i x y z w u
      · rintro j ⟨i, M6⟩ hj ⟨hi, v6, q6⟩
        change i = (j : Int) at hi
        change ∀ w : Int, 0 ≤ w → w < j → M6 132 w = cnH s d c w at v6
        change ∀ a i : Int, a ≠ 132 → M6 a i = up_ M3 128 2 0 a i at q6
        subst hi
        have f6 : wf2 so M6 M := fun a i x y z w u => (q6 a i (by omega)).trans (f4 a i x y z w u)
        have g6 := CC_w2 g f6
        have cn := cnH_n (d := d) g.ok (w := (j : Int)) c0 c1
        have pb' := pc_b (hld s d (j : Int))
        rw [u2_1]
        unfold fX7_begin_L74
        by_cases hjn : j < 10
        · refine Or.inl ⟨hjn, ?_⟩
          have fin : ∀ v : Int, v = cnH s d c (j : Int) → (∀ w : Int, 0 ≤ w → w < ((j + 1 : Nat) : Int) → up_ M6 132 (j : Int) v 132 w = cnH s d c w) ∧ ∀ a i : Int, a ≠ 132 → up_ M6 132 (j : Int) v a i = up_ M3 128 2 0 a i := fun v hv => ⟨fun w w0 w1 => by
            by_cases e : w = (j : Int)
            · rw [e, up_at]; exact hv
            · rw [up_oi e]; exact v6 w w0 (by omega), fun a i ha => (up_of ha).trans (q6 a i ha)⟩
          rw [if_pos (by omega), kd128, gd_t rfl, kd153, gd_t rfl, hld_n g6, pb_1, u1_1, bc_n (hld_ms g.ok), pb_1, u1_1, w32_s (v := (j : Int) + 1) (by omega) (by omega)]
          by_cases e : (j : Int) = d 1 c
          · rw [if_pos e] at cn ⊢
            rw [ly128_4 g6.lay, kd132, ga_t (by omega) (by omega), bd_1, w32_s (v := pc (hld s d (j : Int)) + 0) (by omega) (by omega)]
            exact ⟨_, rfl, by simp, fin _ cn.1.symm⟩
          · rw [if_neg e] at cn ⊢
            rw [ly128_4 g6.lay, kd132, ga_t (by omega) (by omega), bd_1, w32_s (v := pc (hld s d (j : Int)) + 1) (by omega) (by omega)]
            exact ⟨_, rfl, by simp, fin _ cn.1.symm⟩
        · rw [if_neg (by omega)]
          exact Or.inr ⟨M6, rfl, fun w w0 w1 => v6 w w0 (by omega), q6⟩
    · rintro j ⟨i, M6⟩ hj ⟨hi, v6, q6⟩
      change i = (j : Int) at hi
      change ∀ i : Int, 0 ≤ i → i < j → M6 131 i = 0 at v6
      change ∀ a i : Int, a ≠ 131 → M6 a i = M2 a i at q6
      subst hi
      rw [u2_1]
      unfold fJ7_fill_53178_L5
      by_cases hjn : j < 1000
      · rw [if_pos (by omega), kd131, ga_t (by omega) (by omega), bd_1, w32_s (v := (j : Int) + 1) (by omega) (by omega)]
        refine Or.inl ⟨hjn, _, rfl, by simp, fun i i0 i1 => ?_, fun a i ha => (up_of ha).trans (q6 a i ha)⟩
        show up_ M6 131 (j : Int) 0 131 i = 0
        by_cases e : i = (j : Int)
        · rw [e, up_at]
        · rw [up_oi e]; exact v6 i i0 (by omega)
      · rw [if_neg (by omega)]
        exact Or.inr ⟨M6, rfl, fun i i0 i1 => v6 i i0 (by omega), q6⟩
  · rintro j ⟨i, M6⟩ hj ⟨hi, v6, p6, f6⟩
    change i = (j : Int) at hi
    change ∀ i : Int, 0 ≤ i → i < j → M6 129 i = 0 at v6
    change M6 128 5 = s 0 0 at p6
    change wf2 so M6 M at f6
    subst hi
    have g6 := CC_w2 g f6
    rw [u2_1]
    unfold fX7_begin_L15
    rw [kd128, gd_t rfl, p6, esl]
    by_cases hjn : j < (s 0 0).toNat * 2 ^ (s 0 0).toNat
    · rw [if_pos (by omega), if_pos (by omega), ly128_0 g6.lay, kd129, ga_t (by omega) (by omega), bd_1, w32_s (v := (j : Int) + 1) (by omega) (by omega)]
      refine Or.inl ⟨hjn, _, rfl, by simp, fun i i0 i1 => ?_, (show up_ M6 129 (j : Int) 0 128 5 = s 0 0 from (up_of (show (128 : Int) ≠ 129 by decide)).trans p6), fun a i x y z w u => (up_of (by omega)).trans (f6 a i x y z w u)⟩
      show up_ M6 129 (j : Int) 0 129 i = 0
      by_cases e : i = (j : Int)
      · rw [e, up_at]
      · rw [up_oi e]; exact v6 i i0 (by omega)
    · rw [if_neg (by omega)]
      exact Or.inr ⟨M6, rfl, fun i i0 i1 => v6 i i0 (by omega), p6, f6⟩
end PBEG
