/-! the model reads a token -/
section PAHE
def MTp (M : AwM) (T : Int → Int) (L : Nat) : Prop := (M 167 2 = (L : Int) ∧ M 167 9 = -1) ∧ L ≤ 1600 ∧ ∀ i : Int, 0 ≤ i → i < (L : Int) → (0 ≤ T i ∧ T i ≤ 255) ∧ M 168 i = T i
def maf (M' M : AwM) : Prop := ∀ a i : Int, ¬ (a = 167 ∧ (3 ≤ i ∧ i ≤ 7 ∨ i = 12)) → M' a i = M a i
theorem maf_rf {M : AwM} : maf M M := fun _ _ _ => rfl
theorem maf_tr {M M1 M2 : AwM} (h : maf M1 M) (h' : maf M2 M1) : maf M2 M := fun a i p => (h' a i p).trans (h a i p)
theorem maf_up {M : AwM} {k v : Int} (h : 3 ≤ k ∧ k ≤ 7 ∨ k = 12) : maf (up_ M 167 k v) M := fun a i p => up_nn (fun z => p ⟨z.1, by rw [z.2]; exact h⟩)
theorem lay_ma : layT.all (fun q => decide (¬ (q.1 = 167 ∧ (1 ≤ q.2.1 ∧ q.2.1 ≤ 13 ∨ q.2.1 = 35 ∨ q.2.1 = 36 ∨ q.2.1 = 42 ∨ q.2.1 = 43 ∨ q.2.1 = 45 ∨ q.2.1 = 46)))) = true := by decide +kernel
theorem LAY_ma {M M' : AwM} (h : LAY M) (f : maf M' M) : LAY M' := LAY_fq h (fun q hq => by
  have t := of_decide_eq_true (List.all_eq_true.mp lay_ma q hq)
  exact f _ _ (by omega))
theorem MTp_ma {M M' : AwM} {T : Int → Int} {L : Nat} (h : MTp M T L) (f : maf M' M) : MTp M' T L := ⟨⟨(f _ _ (by omega)).trans h.1.1, (f _ _ (by omega)).trans h.1.2⟩, h.2.1, fun i a b => ⟨(h.2.2 i a b).1, (f _ _ (by omega)).trans (h.2.2 i a b).2⟩⟩
/-- the model looks at token x -/
def MTK (M : AwM) (x : Tk) : Prop :=
  M 167 4 = (x.2.2.1 : Int) ∧ M 167 5 = (x.2.2.2.2 : Int) ∧ (x.1 = 5 → M 167 12 = (x.2.2.2.1 : Int) ∧ M 167 3 ≠ 0) ∧ (x.1 ≠ 5 → M 167 12 = -1) ∧
  (x.1 = 0 → M 167 3 = 0) ∧ (x.1 = 1 ∨ x.1 = 6 → M 167 3 = 3 ∧ M 167 6 = x.2.1) ∧ (x.1 = 2 → M 167 3 = 2 ∧ M 167 6 = x.2.1) ∧
  (x.1 = 3 → M 167 3 = 1 ∧ M 167 7 = n8f 8 x.2.1 0) ∧ (x.1 = 4 → M 167 3 = 1 ∧ M 167 7 = own8f x.2.1)
theorem mlet_n {sh : AwS} {M : AwM} {v : Int} : fX9_isLetter sh M v = some (bi (isL v)) := by
  unfold fX9_isLetter isL
  by_cases a : v < 97
  · rw [if_pos a, decide_eq_false (by omega)]; rfl
  · rw [if_neg a]
    by_cases b : 122 < v
    · rw [if_pos b, decide_eq_false (by omega)]; rfl
    · rw [if_neg b, decide_eq_true (by omega)]; rfl
theorem mdig_n {sh : AwS} {M : AwM} {v : Int} : fX9_isDigit sh M v = some (bi (isD v)) := by
  unfold fX9_isDigit isD
  by_cases a : v < 48
  · rw [if_pos a, decide_eq_false (by omega)]; rfl
  · rw [if_neg a]
    by_cases b : 57 < v
    · rw [if_pos b, decide_eq_false (by omega)]; rfl
    · rw [if_neg b, decide_eq_true (by omega)]; rfl
theorem w8_or {T : Int → Int} {i : Int} {m : Nat} (hm : m < 8) (h : ∀ k : Int, i ≤ k → k < i + ((m + 1 : Nat) : Int) → ltr (T k)) : orl_ (sll_ (w8 T i m 0) 8) (T (i + (m : Int))) = w8 T i (m + 1) 0 := by
  have l := h (i + (m : Int)) (by omega) (by omega)
  unfold ltr at l
  have b : 0 ≤ w8 T i m 0 ∧ w8 T i m 0 < 123 * 256 ^ 6 := by
    cases m with
    | zero => exact (show (0 : Int) ≤ 0 ∧ (0 : Int) < 123 * 256 ^ 6 by decide)
    | succ q =>
      have l0 := h i (by omega) (by omega)
      unfold ltr at l0
      have := w8_b (T := T) (256 * 0 + T i) q (i + 1) (fun k x y => h k (by omega) (by omega))
      have e : w8 T i (q + 1) 0 = w8 T (i + 1) q (256 * 0 + T i) := rfl
      have p : (256 : Int) ^ q ≤ 256 ^ 6 := by
        rcases (show q = 0 ∨ q = 1 ∨ q = 2 ∨ q = 3 ∨ q = 4 ∨ q = 5 ∨ q = 6 by omega) with z | z | z | z | z | z | z <;> rw [z] <;> decide
      have p0 : (0 : Int) < 256 ^ q := Int.pow_pos (by decide)
      rw [e]
      have m1 : (256 * 0 + T i + 1) * 256 ^ q ≤ 123 * 256 ^ q := Int.mul_le_mul_of_nonneg_right (by omega) (by omega)
      have m0 : 0 ≤ (256 * 0 + T i) * 256 ^ q := Int.mul_nonneg (by omega) (by omega)
      omega
  rw [w8_e]
  generalize w8 T i m 0 = x at *
  generalize T (i + (m : Int)) = y at *
  obtain ⟨a, rfl⟩ := Int.eq_ofNat_of_zero_le b.1
  obtain ⟨c, rfl⟩ := Int.eq_ofNat_of_zero_le (show 0 ≤ y by omega)
  rw [show (8 : Int) = ((8 : Nat) : Int) from rfl, sll_n (by omega) (by omega), orl_n (by omega) (by omega), Nat.mul_comm, ← Nat.two_pow_add_eq_or_of_lt (show c < 2 ^ 8 by omega)]
  omega
theorem mskip_n {M : AwM} {T : Int → Int} {L e : Nat} (hl : LAY M) (hT : MTp M T L) (he : e ≤ L) : lp (u1 (fX9_ahead_L5 SH M 167)) FU (e : Int) = some ((rnE isB T L e : Nat) : Int) := by
  obtain ⟨⟨hT2, _⟩, hL, hT⟩ := hT
  obtain ⟨a1, a2, a3, a4⟩ := rnE_p isB T L e
  have a2 := a2 he
  generalize rnE isB T L e = s at *
  have key := lp_rel (body := u1 (fX9_ahead_L5 SH M 167)) (P := fun j (t : Int) => t = ((e + j : Nat) : Int)) (X := fun r : Int => r = (s : Int)) (n := s - e) ?_ FU (e : Int) (FU_gt (by omega)) rfl
  · obtain ⟨r, er, rfl⟩ := key
    exact er
  · rintro j i hj rfl
    rw [u1_1]
    unfold fX9_ahead_L5
    rw [kd167, gd_t rfl, hT2, ly167_0 hl, kd168]
    by_cases hjn : j < s - e
    · have b := isB_t.mp (a3 (e + j) (by omega) (by omega))
      rw [if_pos (by omega), ga_t (by omega) (by omega), (hT _ (by omega) (by omega)).2, w32_s (v := ((e + j : Nat) : Int) + 1) (by omega) (by omega)]
      refine Or.inl ⟨hjn, _, ?_, rfl⟩
      by_cases c : T ((e + j : Nat) : Int) = 32
      · rw [if_pos c]; rfl
      · rw [if_neg c, if_pos (by omega)]; rfl
    · have ej : e + j = s := by omega
      rw [ej]
      by_cases z : (s : Int) < (L : Int)
      · have b := a4 (by omega)
        have nb : ¬ (T (s : Int) = 32 ∨ T (s : Int) = 10) := fun q => by rw [isB_t.mpr q] at b; exact absurd b (by decide)
        rw [if_pos z, ga_t (by omega) (by omega), (hT _ (by omega) z).2, if_neg (fun q => nb (Or.inl q)), if_neg (fun q => nb (Or.inr q))]
        exact Or.inr ⟨_, rfl, rfl⟩
      · rw [if_neg z]
        exact Or.inr ⟨_, rfl, rfl⟩
theorem m263 {M : AwM} {T : Int → Int} {s j : Nat} (hl : LAY M) (h7 : M 167 7 = w8 T (s : Int) (min j 8) 0) (ll : ∀ q : Int, (s : Int) ≤ q → q < (s : Int) + ((j + 1 : Nat) : Int) → ltr (T q)) (et : M 168 ((s + j : Nat) : Int) = T ((s + j : Nat) : Int)) (hs : s + j < 1600) : ∃ M', fX9_ahead_J263_204 SH M 167 ((s + j : Nat) : Int) 1 0 6 (j : Int) = some (.inl (((s + (j + 1) : Nat) : Int), ((j + 1 : Nat) : Int), M')) ∧ M' 167 7 = w8 T (s : Int) (min (j + 1) 8) 0 ∧ ∀ a i : Int, ¬ (a = 167 ∧ i = 7) → M' a i = M a i := by
  have w1 : w32 (((s + j : Nat) : Int) + 1) = ((s + (j + 1) : Nat) : Int) := by rw [w32_s (by omega) (by omega)]; omega
  have w2 : w32 ((j : Int) + 1) = ((j + 1 : Nat) : Int) := by rw [w32_s (by omega) (by omega)]; omega
  have k293 : ∀ M2 : AwM, fX9_ahead_J293_204 SH M2 167 ((s + j : Nat) : Int) 1 0 6 (j : Int) = some (.inl (((s + (j + 1) : Nat) : Int), ((j + 1 : Nat) : Int), M2)) := fun M2 => by
    unfold fX9_ahead_J293_204
    rw [w1, w2, if_pos (show (0 : Int) = 0 from rfl)]
    by_cases z6 : (j : Int) < 6
    · rw [if_pos z6]
    · rw [if_neg z6]
  unfold fX9_ahead_J263_204
  by_cases z8 : (j : Int) < 8
  · have eo := w8_or (T := T) (i := (s : Int)) (m := j) (by omega) ll
    rw [show (s : Int) + (j : Int) = ((s + j : Nat) : Int) by omega] at eo
    rw [show min j 8 = j by omega] at h7
    rw [if_pos z8, if_neg (show ¬ (1 : Int) = 0 by decide), kd167, gd_t rfl, ly167_0 hl, kd168, ga_t (by omega) (by omega), h7, et, eo, bd_1, k293]
    exact ⟨_, rfl, by rw [up_at, show min (j + 1) 8 = j + 1 by omega], fun a i p => up_nn p⟩
  · rw [if_neg z8, k293]
    exact ⟨M, rfl, by rw [show min (j + 1) 8 = min j 8 by omega]; exact h7, fun _ _ _ => rfl⟩
/-- the loop over a word -/
theorem mwl_n {M : AwM} {T : Int → Int} {L s : Nat} {l0 : Int} (hl : LAY M) (hT : MTp M T L) (hs : s < L) (h7 : M 167 7 = 0) (h12 : M 167 12 = l0) (hl0 : l0 = -1 ∨ l0 = (s : Int)) : ∃ M', lp (u3 (fX9_ahead_L204 SH 167 1 0 6)) FU ((s : Int), 0, M) = some (((rnE isL T L s : Nat) : Int), ((rnE isL T L s - s : Nat) : Int), M') ∧ M' 167 7 = w8 T (s : Int) (min (rnE isL T L s - s) 8) 0 ∧ M' 167 12 = (if l0 = -1 ∧ 6 < rnE isL T L s - s then (s : Int) + 6 else l0) ∧ ∀ a i : Int, ¬ (a = 167 ∧ (i = 7 ∨ i = 12)) → M' a i = M a i := by
  obtain ⟨⟨hT2, _⟩, hL, hTt⟩ := hT
  have ll := rnL_l (T := T) (L := L) (s := s)
  obtain ⟨a1, a2, a3, a4⟩ := rnE_p isL T L s
  have a2 := a2 (by omega)
  generalize rnE isL T L s = n at *
  have key := lp_rel (body := u3 (fX9_ahead_L204 SH 167 1 0 6)) (P := fun j (t : Int × Int × AwM) => t.1 = ((s + j : Nat) : Int) ∧ t.2.1 = (j : Int) ∧ t.2.2 167 7 = w8 T (s : Int) (min j 8) 0 ∧ t.2.2 167 12 = (if l0 = -1 ∧ 6 < j then (s : Int) + 6 else l0) ∧ ∀ a i : Int, ¬ (a = 167 ∧ (i = 7 ∨ i = 12)) → t.2.2 a i = M a i) (X := fun r : Int × Int × AwM => r.1 = (n : Int) ∧ r.2.1 = ((n - s : Nat) : Int) ∧ r.2.2 167 7 = w8 T (s : Int) (min (n - s) 8) 0 ∧ r.2.2 167 12 = (if l0 = -1 ∧ 6 < n - s then (s : Int) + 6 else l0) ∧ ∀ a i : Int, ¬ (a = 167 ∧ (i = 7 ∨ i = 12)) → r.2.2 a i = M a i) (n := n - s) ?_ FU ((s : Int), 0, M) (FU_gt (by omega)) ⟨rfl, rfl, h7, by dsimp only; rw [if_neg (by omega)]; exact h12, fun _ _ _ => rfl⟩
  · obtain ⟨⟨w, c, M1⟩, er, hw, hc, g7, g12, gf⟩ := key
    change w = _ at hw
    change c = _ at hc
    subst hw hc
    exact ⟨M1, er, g7, g12, gf⟩
  · rintro j ⟨w, c, M3⟩ hj ⟨hw, hc, h37, h312, f3⟩
    change w = _ at hw
    change c = _ at hc
    change M3 167 7 = _ at h37
    change M3 167 12 = _ at h312
    change ∀ a i : Int, _ → M3 a i = M a i at f3
    subst hw hc
    have l3 : LAY M3 := LAY_fq hl (fun q hq => by
      have t := of_decide_eq_true (List.all_eq_true.mp lay_ma q hq)
      exact f3 _ _ (by omega))
    have e0 : M3 167 2 = (L : Int) := (f3 _ _ (by omega)).trans hT2
    have e2 : ∀ i : Int, M3 168 i = M 168 i := fun i => f3 _ _ (by omega)
    rw [u3_1]
    unfold fX9_ahead_L204
    rw [kd167, gd_t rfl, e0, ly167_0 l3, kd168]
    by_cases hjn : j < n - s
    · have b := a3 (s + j) (by omega) (by omega)
      have lb := ll ((s + j : Nat) : Int) (by omega) (by omega)
      unfold ltr at lb
      have et := (hTt ((s + j : Nat) : Int) (by omega) (by omega)).2
      rw [if_pos (by omega), if_neg (by decide), ga_t (by omega) (by omega), e2, et, mlet_n, pb_1, u1_1, bi_if, if_pos b]
      unfold fX9_ahead_J243_204
      have stp : ∀ M4 : AwM, (∀ a i : Int, ¬ (a = 167 ∧ (i = 7 ∨ i = 12)) → M4 a i = M a i) → M4 167 7 = w8 T (s : Int) (min j 8) 0 → M4 167 12 = (if l0 = -1 ∧ 6 < j + 1 then (s : Int) + 6 else l0) → ∃ s', fX9_ahead_J263_204 SH M4 167 ((s + j : Nat) : Int) 1 0 6 (j : Int) = some (.inl s') ∧ (s'.1 = ((s + (j + 1) : Nat) : Int) ∧ s'.2.1 = ((j + 1 : Nat) : Int) ∧ s'.2.2 167 7 = w8 T (s : Int) (min (j + 1) 8) 0 ∧ s'.2.2 167 12 = (if l0 = -1 ∧ 6 < j + 1 then (s : Int) + 6 else l0) ∧ ∀ a i : Int, ¬ (a = 167 ∧ (i = 7 ∨ i = 12)) → s'.2.2 a i = M a i) := by
        intro M4 f4 q7 q12
        have l4 : LAY M4 := LAY_fq hl (fun q hq => by
          have t := of_decide_eq_true (List.all_eq_true.mp lay_ma q hq)
          exact f4 _ _ (by omega))
        obtain ⟨M5, e5, p7, pf⟩ := m263 (j := j) l4 q7 (fun q x y => ll q x (by omega)) (show (M4 168 ((s + j : Nat) : Int)) = T ((s + j : Nat) : Int) from (f4 _ _ (by omega)).trans et) (by omega)
        refine ⟨_, e5, rfl, rfl, p7, (pf _ _ (by omega)).trans q12, fun a i p => (pf a i (fun z => p ⟨z.1, Or.inl z.2⟩)).trans (f4 a i p)⟩
      by_cases z6 : j = 6
      · have h312' : M3 167 12 = l0 := by rw [h312, if_neg (by omega)]
        rw [if_pos (by omega), kd167, gd_t rfl, h312']
        by_cases zl : l0 = -1
        · rw [if_pos zl, bd_1]
          refine Or.inl ⟨hjn, stp _ (fun a i p => by rw [up_nn (fun z => p ⟨z.1, Or.inr z.2⟩)]; exact f3 a i p) (by rw [up_oi (by decide)]; exact h37) ?_⟩
          rw [up_at, if_pos ⟨zl, by omega⟩, z6]
          omega
        · rw [if_neg zl]
          exact Or.inl ⟨hjn, stp M3 f3 h37 (by rw [h312, if_neg (fun q => zl q.1), if_neg (fun q => zl q.1)])⟩
      · rw [if_neg (by omega)]
        refine Or.inl ⟨hjn, stp M3 f3 h37 ?_⟩
        rw [h312]
        by_cases q : l0 = -1 ∧ 6 < j
        · rw [if_pos q, if_pos ⟨q.1, by omega⟩]
        · rw [if_neg q, if_neg (fun w => q ⟨w.1, by omega⟩)]
    · have ej : j = n - s := by omega
      subst ej
      have en : s + (n - s) = n := by omega
      rw [en]
      by_cases z : (n : Int) < (L : Int)
      · have b := a4 (by omega)
        rw [if_pos z, if_neg (by decide), ga_t (by omega) (by omega), e2, (hTt _ (by omega) z).2, mlet_n, pb_1, u1_1, bi_if, if_neg (by rw [b]; decide)]
        exact Or.inr ⟨_, rfl, rfl, rfl, h37, h312, f3⟩
      · rw [if_neg z]
        exact Or.inr ⟨_, rfl, rfl, rfl, h37, h312, f3⟩
end PAHE
