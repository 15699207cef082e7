/-! the class reads a token: words, numbers, signs -/
section PSC2
def ckd (k : Int) : Int := if k = 6 then 5 else k
def TKC (M : AwM) (x : Tk) : Prop := M 4 8 = ckd x.1 ∧ M 4 10 = (x.2.2.1 : Int) ∧ M 4 11 = (x.2.2.2.1 : Int) ∧ (x.1 ≠ 5 → x.1 ≠ 6 → M 4 9 = x.2.1)
theorem lay_w4 : layT.all (fun q => decide (¬ (q.1 = 4 ∧ 5 ≤ q.2.1))) = true := by decide +kernel
theorem cword_n {M : AwM} {T : Int → Int} {L s : Nat} (hl : LAY M) (hO : OWN M) (hT : TpB M T L) (hs : s < L) (h7 : M 4 7 = (s : Int)) (h10 : M 4 10 = (s : Int)) (h11 : M 4 11 = (s : Int)) : ∃ M', fX4_readWord SH M 4 2 (L : Int) = some M' ∧ scf M' M ∧ M' 4 7 = ((rnE isL T L s : Nat) : Int) ∧ TKC M' (tkW T s (rnE isL T L s) false) := by
  have hL := hT.1
  have ll := rnL_l (T := T) (L := L) (s := s)
  obtain ⟨a1, a2, a3, a4⟩ := rnE_p isL T L s
  have a2 := a2 (by omega)
  generalize rnE isL T L s = n at *
  have key := lp_rel (body := u3 (fX4_readWord_L5 SH 4 2 (L : Int))) (P := fun j (t : Int × Int × AwM) => t.1 = w5 T (s : Int) (min j 8) ∧ t.2.1 = (j : Int) ∧ t.2.2 4 7 = ((s + j : Nat) : Int) ∧ ∀ a i : Int, ¬ (a = 4 ∧ i = 7) → t.2.2 a i = M a i) (X := fun r : Int × Int × AwM => r.1 = w5 T (s : Int) (min (n - s) 8) ∧ r.2.1 = ((n - s : Nat) : Int) ∧ r.2.2 4 7 = (n : Int) ∧ ∀ a i : Int, ¬ (a = 4 ∧ i = 7) → r.2.2 a i = M a i) (n := n - s) ?_ FU (0, 0, M) (FU_gt (by omega)) ⟨rfl, rfl, h7, fun _ _ _ => rfl⟩
  · obtain ⟨⟨w, c, M1⟩, er, hw, hc, g7, gf⟩ := key
    change w = _ at hw
    change c = _ at hc
    change M1 4 7 = _ at g7
    change ∀ a i : Int, _ → M1 a i = M a i at gf
    subst hw hc
    have l1 : LAY M1 := LAY_fq hl (fun q hq => by
      have t := of_decide_eq_true (List.all_eq_true.mp lay_w4 q hq)
      exact gf _ _ (by omega))
    have g10 : M1 4 10 = (s : Int) := (gf _ _ (by omega)).trans h10
    have g11 : M1 4 11 = (s : Int) := (gf _ _ (by omega)).trans h11
    have f1 : scf M1 M := fun a i p => gf a i (by omega)
    have O1 : OWN M1 := fun k k0 k1 => (gf _ _ (by omega)).trans (hO k k0 k1)
    unfold fX4_readWord
    rw [er, pb_1, u3_1]
    unfold fX4_readWord_J68 tkW
    rw [if_neg (show ¬ (false : Bool) = true by decide)]
    by_cases z8 : n - s ≤ 8
    · have m8 : min (n - s) 8 = n - s := by omega
      rw [m8, if_neg (by omega), kd4, gd_t rfl, cown_n l1 O1, pb_1, u1_1]
      unfold fX4_readWord_J84
      by_cases zo : ownX (w5 T (s : Int) (n - s)) = -1
      · rw [if_pos zo, if_neg (show ¬ (n - s ≤ 8 ∧ ownX (w5 T (s : Int) (n - s)) ≠ -1) from fun q => q.2 zo)]
        by_cases z6 : 6 < n - s
        · rw [if_pos (show (6 : Int) < ((n - s : Nat) : Int) by omega), if_pos z6, kd4, gd_t rfl, bd_1, up_oi (by decide), g10, bd_1]
          refine ⟨_, rfl, scf_tr f1 (scf_tr (scf_up (by omega)) (scf_up (by omega))), ?_, ?_, ?_, ?_, fun h => absurd rfl h⟩
          · rw [up_oi (by decide), up_oi (by decide)]; exact g7
          · rw [up_oi (by decide), up_at]; rfl
          · rw [up_oi (by decide), up_oi (by decide)]; exact g10
          · rw [up_at, w32_s (v := (s : Int) + 6) (by omega) (by omega)]; rfl
        · have wb := w5_b (T := T) (n - s) (s : Int) (fun q x y => ll q x (by omega))
          have p30 : (32 : Int) ^ (n - s) ≤ 1073741824 := by
            rcases (show n - s = 0 ∨ n - s = 1 ∨ n - s = 2 ∨ n - s = 3 ∨ n - s = 4 ∨ n - s = 5 ∨ n - s = 6 by omega) with q | q | q | q | q | q | q <;> rw [q] <;> decide
          rw [if_neg (show ¬ (6 : Int) < ((n - s : Nat) : Int) by omega), if_neg z6, kd4, gd_t rfl, bd_1, w32_s (v := w5 T (s : Int) (n - s)) (by omega) (by omega), bd_1]
          refine ⟨_, rfl, scf_tr f1 (scf_tr (scf_up (by omega)) (scf_up (by omega))), ?_, ?_, ?_, ?_, fun _ _ => ?_⟩
          · rw [up_oi (by decide), up_oi (by decide)]; exact g7
          · rw [up_oi (by decide), up_at]; rfl
          · rw [up_oi (by decide), up_oi (by decide)]; exact g10
          · rw [up_oi (by decide), up_oi (by decide)]; exact g11
          · rw [up_at]
      · rw [if_neg zo, if_pos (show n - s ≤ 8 ∧ ownX (w5 T (s : Int) (n - s)) ≠ -1 from ⟨z8, zo⟩), kd4, gd_t rfl, bd_1, bd_1]
        refine ⟨_, rfl, scf_tr f1 (scf_tr (scf_up (by omega)) (scf_up (by omega))), ?_, ?_, ?_, ?_, fun _ _ => ?_⟩
        · rw [up_oi (by decide), up_oi (by decide)]; exact g7
        · rw [up_oi (by decide), up_at]; rfl
        · rw [up_oi (by decide), up_oi (by decide)]; exact g10
        · rw [up_oi (by decide), up_oi (by decide)]; exact g11
        · rw [up_at]
    · rw [if_pos (show (8 : Int) < ((n - s : Nat) : Int) by omega), if_neg (show ¬ (n - s ≤ 8 ∧ ownX (w5 T (s : Int) (n - s)) ≠ -1) from fun q => z8 q.1), if_pos (show 6 < n - s by omega)]
      unfold fX4_readWord_J84
      rw [if_pos rfl, if_pos (show (6 : Int) < ((n - s : Nat) : Int) by omega), kd4, gd_t rfl, bd_1, up_oi (by decide), g10, bd_1]
      refine ⟨_, rfl, scf_tr f1 (scf_tr (scf_up (by omega)) (scf_up (by omega))), ?_, ?_, ?_, ?_, fun h => absurd rfl h⟩
      · rw [up_oi (by decide), up_oi (by decide)]; exact g7
      · rw [up_oi (by decide), up_at]; rfl
      · rw [up_oi (by decide), up_oi (by decide)]; exact g10
      · rw [up_at, w32_s (v := (s : Int) + 6) (by omega) (by omega)]; rfl
  · rintro j ⟨w, c, M3⟩ hj ⟨hw, hc, h3, f3⟩
    change w = _ at hw
    change c = _ at hc
    change M3 4 7 = _ at h3
    change ∀ a i : Int, _ → M3 a i = M a i at f3
    subst hw hc
    have e2 : M3 2 ((s + j : Nat) : Int) = M 2 ((s + j : Nat) : Int) := f3 _ _ (by omega)
    rw [u3_1]
    unfold fX4_readWord_L5
    rw [kd4, gd_t rfl, h3]
    by_cases hjn : j < n - s
    · have b := a3 (s + j) (by omega) (by omega)
      have t := hT.lt (i := ((s + j : Nat) : Int)) (by omega) (by omega)
      have eT := t.2.2.2.1 (Or.inl b)
      have lb := ll ((s + j : Nat) : Int) (by omega) (by omega)
      unfold ltr at lb
      rw [if_pos (by omega), kd2, gd_t (by refine ⟨rfl, by omega, ?_⟩; show _ < (1600 : Int); omega), e2, clet_n, pb_1, u1_1, bi_if, if_pos (decide_eq_true (t.1.mpr b)), eT, w32_s (v := (j : Int) + 1) (by omega) (by omega), w32_s (v := ((s + j : Nat) : Int) + 1) (by omega) (by omega)]
      by_cases z8 : j < 8
      · have eo := w5_or (T := T) (i := (s : Int)) (m := j) z8 (fun q x y => ll q x (by omega))
        rw [show min j 8 = j by omega, if_pos (by omega), show ((s + j : Nat) : Int) = (s : Int) + (j : Int) by omega, eo, bd_1, bd_1]
        refine Or.inl ⟨hjn, _, rfl, ?_, ?_, ?_, fun a i p => ?_⟩
        · show w5 T (s : Int) (j + 1) = w5 T (s : Int) (min (j + 1) 8)
          rw [show min (j + 1) 8 = j + 1 by omega]
        · show (j : Int) + 1 = ((j + 1 : Nat) : Int)
          omega
        · dsimp only
          rw [up_at]; omega
        · dsimp only
          rw [up_nn p]; exact f3 a i p
      · rw [if_neg (by omega), bd_1]
        refine Or.inl ⟨hjn, _, rfl, ?_, ?_, ?_, fun a i p => ?_⟩
        · show w5 T (s : Int) (min j 8) = w5 T (s : Int) (min (j + 1) 8)
          rw [show min (j + 1) 8 = min j 8 by omega]
        · show (j : Int) + 1 = ((j + 1 : Nat) : Int)
          omega
        · dsimp only
          rw [up_at]; omega
        · dsimp only
          rw [up_nn p]; exact f3 a i p
    · have ej : j = n - s := by omega
      subst ej
      have en : s + (n - s) = n := by omega
      rw [en] at h3 e2 ⊢
      by_cases z : (n : Int) < (L : Int)
      · have b := a4 (by omega)
        have t := hT.lt (i := (n : Int)) (by omega) z
        rw [if_pos z, kd2, gd_t (by refine ⟨rfl, by omega, ?_⟩; show _ < (1600 : Int); omega), e2, clet_n, pb_1, u1_1, bi_if, if_neg (fun q => by
          rw [t.1.mp (of_decide_eq_true q)] at b
          exact absurd b (by decide))]
        exact Or.inr ⟨_, rfl, rfl, rfl, h3, f3⟩
      · rw [if_neg z]
        exact Or.inr ⟨_, rfl, rfl, rfl, h3, f3⟩
theorem cnum_n {M : AwM} {T : Int → Int} {L s : Nat} (hT : TpB M T L) (hs : s < L) (h7 : M 4 7 = (s : Int)) (h9 : M 4 9 = 0) (h10 : M 4 10 = (s : Int)) (h11 : M 4 11 = (s : Int)) : ∃ M', fX4_readNumber SH M 4 2 (L : Int) = some M' ∧ scf M' M ∧ M' 4 7 = ((rnE isD T L s : Nat) : Int) ∧ TKC M' (tkN T s (rnE isD T L s) false) := by
  have hL := hT.1
  have ll := rnD_l (T := T) (L := L) (s := s)
  obtain ⟨a1, a2, a3, a4⟩ := rnE_p isD T L s
  have a2 := a2 (by omega)
  generalize rnE isD T L s = n at *
  have key := lp_rel (body := u2 (fX4_readNumber_L2 SH 4 2 (L : Int))) (P := fun j (t : Int × AwM) => t.1 = (j : Int) ∧ t.2 4 9 = numV T (s : Int) (min j 4) ∧ t.2 4 7 = ((s + j : Nat) : Int) ∧ ∀ a i : Int, ¬ (a = 4 ∧ (i = 7 ∨ i = 9)) → t.2 a i = M a i) (X := fun r : Int × AwM => r.1 = ((n - s : Nat) : Int) ∧ r.2 4 9 = numV T (s : Int) (min (n - s) 4) ∧ r.2 4 7 = (n : Int) ∧ ∀ a i : Int, ¬ (a = 4 ∧ (i = 7 ∨ i = 9)) → r.2 a i = M a i) (n := n - s) ?_ FU (0, M) (FU_gt (by omega)) ⟨rfl, h9, h7, fun _ _ _ => rfl⟩
  · obtain ⟨⟨c, M1⟩, er, hc, g9, g7, gf⟩ := key
    change c = _ at hc
    change M1 4 9 = _ at g9
    change M1 4 7 = _ at g7
    change ∀ a i : Int, _ → M1 a i = M a i at gf
    subst hc
    have g10 : M1 4 10 = (s : Int) := (gf _ _ (by omega)).trans h10
    have g11 : M1 4 11 = (s : Int) := (gf _ _ (by omega)).trans h11
    have f1 : scf M1 M := fun a i p => gf a i (by omega)
    unfold fX4_readNumber
    rw [er, pb_1, u2_1]
    unfold fX4_readNumber_J64 tkN
    rw [if_neg (show ¬ (false : Bool) = true by decide), kd4, gd_t rfl, bd_1]
    by_cases z4 : 4 < n - s
    · rw [if_pos (by omega), if_pos z4, bd_1, up_oi (by decide), up_oi (by decide), g10, bd_1]
      refine ⟨_, rfl, scf_tr f1 (scf_tr (scf_tr (scf_up (by omega)) (scf_up (by omega))) (scf_up (by omega))), ?_, ?_, ?_, ?_, fun h => absurd rfl h⟩
      · rw [up_oi (by decide), up_oi (by decide), up_oi (by decide)]; exact g7
      · rw [up_oi (by decide), up_at]; rfl
      · rw [up_oi (by decide), up_oi (by decide), up_oi (by decide)]; exact g10
      · rw [up_at, w32_s (v := (s : Int) + 4) (by omega) (by omega)]; rfl
    · rw [if_neg (by omega), if_neg z4]
      refine ⟨_, rfl, scf_tr f1 (scf_up (by omega)), ?_, ?_, ?_, ?_, fun _ _ => ?_⟩
      · rw [up_oi (by decide)]; exact g7
      · rw [up_at]; rfl
      · rw [up_oi (by decide)]; exact g10
      · rw [up_oi (by decide)]; exact g11
      · rw [up_oi (by decide), g9, show min (n - s) 4 = n - s by omega]
  · rintro j ⟨c, M3⟩ hj ⟨hc, h39, h3, f3⟩
    change c = _ at hc
    change M3 4 9 = _ at h39
    change M3 4 7 = _ at h3
    change ∀ a i : Int, _ → M3 a i = M a i at f3
    subst hc
    have e2 : M3 2 ((s + j : Nat) : Int) = M 2 ((s + j : Nat) : Int) := f3 _ _ (by omega)
    rw [u2_1]
    unfold fX4_readNumber_L2
    rw [kd4, gd_t rfl, h3]
    by_cases hjn : j < n - s
    · have b := a3 (s + j) (by omega) (by omega)
      have t := hT.lt (i := ((s + j : Nat) : Int)) (by omega) (by omega)
      have eT := t.2.2.2.1 (Or.inr b)
      have lb := ll ((s + j : Nat) : Int) (by omega) (by omega)
      rw [if_pos (by omega), kd2, gd_t (by refine ⟨rfl, by omega, ?_⟩; show _ < (1600 : Int); omega), e2, cdig_n, pb_1, u1_1, bi_if, if_pos (decide_eq_true (t.2.1.mpr b)), eT, h39, w32_s (v := (j : Int) + 1) (by omega) (by omega)]
      by_cases z8 : j < 4
      · have nb := numV_b (T := T) (i := (s : Int)) j (by omega) (fun q x y => ll q x (by omega))
        have p4 : (10 : Int) ^ j ≤ 1000 := by
          rcases (show j = 0 ∨ j = 1 ∨ j = 2 ∨ j = 3 by omega) with q | q | q | q <;> rw [q] <;> decide
        rw [show min j 4 = j by omega, if_pos (by omega), w32_s (v := 10 * numV T (s : Int) j) (by omega) (by omega), w32_s (v := 10 * numV T (s : Int) j + T ((s + j : Nat) : Int)) (by omega) (by omega), w32_s (v := 10 * numV T (s : Int) j + T ((s + j : Nat) : Int) - 48) (by omega) (by omega), bd_1, up_oi (by decide), h3, w32_s (v := ((s + j : Nat) : Int) + 1) (by omega) (by omega), bd_1]
        refine Or.inl ⟨hjn, _, rfl, ?_, ?_, ?_, fun a i p => ?_⟩
        · show (j : Int) + 1 = ((j + 1 : Nat) : Int)
          omega
        · dsimp only
          rw [up_oi (by decide), up_at, show min (j + 1) 4 = j + 1 by omega, show ((s + j : Nat) : Int) = (s : Int) + (j : Int) by omega]
          rfl
        · dsimp only
          rw [up_at]; omega
        · dsimp only
          rw [up_nn (fun q => p ⟨q.1, Or.inl q.2⟩), up_nn (fun q => p ⟨q.1, Or.inr q.2⟩)]; exact f3 a i p
      · rw [if_neg (by omega), w32_s (v := ((s + j : Nat) : Int) + 1) (by omega) (by omega), bd_1]
        refine Or.inl ⟨hjn, _, rfl, ?_, ?_, ?_, fun a i p => ?_⟩
        · show (j : Int) + 1 = ((j + 1 : Nat) : Int)
          omega
        · dsimp only
          rw [up_oi (by decide), h39, show min (j + 1) 4 = min j 4 by omega]
        · dsimp only
          rw [up_at]; omega
        · dsimp only
          rw [up_nn (fun q => p ⟨q.1, Or.inl q.2⟩)]; exact f3 a i p
    · have ej : j = n - s := by omega
      subst ej
      have en : s + (n - s) = n := by omega
      rw [en] at h3 e2 ⊢
      by_cases z : (n : Int) < (L : Int)
      · have b := a4 (by omega)
        have t := hT.lt (i := (n : Int)) (by omega) z
        rw [if_pos z, kd2, gd_t (by refine ⟨rfl, by omega, ?_⟩; show _ < (1600 : Int); omega), e2, cdig_n, pb_1, u1_1, bi_if, if_neg (fun q => by
          rw [t.2.1.mp (of_decide_eq_true q)] at b
          exact absurd b (by decide))]
        exact Or.inr ⟨_, rfl, rfl, h39, h3, f3⟩
      · rw [if_neg z]
        exact Or.inr ⟨_, rfl, rfl, h39, h3, f3⟩
theorem idx_all : (List.range 128).all (fun (c : Nat) => match fJ0_indexOf_0f7a4 [] (fun _ _ => 0) (-3) (c : Int) with
    | some r => decide (r < 0 ↔ ¬ (c : Int) ∈ sgL)
    | none => false) = true := by decide +kernel
theorem idx_n {M : AwM} {v : Int} (v0 : 0 ≤ v) (v1 : v < 128) : ∃ r, fJ0_indexOf_0f7a4 SH M (-3) v = some r ∧ (r < 0 ↔ ¬ v ∈ sgL) := by
  have a := List.all_eq_true.mp idx_all v.toNat (List.mem_range.mpr (by omega))
  rw [show ((v.toNat : Nat) : Int) = v by omega] at a
  have e : fJ0_indexOf_0f7a4 SH M (-3) v = fJ0_indexOf_0f7a4 [] (fun _ _ => 0) (-3) v := rfl
  rw [e]
  cases q : fJ0_indexOf_0f7a4 [] (fun _ _ => 0) (-3) v with
  | none => rw [q] at a; exact absurd (show false = true from a) (by decide)
  | some r => rw [q] at a; exact ⟨r, rfl, of_decide_eq_true a⟩
end PSC2
