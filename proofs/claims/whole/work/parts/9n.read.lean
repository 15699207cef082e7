/-! the class reads all tokens, and looks at them one by one -/
section PREA
def isE (k : Int) : Prop := k = 0 ∨ k = 5 ∨ k = 6
def ENDS (t : Nat → Tk) (K : Nat) : Prop := (isE (t K).1 ∧ K ≤ 1600) ∧ (∀ i : Nat, i < K → 1 ≤ (t i).1 ∧ (t i).1 ≤ 4)
theorem ends_x (T : Int → Int) {L : Nat} (hL : L ≤ 1600) : ∃ K, ENDS (tks T L) K := by
  have pro : ∀ n : Nat, (∀ i : Nat, i < n + 1 → 1 ≤ (tks T L i).1 ∧ (tks T L i).1 ≤ 4) → n + 1 ≤ (tks T L n).2.2.2.2 := by
    intro n
    induction n with
    | zero =>
      intro h
      have a := tks_ok T L 0
      have b := a.2.2.1 (by have := h 0 (by omega); omega)
      omega
    | succ n ih =>
      intro h
      have i1 := ih (fun i hi => h i (by omega))
      have a := tks_ok T L (n + 1)
      have b := a.2.2.1 (by have := h (n + 1) (by omega); omega)
      have c := (tok_ok T (tks_ok T L n).2.1.2 (glu (tks T L n).1)).2
      have c' : (tks T L n).2.2.2.2 ≤ (tks T L (n + 1)).2.2.1 := c
      omega
  have key : ∀ n : Nat, (∀ i : Nat, i < n → 1 ≤ (tks T L i).1 ∧ (tks T L i).1 ≤ 4) ∨ ∃ K, K < n ∧ isE (tks T L K).1 ∧ ∀ i : Nat, i < K → 1 ≤ (tks T L i).1 ∧ (tks T L i).1 ≤ 4 := by
    intro n
    induction n with
    | zero => exact Or.inl (fun i hi => by omega)
    | succ n ih =>
      rcases ih with h | ⟨K, k1, k2, k3⟩
      · by_cases e : isE (tks T L n).1
        · exact Or.inr ⟨n, by omega, e, h⟩
        · refine Or.inl (fun i hi => ?_)
          by_cases q : i = n
          · subst q
            have a := (tks_ok T L i).1
            unfold isE at e
            omega
          · exact h i (by omega)
      · exact Or.inr ⟨K, by omega, k2, k3⟩
  rcases key (L + 1) with h | ⟨K, k1, k2, k3⟩
  · have a := pro L h
    have b := (tks_ok T L L).2.1.2
    omega
  · exact ⟨K, ⟨k2, by omega⟩, k3⟩
/-- the class's rows of tokens -/
def ARR (t : Nat → Tk) (M : AwM) (n : Nat) : Prop := ∀ k : Nat, k < n → M 6 (k : Int) = ckd (t k).1 ∧ M 8 (k : Int) = ((t k).2.2.1 : Int) ∧ M 9 (k : Int) = ((t k).2.2.2.1 : Int) ∧ ((t k).1 ≠ 5 → (t k).1 ≠ 6 → M 7 (k : Int) = (t k).2.1)
/-- the class looks at token i -/
def SCN (t : Nat → Tk) (K : Nat) (M : AwM) (i : Nat) : Prop := (i ≤ K ∧ K ≤ 1600) ∧ M 4 5 = (K : Int) + 1 ∧ M 4 6 = (i : Int) ∧ TKC M (t i) ∧ ARR t M (K + 1)
/-- what looking at the next one writes -/
def nxf (M' M : AwM) : Prop := ∀ a i : Int, ¬ (a = 4 ∧ 6 ≤ i ∧ i ≤ 11) → M' a i = M a i
theorem nxf_rf {M : AwM} : nxf M M := fun _ _ _ => rfl
theorem nxf_tr {M M1 M2 : AwM} (h : nxf M1 M) (h' : nxf M2 M1) : nxf M2 M := fun a i p => (h' a i p).trans (h a i p)
theorem LAY_nx {M M' : AwM} (h : LAY M) (f : nxf M' M) : LAY M' := LAY_fq h (fun q hq => by
  have t := of_decide_eq_true (List.all_eq_true.mp lay_w4 q hq)
  exact f _ _ (by omega))
theorem cnx {t : Nat → Tk} {K i : Nat} {M : AwM} (hl : LAY M) (h5 : M 4 5 = (K : Int) + 1) (h6 : M 4 6 = (i : Int) - 1) (hA : ARR t M (K + 1)) (hi : i ≤ K) (hK : K ≤ 1600) : ∃ M', fX4_next SH M 4 = some M' ∧ SCN t K M' i ∧ nxf M' M := by
  obtain ⟨a1, a2, a3, a4⟩ := hA i (by omega)
  have e1 : w32 ((i : Int) - 1 + 1) = (i : Int) := by rw [w32_s (by omega) (by omega)]; omega
  unfold fX4_next
  rw [kd4, gd_t rfl, h6, e1, h5, if_pos (by omega), if_neg (by omega), bd_1]
  have b1 : up_ M 4 6 (i : Int) 4 1 = 6 := by rw [up_oi (by decide)]; exact ly4_1 hl
  have b6 : up_ M 4 6 (i : Int) 4 6 = (i : Int) := up_at
  have c1 : up_ M 4 6 (i : Int) 6 (i : Int) = M 6 (i : Int) := up_of (by decide)
  rw [b1, b6, c1, kd6, ga_t (by omega) (by omega), bd_1]
  have b2 : up_ (up_ M 4 6 (i : Int)) 4 8 (M 6 (i : Int)) 4 2 = 7 := by rw [up_oi (by decide), up_oi (by decide)]; exact ly4_2 hl
  have b7 : up_ (up_ M 4 6 (i : Int)) 4 8 (M 6 (i : Int)) 4 6 = (i : Int) := by rw [up_oi (by decide), up_at]
  have c2 : up_ (up_ M 4 6 (i : Int)) 4 8 (M 6 (i : Int)) 7 (i : Int) = M 7 (i : Int) := by rw [up_of (by decide), up_of (by decide)]
  rw [b2, b7, c2, kd7, ga_t (by omega) (by omega), bd_1]
  have b3 : up_ (up_ (up_ M 4 6 (i : Int)) 4 8 (M 6 (i : Int))) 4 9 (M 7 (i : Int)) 4 3 = 8 := by rw [up_oi (by decide), up_oi (by decide), up_oi (by decide)]; exact ly4_3 hl
  have b8 : up_ (up_ (up_ M 4 6 (i : Int)) 4 8 (M 6 (i : Int))) 4 9 (M 7 (i : Int)) 4 6 = (i : Int) := by rw [up_oi (by decide), up_oi (by decide), up_at]
  have c3 : up_ (up_ (up_ M 4 6 (i : Int)) 4 8 (M 6 (i : Int))) 4 9 (M 7 (i : Int)) 8 (i : Int) = M 8 (i : Int) := by rw [up_of (by decide), up_of (by decide), up_of (by decide)]
  rw [b3, b8, c3, kd8, ga_t (by omega) (by omega), bd_1]
  have b4 : up_ (up_ (up_ (up_ M 4 6 (i : Int)) 4 8 (M 6 (i : Int))) 4 9 (M 7 (i : Int))) 4 10 (M 8 (i : Int)) 4 4 = 9 := by rw [up_oi (by decide), up_oi (by decide), up_oi (by decide), up_oi (by decide)]; exact ly4_4 hl
  have b9 : up_ (up_ (up_ (up_ M 4 6 (i : Int)) 4 8 (M 6 (i : Int))) 4 9 (M 7 (i : Int))) 4 10 (M 8 (i : Int)) 4 6 = (i : Int) := by rw [up_oi (by decide), up_oi (by decide), up_oi (by decide), up_at]
  have c4 : up_ (up_ (up_ (up_ M 4 6 (i : Int)) 4 8 (M 6 (i : Int))) 4 9 (M 7 (i : Int))) 4 10 (M 8 (i : Int)) 9 (i : Int) = M 9 (i : Int) := by rw [up_of (by decide), up_of (by decide), up_of (by decide), up_of (by decide)]
  rw [b4, b9, c4, kd9, ga_t (by omega) (by omega), bd_1]
  have fr : nxf (up_ (up_ (up_ (up_ (up_ M 4 6 (i : Int)) 4 8 (M 6 (i : Int))) 4 9 (M 7 (i : Int))) 4 10 (M 8 (i : Int))) 4 11 (M 9 (i : Int))) M := fun a k p => by
    rw [up_nn (fun z => p ⟨z.1, by omega⟩), up_nn (fun z => p ⟨z.1, by omega⟩), up_nn (fun z => p ⟨z.1, by omega⟩), up_nn (fun z => p ⟨z.1, by omega⟩), up_nn (fun z => p ⟨z.1, by omega⟩)]
  refine ⟨_, rfl, ⟨⟨hi, hK⟩, (fr _ _ (by omega)).trans h5, ?_, ⟨?_, ?_, ?_, fun x y => ?_⟩, fun k hk => ?_⟩, fr⟩
  · rw [up_oi (by decide)]; exact b9
  · rw [up_oi (by decide), up_oi (by decide), up_oi (by decide), up_at]; exact a1
  · rw [up_oi (by decide), up_at]; exact a2
  · rw [up_at]; exact a3
  · rw [up_oi (by decide), up_oi (by decide), up_at]; exact a4 x y
  · rw [fr 6 _ (by omega), fr 8 _ (by omega), fr 9 _ (by omega), fr 7 _ (by omega)]; exact hA k hk
theorem next_n {t : Nat → Tk} {K i : Nat} {M : AwM} (hl : LAY M) (h : SCN t K M i) (hi : i < K) : ∃ M', fX4_next SH M 4 = some M' ∧ SCN t K M' (i + 1) ∧ nxf M' M :=
  cnx hl h.2.1 (by rw [h.2.2.1]; omega) h.2.2.2.2 (by omega) h.1.2
def pvE (T : Int → Int) (L : Nat) : Nat → Nat
  | 0 => 0
  | j + 1 => (tks T L j).2.2.2.2
def pvK (T : Int → Int) (L : Nat) : Nat → Int
  | 0 => 1
  | j + 1 => (tks T L j).1
theorem tks_e (T : Int → Int) (L : Nat) : ∀ j : Nat, tks T L j = tok T L (pvE T L j) (glu (pvK T L j))
  | 0 => rfl
  | _ + 1 => rfl
/-- what the reading writes -/
def rdf (M' M : AwM) : Prop := ∀ a i : Int, ¬ (a = 4 ∧ 5 ≤ i ∧ i ≤ 11) → ¬ (6 ≤ a ∧ a ≤ 9) → M' a i = M a i
theorem lay_w6 : layT.all (fun q => decide (¬ (6 ≤ q.1 ∧ q.1 ≤ 9))) = true := by decide +kernel
theorem LAY_rd {M M' : AwM} (h : LAY M) (f : rdf M' M) : LAY M' := LAY_fq h (fun q hq => by
  have t := of_decide_eq_true (List.all_eq_true.mp lay_w4 q hq)
  have u := of_decide_eq_true (List.all_eq_true.mp lay_w6 q hq)
  exact f _ _ (by omega) u)
theorem read_n {M : AwM} {T : Int → Int} {L K : Nat} (hl : LAY M) (hO : OWN M) (hT : TpB M T L) (hK : ENDS (tks T L) K) : ∃ M', fX4_read SH M 4 2 (L : Int) = some M' ∧ SCN (tks T L) K M' 0 ∧ rdf M' M := by
  have hL := hT.1
  have hK6 := hK.1.2
  have key := lp_rel (body := u2 (fX4_read_L35 SH 4 2 (L : Int))) (P := fun j (t : Int × AwM) => t.1 = (j : Int) ∧ t.2 4 5 = (j : Int) ∧ t.2 4 7 = (pvE T L j : Int) ∧ t.2 4 8 = ckd (pvK T L j) ∧ ARR (tks T L) t.2 j ∧ rdf t.2 M) (X := fun r : AwM => r 4 5 = (K : Int) + 1 ∧ ARR (tks T L) r (K + 1) ∧ rdf r M) (n := K + 1) ?_ FU (0, up_ (up_ (up_ M 4 5 0) 4 7 0) 4 8 1) (FU_gt (by omega)) ?_
  · obtain ⟨M1, e1, h5, hA, f1⟩ := key
    have f2 : rdf (up_ M1 4 6 (-1)) M := fun a i p q => (up_nn (fun z => p ⟨z.1, by omega⟩)).trans (f1 a i p q)
    obtain ⟨M2, e2, s2, f3⟩ := cnx (t := tks T L) (i := 0) (M := up_ M1 4 6 (-1)) (LAY_rd hl f2) ((up_oi (by decide)).trans h5) (by rw [up_at]; rfl) (fun k hk => by
      rw [up_of (show (6 : Int) ≠ 4 by decide), up_of (show (8 : Int) ≠ 4 by decide), up_of (show (9 : Int) ≠ 4 by decide), up_of (show (7 : Int) ≠ 4 by decide)]
      exact hA k hk) (Nat.zero_le _) hK6
    refine ⟨M2, ?_, s2, fun a i p q => (f3 a i (by omega)).trans (f2 a i p q)⟩
    unfold fX4_read fJ9_min_7cf53 fJ9_max_7cf53
    rw [kd2, gd_t (by decide)]
    show pb (if ((1600 : Nat) : Int) < 1600 then _ else _) _ = _
    rw [if_neg (by omega), pb_1, u1_1]
    by_cases z : (1600 : Int) < (L : Int)
    · omega
    · rw [if_neg z, pb_1, u1_1]
      have mx : (if (0 : Int) < (L : Int) then some (L : Int) else some 0) = some (L : Int) := by
        by_cases q : (0 : Int) < (L : Int)
        · rw [if_pos q]
        · rw [if_neg q, show (L : Int) = 0 by omega]
      rw [mx, pb_1, u1_1, kd4, gd_t rfl, bd_1, bd_1, bd_1, e1, pb_1, u1_1, bd_1, e2, pb_1, u1_1]
  · rintro j ⟨i, M3⟩ hj ⟨hi, h35, h37, h38, hA, f3⟩
    change i = (j : Int) at hi
    change M3 4 5 = _ at h35
    change M3 4 7 = _ at h37
    change M3 4 8 = _ at h38
    change ARR (tks T L) M3 j at hA
    change rdf M3 M at f3
    subst hi
    rw [u2_1]
    unfold fX4_read_L35
    have hpk : j ≤ K → 1 ≤ pvK T L j ∧ pvK T L j ≤ 4 := fun hjk => by
      cases j with
      | zero => exact (show (1 : Int) ≤ 1 ∧ (1 : Int) ≤ 4 by decide)
      | succ q => exact hK.2 q (by omega)
    have ck : ∀ k : Int, 1 ≤ k ∧ k ≤ 4 → ckd k = k := fun k hk => if_neg (by omega)
    by_cases hjn : j < K + 1
    · have pk := hpk (by omega)
      rw [ck _ pk] at h38
      have l3 := LAY_rd hl f3
      have O3 : OWN M3 := fun k k0 k1 => (f3 _ _ (by omega) (by omega)).trans (hO k k0 k1)
      have T3 : TpB M3 T L := ⟨hT.1, fun i a b => ⟨(hT.2 i a b).1, (f3 2 i (by omega) (by omega)).trans (hT.2 i a b).2⟩⟩
      have pe : pvE T L j ≤ L := by
        cases j with
        | zero => exact Nat.zero_le _
        | succ q => exact (tks_ok T L q).2.1.2
      obtain ⟨M4, e4, f4, g7, gx⟩ := cone_n l3 O3 T3 pe h37 h38
      rw [← tks_e] at g7 gx
      have l4 : LAY M4 := LAY_fq l3 (fun q hq => by
        have t := of_decide_eq_true (List.all_eq_true.mp lay_w4 q hq)
        exact f4 _ _ (by omega))
      obtain ⟨x8, x10, x11, x9⟩ := gx
      have g5 : M4 4 5 = (j : Int) := (f4 _ _ (by omega)).trans h35
      rw [if_neg (by omega), kd4, gd_t rfl, h38, if_neg (by omega), if_neg (by omega), e4, pb_1, u1_1, ly4_1 l4, kd6, ga_t (by omega) (by omega), bd_1]
      rw [up_of (show (4 : Int) ≠ 6 by decide), up_of (show (4 : Int) ≠ 6 by decide), ly4_2 l4, kd7, ga_t (by omega) (by omega), bd_1]
      simp (disch := omega) only [up_of, ly4_3 l4, ly4_4 l4, kd8, kd9, bd_1, gd_t]
      rw [gd_t (by refine ⟨trivial, by omega, ?_⟩; show _ < (1601 : Int); omega), gd_t (by refine ⟨trivial, by omega, ?_⟩; show _ < (1601 : Int); omega), g5, x8, x10, x11, w32_s (v := (j : Int) + 1) (by omega) (by omega)]
      refine Or.inl ⟨hjn, _, rfl, by simp, ?_, ?_, ?_, fun k hk => ?_, fun a i p q => ?_⟩
      · dsimp only; rw [up_at]; omega
      · dsimp only
        rw [up_oi (by decide), up_of (by decide), up_of (by decide), up_of (by decide), up_of (by decide)]
        exact g7
      · dsimp only
        rw [up_oi (by decide), up_of (by decide), up_of (by decide), up_of (by decide), up_of (by decide)]
        exact x8
      · dsimp only
        by_cases e : k = j
        · subst e
          simp (disch := omega) only [up_of, up_at]
          exact ⟨trivial, trivial, trivial, x9⟩
        · have ek : (k : Int) ≠ (j : Int) := by omega
          simp (disch := omega) only [up_of, up_oi]
          rw [f4 6 _ (by omega), f4 8 _ (by omega), f4 9 _ (by omega), f4 7 _ (by omega)]
          exact hA k (by omega)
      · dsimp only
        rw [up_nn (fun z => p ⟨z.1, by omega⟩), up_of (by omega), up_of (by omega), up_of (by omega), up_of (by omega), f4 a i (by omega)]
        exact f3 a i p q
    · have ej : j = K + 1 := by omega
      subst ej
      have e0 : M3 4 8 = 0 ∨ M3 4 8 = 5 := by
        rw [h38]
        show ckd (tks T L K).1 = 0 ∨ ckd (tks T L K).1 = 5
        rcases hK.1.1 with a | a | a <;> rw [a]
        · exact Or.inl rfl
        · exact Or.inr rfl
        · exact Or.inr rfl
      have fin : M3 4 5 = (K : Int) + 1 ∧ ARR (tks T L) M3 (K + 1) ∧ rdf M3 M := ⟨by rw [h35]; omega, hA, f3⟩
      by_cases z : (1600 : Int) < ((K + 1 : Nat) : Int)
      · rw [if_pos z]; exact Or.inr ⟨_, rfl, fin⟩
      · rw [if_neg z, kd4, gd_t rfl]
        rcases e0 with a | a
        · rw [if_pos a]; exact Or.inr ⟨_, rfl, fin⟩
        · rw [if_neg (by omega), if_pos a]; exact Or.inr ⟨_, rfl, fin⟩
  · refine ⟨rfl, ?_, ?_, ?_, fun k hk => by omega, fun a i p q => ?_⟩
    · dsimp only; rw [up_oi (by decide), up_oi (by decide), up_at]; rfl
    · dsimp only; rw [up_oi (by decide), up_at]; rfl
    · dsimp only; rw [up_at]; rfl
    · dsimp only
      rw [up_nn (fun z => p ⟨z.1, by omega⟩), up_nn (fun z => p ⟨z.1, by omega⟩), up_nn (fun z => p ⟨z.1, by omega⟩)]
end PREA
