/-! the model's draft: names given and asked -/
section PMPR
variable {T : Int → Int} {L K : Nat} {b : Int} {D M : AwM} {i : Nat}
def frR (D : AwM) (y : Tk) : Option (Int × Nat) := if y.1 = 3 then (if fnd D 0 y.2.1 ≠ -1 ∨ fnd D 1 y.2.1 ≠ -1 ∨ fnd D 2 y.2.1 ≠ -1 then some (2, y.2.2.1) else none) else some (1, y.2.2.2.1)
theorem newR_e {D : AwM} {x y : Tk} {k : Int} : newR D x y k = if mx k ≤ D 0 k then some (6, x.2.2.1) else frR D y := rfl
/-- whether a word is one that nobody owns -/
theorem misown_n (h : MTK M (tks T L i)) (hk : (tks T L i).1 = 3 ∨ (tks T L i).1 = 4) : fX9_isOwn SH M 167 (M 167 7) = some (bi (decide ((tks T L i).1 = 4))) := by
  have tok := tks_ok T L i
  rcases hk with q | q
  · have n3 := (tok.2.2.2.2.2.2.2.1 q).1
    rw [(h.2.2.2.2.2.2.2.1 q).2, isOwn_n (ndOK_up 6 8 _ (by decide) n3.1), decide_eq_false (fun z => z n3.2), decide_eq_false (by omega)]
  · have n4 := (tok.2.2.2.2.2.2.2.2.1 q).1
    obtain ⟨e, nd⟩ := own8_n n4.1 n4.2
    rw [(h.2.2.2.2.2.2.2.2 q).2, e, isOwn_n nd, decide_eq_true (by rw [ownX_u n4.1 n4.2 rfl]; omega), decide_eq_true q]
theorem mfresh_f {v : Int} {N : Nat} (h8 : 0 < M 167 8) : lp (u2 (fX9_fresh_L43 SH 167)) (N + 1) (v, M) = some M := by
  refine lp_st ?_
  rw [u2_1]
  unfold fX9_fresh_L43
  by_cases z : 2 < v
  · rw [if_pos z]
  · rw [if_neg z, kd167, gd_t rfl, if_neg (by omega)]
theorem mfresh_n (h : MD T L K M b D i) (hD : DC D) (hN : DNa D) : (frR D (tks T L i) = none → ((tks T L i).1 = 3 ∧ ndOK 6 (tks T L i).2.1) ∧ ∃ M', fX9_fresh SH M 167 = some (n8f 8 (tks T L i).2.1 0, M') ∧ MD T L K M' b D (i + 1) ∧ maf M' M) ∧ (∀ k p, frR D (tks T L i) = some (k, p) → ∃ v M', fX9_fresh SH M 167 = some (v, M') ∧ MBd b M' M k p) := by
  have tok := tks_ok T L i
  obtain ⟨N, hFU⟩ : ∃ N, FU = N + 6 := ⟨99994, rfl⟩
  unfold frR
  by_cases z3 : (tks T L i).1 = 3
  · have m3 := h.tk.2.2.2.2.2.2.2.1 z3
    have n3 := (tok.2.2.2.2.2.2.2.1 z3).1
    have own := misown_n h.tk (Or.inl z3)
    have pre : fX9_fresh SH M 167 = pb (lp (u2 (fX9_fresh_L43 SH 167)) (N + 6) (0, M)) (u1 (fun (tq23 : AwM) => (if (tq23 167 8) = 0 then pb (fX9_ahead SH tq23 167) <| u1 fun (M26 : AwM) => (some ((tq23 167 7), M26)) else some ((tq23 167 7), tq23)))) := by
      unfold fX9_fresh
      rw [kd167, gd_t rfl, mlex_n h.tk (by omega), pb_1, u1_1, h.h8, if_neg (show ¬ (0 : Int) < 0 by decide), m3.1, if_pos rfl, own, pb_1, u1_1, decide_eq_false (by omega), if_pos (show bi false = 0 from rfl), hFU]
    have bodyE : ∀ v : Int, 0 ≤ v → v < 3 → u2 (fX9_fresh_L43 SH 167) (v, M) = (if fnd D v (tks T L i).2.1 = -1 then some (.inl (w32 (v + 1), M)) else some (.inl (w32 (v + 1), up_ (up_ M 167 8 2) 167 9 ((tks T L i).2.2.1 : Int)))) := fun v v0 v1 => by
      rw [u2_1]
      unfold fX9_fresh_L43
      rw [if_neg (by omega), kd167, gd_t rfl, h.h8, if_pos rfl, m3.2, mnamed_n h hD hN v0 v1 n3.1, pb_1, u1_1]
      by_cases q : fnd D v (tks T L i).2.1 = -1
      · rw [if_pos q, if_pos q]
      · rw [if_neg q, if_neg q, h.tk.1, mblm_n h.h8, pb_1, u1_1]
    have bad : ∀ (v : Int) (n : Nat), 0 ≤ v → v < 3 → fnd D v (tks T L i).2.1 ≠ -1 → lp (u2 (fX9_fresh_L43 SH 167)) (n + 2) (v, M) = some (up_ (up_ M 167 8 2) 167 9 ((tks T L i).2.2.1 : Int)) := fun v n v0 v1 hv => by
      rw [lp_go ((bodyE v v0 v1).trans (if_neg hv))]
      exact mfresh_f (by rw [up_oi (by decide), up_at]; decide)
    have good : ∀ (v : Int) (n : Nat), 0 ≤ v → v < 3 → fnd D v (tks T L i).2.1 = -1 → lp (u2 (fX9_fresh_L43 SH 167)) (n + 1) (v, M) = lp (u2 (fX9_fresh_L43 SH 167)) n (v + 1, M) := fun v n v0 v1 hv => by
      rw [lp_go ((bodyE v v0 v1).trans (if_pos hv)), w32_s (by omega) (by omega)]
    have hf : (up_ (up_ M 167 8 2) 167 9 ((tks T L i).2.2.1 : Int)) 167 8 ≠ 0 := by rw [up_oi (by decide), up_at]; decide
    rw [if_pos z3, pre]
    by_cases a0 : fnd D 0 (tks T L i).2.1 = -1
    · by_cases a1 : fnd D 1 (tks T L i).2.1 = -1
      · by_cases a2 : fnd D 2 (tks T L i).2.1 = -1
        · obtain ⟨M', e, s, f⟩ := mdnx_n h (by omega)
          have fin : lp (u2 (fX9_fresh_L43 SH 167)) (N + 3) (0 + 1 + 1 + 1, M) = some M := by
            refine lp_st ?_
            rw [u2_1]
            unfold fX9_fresh_L43
            rw [if_pos (by decide)]
          rw [if_neg (fun q => q.elim (fun x => x a0) (fun q => q.elim (fun x => x a1) (fun x => x a2))), good 0 (N + 5) (by decide) (by decide) a0, good (0 + 1) (N + 4) (by decide) (by decide) a1, good (0 + 1 + 1) (N + 3) (by decide) (by decide) a2, fin, pb_1, u1_1, h.h8, if_pos rfl, e, pb_1, u1_1, m3.2]
          exact ⟨fun _ => ⟨⟨z3, n3.1⟩, M', rfl, s, f⟩, fun k p q => absurd q (by simp)⟩
        · rw [if_pos (Or.inr (Or.inr a2)), good 0 (N + 5) (by decide) (by decide) a0, good (0 + 1) (N + 4) (by decide) (by decide) a1, bad (0 + 1 + 1) (N + 2) (by decide) (by decide) a2, pb_1, u1_1, if_neg hf]
          refine ⟨fun q => absurd q (by simp), fun k p q => ?_⟩
          have hh' := Option.some.inj q
          rw [Prod.mk.injEq] at hh'
          obtain ⟨rfl, rfl⟩ := hh'
          exact ⟨_, _, rfl, mbd_u rfl⟩
      · rw [if_pos (Or.inr (Or.inl a1)), good 0 (N + 5) (by decide) (by decide) a0, bad (0 + 1) (N + 3) (by decide) (by decide) a1, pb_1, u1_1, if_neg hf]
        refine ⟨fun q => absurd q (by simp), fun k p q => ?_⟩
        have hh' := Option.some.inj q
        rw [Prod.mk.injEq] at hh'
        obtain ⟨rfl, rfl⟩ := hh'
        exact ⟨_, _, rfl, mbd_u rfl⟩
    · rw [if_pos (Or.inl a0), bad 0 (N + 4) (by decide) (by decide) a0, pb_1, u1_1, if_neg hf]
      refine ⟨fun q => absurd q (by simp), fun k p q => ?_⟩
      have hh' := Option.some.inj q
      rw [Prod.mk.injEq] at hh'
      obtain ⟨rfl, rfl⟩ := hh'
      exact ⟨_, _, rfl, mbd_u rfl⟩
  · rw [if_neg z3]
    refine ⟨fun q => absurd q (by simp), fun k p q => ?_⟩
    have hh' := Option.some.inj q
    rw [Prod.mk.injEq] at hh'
    obtain ⟨rfl, rfl⟩ := hh'
    by_cases z5 : (tks T L i).1 = 5
    · refine ⟨0, _, ?_, mbd_u rfl⟩
      unfold fX9_fresh
      rw [kd167, gd_t rfl, mlex_5 h.tk z5 h.h8, pb_1, u1_1, if_pos p8_1]
    · have g8 : (up_ (up_ M 167 8 1) 167 9 ((tks T L i).2.2.1 : Int)) 167 8 ≠ 0 := by rw [up_oi (by decide), up_at]; decide
      have tail : ∀ R, pb (lp (u2 (fX9_fresh_L43 SH 167)) FU (0, up_ (up_ M 167 8 1) 167 9 ((tks T L i).2.2.1 : Int))) (u1 (fun (tq23 : AwM) => (if (tq23 167 8) = 0 then pb (fX9_ahead SH tq23 167) <| u1 fun (M26 : AwM) => (some ((tq23 167 7), M26)) else some ((tq23 167 7), tq23)))) = R → R = some ((up_ (up_ M 167 8 1) 167 9 ((tks T L i).2.2.1 : Int)) 167 7, up_ (up_ M 167 8 1) 167 9 ((tks T L i).2.2.1 : Int)) := fun R hR => by
        rw [← hR, hFU, mfresh_f (by rw [up_oi (by decide), up_at]; decide), pb_1, u1_1, if_neg g8]
      refine ⟨(up_ (up_ M 167 8 1) 167 9 ((tks T L i).2.2.1 : Int)) 167 7, _, ?_, mbd_u (p := ((tks T L i).2.2.1 : Int)) (by rw [tkP_s T L i z5])⟩
      unfold fX9_fresh
      rw [kd167, gd_t rfl, mlex_n h.tk z5, pb_1, u1_1, h.h8, if_neg (show ¬ (0 : Int) < 0 by decide)]
      by_cases z4 : (tks T L i).1 = 4
      · have m4 := h.tk.2.2.2.2.2.2.2.2 z4
        rw [m4.1, if_pos rfl, misown_n h.tk (Or.inr z4), pb_1, u1_1, decide_eq_true z4, if_neg (show ¬ bi true = 0 by decide), h.tk.1, mblm_n h.h8, pb_1, u1_1]
        exact tail _ rfl
      · have k06 := tok.1
        have e3 : ¬ M 167 3 = 1 := by
          obtain ⟨_, _, _, _, m0, m1', m2, m3, m4⟩ := h.tk
          rcases (show (tks T L i).1 = 0 ∨ (tks T L i).1 = 1 ∨ (tks T L i).1 = 2 ∨ (tks T L i).1 = 6 by omega) with q | q | q | q
          · rw [m0 q]; decide
          · rw [(m1' (Or.inl q)).1]; decide
          · rw [(m2 q).1]; decide
          · rw [(m1' (Or.inr q)).1]; decide
        rw [if_neg e3, h.tk.1, mblm_n h.h8, pb_1, u1_1]
        exact tail _ rfl
/-- who is told here, looked at -/
def lkR (D : AwM) (x : Tk) (k : Int) : Option (Int × Nat) := if x.1 = 3 then (if fnd D k x.2.1 = -1 then some (3, x.2.2.1) else none) else some (1, x.2.2.2.1)
theorem mlook_n (h : MD T L K M b D i) (hD : DC D) (hN : DNa D) {k : Int} (k0 : 0 ≤ k) (k1 : k < 3) : (lkR D (tks T L i) k = none → ((tks T L i).1 = 3 ∧ 0 ≤ fnd D k (tks T L i).2.1 ∧ fnd D k (tks T L i).2.1 < D 0 k) ∧ fX9_looked SH M 167 k = some (fnd D k (tks T L i).2.1, M)) ∧ (∀ kd p, lkR D (tks T L i) k = some (kd, p) → 0 < kd ∧ ∃ M', fX9_looked SH M 167 k = some (0, M') ∧ MBd b M' M kd p) := by
  have tok := tks_ok T L i
  have j41 : ∀ p : Int, fX9_looked_J41 SH (up_ (up_ M 167 8 1) 167 9 p) 167 k = some (0, up_ (up_ M 167 8 1) 167 9 p) := fun p => by
    unfold fX9_looked_J41 fX9_looked_J61 fX9_looked_J83
    rw [kd167, gd_t rfl, if_pos p8_1, gd_t rfl, if_neg (by rw [up_oi (by decide), up_at]; decide), gd_t rfl, if_pos p8_1]
  unfold lkR fX9_looked
  rw [kd167, gd_t rfl]
  by_cases z3 : (tks T L i).1 = 3
  · have m3 := h.tk.2.2.2.2.2.2.2.1 z3
    have n3 := (tok.2.2.2.2.2.2.2.1 z3).1
    have hc := fnd_c (D := D) (k := k) (nm := (tks T L i).2.1) (hD.k k k0 k1).1
    rw [if_pos z3, mlex_n h.tk (by omega), pb_1, u1_1, h.h8, if_neg (show ¬ (0 : Int) < 0 by decide), m3.1, if_pos rfl, misown_n h.tk (Or.inl z3), pb_1, u1_1, decide_eq_false (by omega), if_pos (show bi false = 0 from rfl)]
    unfold fX9_looked_J41 fX9_looked_J61 fX9_looked_J83
    rw [kd167, gd_t rfl, h.h8, if_neg (show ¬ (0 : Int) < 0 by decide), m3.2, mnamed_n h hD hN k0 k1 n3.1, pb_1, u1_1, gd_t rfl, if_pos (show (0 : Int) = 0 from rfl)]
    by_cases z : fnd D k (tks T L i).2.1 = -1
    · rw [if_pos z, if_pos z, h.tk.1, mblm_n h.h8, pb_1, u1_1, gd_t rfl, if_pos (by rw [up_oi (by decide), up_at]; decide)]
      refine ⟨fun q => absurd q (by simp), fun k p q => ?_⟩
      have hh' := Option.some.inj q
      rw [Prod.mk.injEq] at hh'
      obtain ⟨rfl, rfl⟩ := hh'
      exact ⟨by decide, _, rfl, mbd_u rfl⟩
    · rw [if_neg z, if_neg z, gd_t rfl, if_neg (show ¬ (0 : Int) < 0 by decide)]
      refine ⟨fun _ => ⟨⟨z3, ?_⟩, rfl⟩, fun k p q => absurd q (by simp)⟩
      rcases hc with ⟨x, y, _⟩ | ⟨x, _⟩
      · exact ⟨x, y⟩
      · exact absurd x z
  · rw [if_neg z3]
    refine ⟨fun q => absurd q (by simp), fun k p q => ?_⟩
    have hh' := Option.some.inj q
    rw [Prod.mk.injEq] at hh'
    obtain ⟨rfl, rfl⟩ := hh'
    refine ⟨by decide, ?_⟩
    by_cases z5 : (tks T L i).1 = 5
    · exact ⟨_, by rw [mlex_5 h.tk z5 h.h8, pb_1, u1_1, if_pos p8_1], mbd_u rfl⟩
    · refine ⟨_, ?_, mbd_u (p := ((tks T L i).2.2.1 : Int)) (by rw [tkP_s T L i z5])⟩
      rw [mlex_n h.tk z5, pb_1, u1_1, h.h8, if_neg (show ¬ (0 : Int) < 0 by decide)]
      unfold fX9_looked_J32
      by_cases z4 : (tks T L i).1 = 4
      · have m4 := h.tk.2.2.2.2.2.2.2.2 z4
        rw [m4.1, if_pos rfl, misown_n h.tk (Or.inr z4), pb_1, u1_1, decide_eq_true z4, if_neg (show ¬ bi true = 0 by decide), kd167, gd_t rfl, h.tk.1, mblm_n h.h8, pb_1, u1_1]
        exact j41 _
      · have k06 := tok.1
        have e3 : ¬ M 167 3 = 1 := by
          obtain ⟨_, _, _, _, m0, m1', m2, m3, m4⟩ := h.tk
          rcases (show (tks T L i).1 = 0 ∨ (tks T L i).1 = 1 ∨ (tks T L i).1 = 2 ∨ (tks T L i).1 = 6 by omega) with q | q | q | q
          · rw [m0 q]; decide
          · rw [(m1' (Or.inl q)).1]; decide
          · rw [(m2 q).1]; decide
          · rw [(m1' (Or.inr q)).1]; decide
        rw [if_neg e3, kd167, gd_t rfl, h.tk.1, mblm_n h.h8, pb_1, u1_1]
        exact j41 _
theorem asR_0 {D : AwM} {x : Tk} {k : Int} : asR D x k 0 = lkR D x k := by
  unfold asR lkR
  have e : ∀ w : Int, hb 0 w = false := fun w => by unfold hb; simp
  by_cases z : x.1 = 3
  · rw [if_pos z, if_pos z]
    by_cases q : fnd D k x.2.1 = -1
    · rw [if_pos (Or.inl q), if_pos q]
    · rw [if_neg (fun r => r.elim q (fun r => by rw [e] at r; exact absurd r (by decide))), if_neg q]
  · rw [if_neg z, if_neg z]
theorem mask_n (h : MD T L K M b D i) (hD : DC D) (hN : DNa D) {k : Int} (k0 : 0 ≤ k) (k1 : k < 3) : (lkR D (tks T L i) k = none → ((tks T L i).1 = 3 ∧ 0 ≤ fnd D k (tks T L i).2.1 ∧ fnd D k (tks T L i).2.1 < D 0 k) ∧ ∃ M', fX9_asked SH M 167 k = some (fnd D k (tks T L i).2.1, M') ∧ MD T L K M' b D (i + 1) ∧ maf M' M) ∧ (∀ kd p, lkR D (tks T L i) k = some (kd, p) → ∃ M', fX9_asked SH M 167 k = some (0, M') ∧ MBd b M' M kd p) := by
  obtain ⟨a, c⟩ := mlook_n h hD hN k0 k1
  unfold fX9_asked
  rw [kd167, gd_t rfl]
  refine ⟨fun q => ?_, fun kd p q => ?_⟩
  · obtain ⟨x, e⟩ := a q
    obtain ⟨M', e', s, f⟩ := mdnx_n h (by omega)
    exact ⟨x, M', by rw [e, pb_1, u2_1, h.h8, if_pos rfl, e', pb_1, u1_1, s.h8, if_neg (by decide)], s, f⟩
  · obtain ⟨kp, M', e, m1, m2, m3⟩ := c kd p q
    exact ⟨M', by rw [e, pb_1, u2_1, m1, if_neg (by omega), if_pos kp], m1, m2, m3⟩
theorem mcount_n (h : MD T L K M b D i) (hi : 1 ≤ (tks T L i).1 ∧ (tks T L i).1 ≤ 4) {v : Int} : (v = 0 → ∃ M', fX9_counts SH M 167 v = some (1, M') ∧ MD T L K M' b D (i + 1) ∧ maf M' M) ∧ (v ≠ 0 → ∃ M', fX9_counts SH M 167 v = some (0, M') ∧ MBd b M' M 6 (tks T L i).2.2.1) := by
  unfold fX9_counts fX9_counts_J21
  rw [kd167, gd_t rfl, h.h8, if_pos rfl]
  refine ⟨fun q => ?_, fun q => ?_⟩
  · obtain ⟨M', e', s, f⟩ := mdnx_n h hi
    exact ⟨M', by rw [if_pos q, gd_t rfl, if_pos rfl, e', pb_1, u1_1, s.h8, if_pos rfl], s, f⟩
  · refine ⟨_, ?_, mbd_u rfl⟩
    have g8 : (up_ (up_ M 167 8 6) 167 9 ((tks T L i).2.2.1 : Int)) 167 8 ≠ 0 := by rw [up_oi (by decide), up_at]; decide
    rw [if_neg q, h.tk.1, mblm_n h.h8, pb_1, u1_1, gd_t rfl, if_neg g8, if_neg g8]
end PMPR
