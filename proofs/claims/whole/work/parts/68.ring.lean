/-! acts kept, undone: both sides -/
section PRING
def kpR (d : AwM) (R : Int → AwM) : Int → AwM := fun j => if j = 0 then d else R (j - 1)
theorem led_n : (List.range 20).all (fun k => decide ((28 + 5 * (k : Int)) ∈ ledL) && layT.contains (27, (k : Int), 28 + 5 * (k : Int))) = true := by decide +kernel
theorem led_at {k : Int} (k0 : 0 ≤ k) (k1 : k < 20) : (28 + 5 * k) ∈ ledL ∧ layT.contains (27, k, 28 + 5 * k) = true := by
  obtain ⟨j, rfl⟩ := Int.eq_ofNat_of_zero_le k0
  have := List.all_eq_true.mp led_n j (List.mem_range.mpr (by omega))
  rw [Bool.and_eq_true, decide_eq_true_iff] at this
  exact this
theorem led_k0 {a : Int} (ha : a ∈ ledL) : kd_ SH a = (0, 3) := (of_decide_eq_true (List.all_eq_true.mp led_k a ha)).1
theorem tmod20 {x : Int} (h : 0 ≤ x) : x.tmod 20 = x % 20 := Int.tmod_eq_emod_of_nonneg h
theorem lay_hr : layT.all (fun q => decide (¬ (q.1 = 26 ∧ 1 ≤ q.2.1) ∧ ¬ (q.1 = 154 ∧ q.2.1 = 0) ∧ ¬ (28 ≤ q.1 ∧ q.1 ≤ 127 ∧ q.2.1 = 0))) = true := by decide +kernel
theorem keep_n {M s d : AwM} {n : Int} {R : Int → AwM} {mi : AwM} (h : CR M s d n R mi) : ∃ M', fX2_keep SH M 26 154 = some M' ∧ CR M' s d (min 20 (n + 1)) (kpR d R) mi ∧ hif M' M ∧ M' 1 3 = M 1 3 := by
  have l := h.lay
  have hso := h.cc.hso
  obtain ⟨⟨x0, x1⟩, y1, ⟨z0, z1⟩, hR⟩ := h.hi
  have e154 : (154 : Int) ∈ ledL := by decide
  obtain ⟨m1, m2⟩ := led_at x0 x1
  have k0 := led_k0 m1
  have l27 := lay_c l m2
  obtain ⟨M5, e5, f5, g0, g1, g4⟩ := copyFrom_n l m1 e154 (by omega)
  have x5 : M5 26 1 = M 26 1 := f5 _ _ (by omega) (by omega)
  have y5 : M5 26 2 = n := (f5 _ _ (by omega) (by omega)).trans y1
  have fM : ∀ a i, ¬ (28 + 5 * M 26 1 + 1 ≤ a ∧ a ≤ 28 + 5 * M 26 1 + 4) → ¬ (a = 28 + 5 * M 26 1 ∧ i = 0) → ¬ (a = 26 ∧ (i = 1 ∨ i = 2)) → up_ (up_ M5 26 1 ((M 26 1 + 1) % 20)) 26 2 (min 20 (n + 1)) a i = M a i := by
    intro a i x y z
    rw [show up_ (up_ M5 26 1 ((M 26 1 + 1) % 20)) 26 2 (min 20 (n + 1)) a i = up_ M5 26 1 ((M 26 1 + 1) % 20) a i from if_neg (by omega)]
    rw [show up_ M5 26 1 ((M 26 1 + 1) % 20) a i = M5 a i from if_neg (by omega)]
    exact f5 a i x y
  refine ⟨up_ (up_ M5 26 1 ((M 26 1 + 1) % 20)) 26 2 (min 20 (n + 1)), ?_, ?_, ?_, ?_⟩
  · unfold fX2_keep
    rw [kd26, gd_t rfl, ly26_0 l, kd27, ga_t x0 (by omega), l27, k0, gd_t rfl, e5, pb_1, u1_1, x5, w32_s (v := M 26 1 + 1) (by omega) (by omega), tmod20 (by omega), bd_1, up_oi (by decide), y5, w32_s (by omega) (by omega), min32_n, pb_1, u1_1, bd_1]
  · have e3 : up_ (up_ M5 26 1 ((M 26 1 + 1) % 20)) 26 2 (min 20 (n + 1)) 1 3 = M 1 3 := fM _ _ (by omega) (by omega) (by omega)
    have hl : LAY (up_ (up_ M5 26 1 ((M 26 1 + 1) % 20)) 26 2 (min 20 (n + 1))) := by
      refine LAY_fq l (fun q hq => ?_)
      have := of_decide_eq_true (List.all_eq_true.mp lay_hr q hq)
      have c2 := List.all_eq_true.mp lay_ob q hq
      refine fM _ _ (fun z => ?_) (fun z => by omega) (fun z => by omega)
      obtain ⟨-, -, -, -, -, -, -, -, -, -, -, o1, o2, o3, o4⟩ := of_decide_eq_true (List.all_eq_true.mp led_k _ m1)
      have cq : q.1 ∈ obL := by simpa using c2
      have : q.1 = 28 + 5 * M 26 1 + 1 ∨ q.1 = 28 + 5 * M 26 1 + 2 ∨ q.1 = 28 + 5 * M 26 1 + 3 ∨ q.1 = 28 + 5 * M 26 1 + 4 := by omega
      rcases this with w | w | w | w
      · exact o1 (w ▸ cq)
      · exact o2 (w ▸ cq)
      · exact o3 (w ▸ cq)
      · exact o4 (w ▸ cq)
    refine ⟨?_, ?_, ?_, own_fr h.ow (fun i => fM _ _ (by omega) (by omega) (by omega)), ⟨?_, ?_, by omega, ?_⟩, h.mk, CMi_fr h.mi (fun i => fM _ _ (by omega) (by omega) (by omega)) (fun i => fM _ _ (by omega) (by omega) (by omega)) (fun i => fM _ _ (by omega) (by omega) (by omega)) (fun a i _ _ => fM _ _ (by omega) (by omega) (by omega))⟩
    · rw [e3]; exact CC_fr h.cc hl (fM _ _ (by omega) (by omega) (by omega)) (fun a i _ _ _ => fM a i (by omega) (by omega) (by omega)) (fun a i _ _ => fM a i (by omega) (by omega) (by omega))
    · rw [e3, fM _ _ (by omega) (by omega) (by omega)]; exact h.tr
    · rw [e3, fM _ _ (by omega) (by omega) (by omega)]; exact h.dr
    · rw [up_oi (by decide), up_at]; omega
    · exact up_at
    · intro j j0 j1
      rw [up_oi (by decide), up_at]
      unfold kpR
      by_cases g : j = 0
      · rw [if_pos g, g]
        refine ⟨h.cc.ld, ?_⟩
        rw [show ((M 26 1 + 1) % 20 + 19 - 0) % 20 = M 26 1 by omega]
        have w : CL M5 (28 + 5 * M 26 1) s d := CL_cp h.cc.cl h.cc.ok g0 g1 g4
        exact CL_fr w ((up_of (by omega)).trans (up_of (by omega))) (fun a i _ _ => (up_of (by omega)).trans (up_of (by omega)))
      · rw [if_neg g]
        obtain ⟨u1, u2⟩ := hR (j - 1) (by omega) (by omega)
        refine ⟨u1, ?_⟩
        rw [show ((M 26 1 + 1) % 20 + 19 - j) % 20 = (M 26 1 + 19 - (j - 1)) % 20 by omega]
        exact CL_fr u2 (fM _ _ (by omega) (by omega) (by omega)) (fun a i _ _ => fM _ _ (by omega) (by omega) (by omega))
  · intro a i x
    exact fM _ _ (by omega) (by omega) (by omega)
  · exact fM _ _ (by omega) (by omega) (by omega)
theorem give_n {M s d : AwM} {n : Int} {R : Int → AwM} {mi : AwM} (h : CR M s d n R mi) (hn : 0 < n) : ∃ M', fX2_giveBack SH M 26 154 = some M' ∧ CR M' s (R 0) (n - 1) (fun j => R (j + 1)) mi ∧ hif M' M := by
  have l := h.lay
  have hso := h.cc.hso
  obtain ⟨⟨x0, x1⟩, y1, ⟨z0, z1⟩, hR⟩ := h.hi
  have e154 : (154 : Int) ∈ ledL := by decide
  have kx : (M 26 1 + 20 - 1) % 20 = (M 26 1 + 19) % 20 := by omega
  obtain ⟨m1, m2⟩ := led_at (k := (M 26 1 + 19) % 20) (by omega) (by omega)
  have k0 := led_k0 m1
  have l2 : LAY (up_ M 26 1 ((M 26 1 + 19) % 20)) := by
    refine LAY_fq l (fun q hq => ?_)
    have := of_decide_eq_true (List.all_eq_true.mp lay_hr q hq)
    exact if_neg (by omega)
  have l27 := lay_c l2 m2
  obtain ⟨M5, e5, f5, g0, g1, g4⟩ := copyFrom_n l2 e154 m1 (by omega)
  have y5 : M5 26 2 = n := ((f5 _ _ (by omega) (by omega)).trans (up_oi (by decide))).trans y1
  have fM : ∀ a i, ¬ (155 ≤ a ∧ a ≤ 158) → ¬ (a = 154 ∧ i = 0) → ¬ (a = 26 ∧ (i = 1 ∨ i = 2)) → up_ M5 26 2 (n - 1) a i = M a i := by
    intro a i x y z
    rw [show up_ M5 26 2 (n - 1) a i = M5 a i from if_neg (by omega), f5 a i (by omega) (by omega)]
    exact if_neg (by omega)
  refine ⟨up_ M5 26 2 (n - 1), ?_, ?_, ?_⟩
  · unfold fX2_giveBack
    rw [kd26, gd_t rfl, w32_s (v := M 26 1 + 20) (by omega) (by omega), w32_s (v := M 26 1 + 20 - 1) (by omega) (by omega), tmod20 (by omega), kx, bd_1, up_at, ly26_0 l2, kd27, ga_t (by omega) (by omega), kd154, gd_t rfl, l27, e5, pb_1, u1_1, y5, w32_s (by omega) (by omega), bd_1]
  · have e3 : up_ M5 26 2 (n - 1) 1 3 = M 1 3 := fM _ _ (by omega) (by omega) (by omega)
    have hl : LAY (up_ M5 26 2 (n - 1)) := by
      refine LAY_fq l (fun q hq => ?_)
      have := of_decide_eq_true (List.all_eq_true.mp lay_hr q hq)
      have c2 := List.all_eq_true.mp lay_ob q hq
      have cq : q.1 ∈ obL := by simpa using c2
      refine fM _ _ (fun z => ?_) (fun z => by omega) (fun z => by omega)
      have : q.1 = 155 ∨ q.1 = 156 ∨ q.1 = 157 ∨ q.1 = 158 := by omega
      rcases this with w | w | w | w <;> rw [w] at cq <;> revert cq <;> decide
    obtain ⟨u1, u2⟩ := hR 0 (by omega) hn
    have w : CL M5 154 s (R 0) := by
      have u3 : CL (up_ M 26 1 ((M 26 1 + 19) % 20)) (28 + 5 * ((M 26 1 + 19) % 20)) s (R 0) := by
        rw [show M 26 1 + 19 - 0 = M 26 1 + 19 by omega] at u2
        exact CL_fr u2 (up_of (by omega)) (fun a i _ _ => up_of (by omega))
      exact CL_cp u3 h.cc.ok g0 g1 g4
    refine ⟨?_, ?_, ?_, own_fr h.ow (fun i => fM _ _ (by omega) (by omega) (by omega)), ⟨?_, ?_, by omega, ?_⟩, h.mk, CMi_fr h.mi (fun i => fM _ _ (by omega) (by omega) (by omega)) (fun i => fM _ _ (by omega) (by omega) (by omega)) (fun i => fM _ _ (by omega) (by omega) (by omega)) (fun a i _ _ => fM _ _ (by omega) (by omega) (by omega))⟩
    · rw [e3]
      exact ⟨hl, Or.inl rfl, hso, (fM _ _ (by omega) (by omega) (by omega)).trans h.cc.ref, h.cc.ok, u1, CS_fr h.cc.cs (fun a i _ _ _ => fM a i (by omega) (by omega) (by omega)), CL_fr w (up_of (by decide)) (fun a i _ _ => up_of (by omega))⟩
    · rw [e3, fM _ _ (by omega) (by omega) (by omega)]; exact h.tr
    · rw [e3, fM _ _ (by omega) (by omega) (by omega)]; exact h.dr
    · rw [up_oi (by decide), f5 _ _ (by omega) (by omega), up_at]; omega
    · exact up_at
    · intro j j0 j1
      rw [up_oi (by decide), f5 _ _ (by omega) (by omega), up_at]
      obtain ⟨u1, u2⟩ := hR (j + 1) (by omega) (by omega)
      refine ⟨u1, ?_⟩
      rw [show ((M 26 1 + 19) % 20 + 19 - j) % 20 = (M 26 1 + 19 - (j + 1)) % 20 by omega]
      exact CL_fr u2 (fM _ _ (by omega) (by omega) (by omega)) (fun a i _ _ => fM _ _ (by omega) (by omega) (by omega))
  · intro a i x
    exact fM _ _ (by omega) (by omega) (by omega)
theorem lay_hm : layT.all (fun q => decide (¬ (q.1 = 167 ∧ (q.2.1 = 53 ∨ q.2.1 = 54)) ∧ ¬ (197 ≤ q.1))) = true := by decide +kernel
theorem ring_n {M : AwM} {x k : Int} (hx : M 167 53 = x) (x0 : 0 ≤ x) (x1 : x < 20) (k0 : 0 ≤ k) (k1 : k < 20) : fX9_ring SH M 167 k = some (2 + (x + k) % 20) := by
  unfold fX9_ring
  rw [kd167, gd_t rfl, hx, w32_s (v := x + k) (by omega) (by omega), tmod20 (by omega), w32_s (by omega) (by omega)]
theorem mkeep_n {M s d : AwM} {n : Int} {R : Int → AwM} {mi : AwM} (h : MR M s d n R mi) : ∃ M', fX9_keeps SH M 167 = some M' ∧ MR M' s d (min 20 (n + 1)) (kpR d R) mi ∧ lof M' M := by
  have l := h.lay
  have ho := h.mm.ok
  obtain ⟨⟨x0, x1⟩, y1, ⟨z0, z1⟩, hR⟩ := h.hi
  obtain ⟨y, Mu, hy0, hy1, eu, fu, ux, un⟩ : ∃ (y : Int) (Mu : AwM), 0 ≤ y ∧ y < 20 ∧ (fX9_keeps SH M 167 = pb (fX9_ring SH Mu 167 (min 19 n)) (u1 fun (x4 : Int) => (pb (fX9_copies SH Mu 167 x4 0) <| u1 fun (M6 : AwM) => (bd_ (up_ M6 167 54 (w32 ((M6 167 54) + 1))) fun (M7 : AwM) => (some M7))))) ∧ (∀ a i, ¬ (a = 167 ∧ (i = 53 ∨ i = 54)) → Mu a i = M a i) ∧ Mu 167 53 = y ∧ (Mu 167 54 = min 19 n ∧ y = (if n = 20 then (M 167 53 + 1) % 20 else M 167 53)) := by
    by_cases g : n = 20
    · refine ⟨(M 167 53 + 1) % 20, up_ (up_ M 167 53 ((M 167 53 + 1) % 20)) 167 54 19, by omega, by omega, ?_, ?_, ?_, ?_, ?_⟩
      · unfold fX9_keeps
        rw [kd167, gd_t rfl, y1, if_pos g, w32_s (v := M 167 53 + 1) (by omega) (by omega), tmod20 (by omega), bd_1, show up_ M 167 53 ((M 167 53 + 1) % 20) 167 54 = n from (up_oi (by decide)).trans y1, g, bd_1, show w32 (20 - 1) = 19 from by decide, up_at]
        rfl
      · intro a i x
        exact (if_neg (by omega)).trans (if_neg (by omega))
      · rw [up_oi (by decide), up_at]
      · rw [up_at]; omega
      · rw [if_pos g]
    · refine ⟨M 167 53, M, x0, x1, ?_, fun _ _ _ => rfl, rfl, by omega, by rw [if_neg g]⟩
      unfold fX9_keeps
      rw [kd167, gd_t rfl, y1, if_neg g, show min 19 n = n by omega]
  obtain ⟨un, hy⟩ := un
  have lu : LAY Mu := LAY_fq l (fun q hq => fu _ _ (by
    have := of_decide_eq_true (List.all_eq_true.mp lay_hm q hq)
    omega))
  have hB : ML Mu 0 s d := ML_fr h.mm.ml ho (fu _ _ (by omega)) (fun a i _ _ _ _ => fu _ _ (by omega)) (fun i _ _ => fu _ _ (by omega))
  obtain ⟨M6, e6, f6, g6⟩ := copies_n (A := 2 + (y + min 19 n) % 20) (B := 0) lu ho (by omega) (by omega) (by decide) (by decide) (by omega) hB
  have y6 : M6 167 54 = min 19 n := (f6 _ _ (by omega) (by omega) (by omega)).trans un
  have x6 : M6 167 53 = y := (f6 _ _ (by omega) (by omega) (by omega)).trans ux
  have fM : ∀ a i, ¬ (a = 167 ∧ (i = 53 ∨ i = 54)) → ¬ (a = 197 ∧ i = 2 + (y + min 19 n) % 20) → ¬ (198 ≤ a ∧ a ≤ 200 ∧ 12 * (2 + (y + min 19 n) % 20) ≤ i ∧ i < 12 * (2 + (y + min 19 n) % 20) + 12) → ¬ (a = 201 ∧ 120 * (2 + (y + min 19 n) % 20) ≤ i ∧ i < 120 * (2 + (y + min 19 n) % 20) + 120) → up_ M6 167 54 (min 19 n + 1) a i = M a i := by
    intro a i x1 x2 x3 x4
    rw [show up_ M6 167 54 (min 19 n + 1) a i = M6 a i from if_neg (by omega), f6 a i x2 x3 x4, fu a i x1]
  refine ⟨up_ M6 167 54 (min 19 n + 1), ?_, ?_, ?_⟩
  · rw [eu, ring_n ux hy0 hy1 (by omega) (by omega), pb_1, u1_1, e6, pb_1, u1_1, y6, w32_s (by omega) (by omega), bd_1]
  · have e3 : up_ M6 167 54 (min 19 n + 1) 167 13 = M 167 13 := fM _ _ (by omega) (by omega) (by omega) (by omega)
    have hl : LAY (up_ M6 167 54 (min 19 n + 1)) := LAY_fq l (fun q hq => by
      have := of_decide_eq_true (List.all_eq_true.mp lay_hm q hq)
      exact fM _ _ (by omega) (by omega) (by omega) (by omega))
    refine ⟨?_, ⟨?_, ?_, by omega, ?_⟩, h.mk, MMi_fr h.mi (fun i _ => fM _ _ (by omega) (by omega) (by omega) (by omega)) (fun i => fM _ _ (by omega) (by omega) (by omega) (by omega)) (fun i => fM _ _ (by omega) (by omega) (by omega) (by omega)) (fun i => fM _ _ (by omega) (by omega) (by omega) (by omega)) (fun i => fM _ _ (by omega) (by omega) (by omega) (by omega))⟩
    · rw [e3]
      exact ⟨hl, e3, h.mm.b01, h.mm.l21, ho, h.mm.ld, MS_fr h.mm.ms (fun a i _ _ => fM a i (by omega) (by omega) (by omega) (by omega)), ML_fr h.mm.ml ho (fM _ _ (by omega) (by omega) (by omega) (by omega)) (fun a i _ _ _ _ => fM a i (by omega) (by omega) (by omega) (by omega)) (fun i _ _ => fM 201 i (by omega) (by omega) (by omega) (by omega))⟩
    · rw [up_oi (by decide), x6]; omega
    · rw [up_at]; omega
    · intro j j0 j1
      rw [up_oi (by decide), x6]
      unfold kpR
      by_cases g : j = 0
      · rw [if_pos g, g]
        refine ⟨h.mm.ld, ?_⟩
        rw [show 2 + (y + (min 20 (n + 1) - 1 - 0)) % 20 = 2 + (y + min 19 n) % 20 by omega]
        exact ML_fr g6 ho (up_of (by decide)) (fun a i _ _ _ _ => up_of (by omega)) (fun i _ _ => up_of (by decide))
      · rw [if_neg g]
        obtain ⟨u1, u2⟩ := hR (j - 1) (by omega) (by omega)
        refine ⟨u1, ?_⟩
        rw [show 2 + (y + (min 20 (n + 1) - 1 - j)) % 20 = 2 + (M 167 53 + (n - 1 - (j - 1))) % 20 by
          rw [hy]
          by_cases w : n = 20
          · rw [if_pos w]; omega
          · rw [if_neg w]; omega]
        have hne : 2 + (M 167 53 + (n - 1 - (j - 1))) % 20 ≠ 2 + (y + min 19 n) % 20 := by
          rw [hy]
          by_cases w : n = 20
          · rw [if_pos w]; omega
          · rw [if_neg w]; omega
        exact ML_fr u2 ho (fM _ _ (by omega) (by omega) (by omega) (by omega)) (fun a i _ _ _ _ => fM _ _ (by omega) (by omega) (by omega) (by omega)) (fun i _ _ => fM _ _ (by omega) (by omega) (by omega) (by omega))
  · intro a i x
    exact fM _ _ (by omega) (by omega) (by omega) (by omega)
end PRING
