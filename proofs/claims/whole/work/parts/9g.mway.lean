/-! the way is told, the model -/
section PMWA
theorem mway_at {P : Int} {l : List (Int × Int × Int × Int)} {M : AwM} (hP : 0 ≤ P ∧ P ≤ 10) (hq : QOK P l) (h : MQu M P l) {x : Int × Int × Int × Int} (xm : x ∈ l) : ∀ {ys : List (Int × Int × Int × Int)}, Way l ys x → (0 ≤ cdM x.1 x.2.1 ∧ cdM x.1 x.2.1 < 10240) ∧ (match ys with
    | [] => M 203 (cdM x.1 x.2.1) = -1
    | y :: _ => M 203 (cdM x.1 x.2.1) = cdM y.1 y.2.1 ∧ 0 ≤ cdM y.1 y.2.1 ∧ M 204 (cdM x.1 x.2.1) = x.2.2.2)
  | [], hw => by
    have nb := nd_b hP (hq.1 x xm)
    have hm := (h.2.2.1 x xm).2
    have hw' : x.2.2.1 = -1 := hw
    rw [show fmM x = -1 from if_pos hw'] at hm
    exact ⟨⟨nb.1, nb.2.1⟩, hm⟩
  | y :: ys, hw => by
    have nb := nd_b hP (hq.1 x xm)
    have nb' := nd_b hP (hq.1 y hw.2.1)
    obtain ⟨ha, hm⟩ := h.2.2.1 x xm
    rw [show acM x = x.2.2.2 from if_neg hw.1] at ha
    rw [show fmM x = cdM x.2.2.1 (prv x) from if_neg hw.1, ← hw.2.2.1, ← hw.2.2.2.1] at hm
    exact ⟨⟨nb.1, nb.2.1⟩, hm, nb'.1, ha⟩
theorem mcount_l {P : Int} {l : List (Int × Int × Int × Int)} {M : AwM} (hl : LAY M) (hP : 0 ≤ P ∧ P ≤ 10) (hq : QOK P l) (h : MQu M P l) {v3 v4 : Int} : ∀ (ys : List (Int × Int × Int × Int)) (x : Int × Int × Int × Int) (n N : Nat), x ∈ l → Way l ys x → n + ys.length ≤ 1000 → ys.length < N → lp (u2 (fX9_comes_L41 SH M 167 v3 v4)) N ((n : Int), cdM x.1 x.2.1) = some ((n + ys.length : Nat) : Int)
  | [], x, n, N, xm, hw, hn, hN => by
    obtain ⟨N, rfl⟩ : ∃ k, N = k + 1 := ⟨N - 1, by omega⟩
    have a := mway_at hP hq h xm hw
    have a2 : M 203 (cdM x.1 x.2.1) = -1 := a.2
    refine lp_st ?_
    rw [u2_1]
    unfold fX9_comes_L41
    rw [kd167, gd_t rfl, ly167_63 hl, kd203, ga_t a.1.1 a.1.2, a2, if_pos rfl]
    simp
  | y :: ys, x, n, N, xm, hw, hn, hN => by
    obtain ⟨N, rfl⟩ : ∃ k, N = k + 1 := ⟨N - 1, by omega⟩
    rw [List.length_cons] at hn hN
    have a := mway_at hP hq h xm hw
    have a2 : M 203 (cdM x.1 x.2.1) = cdM y.1 y.2.1 ∧ 0 ≤ cdM y.1 y.2.1 ∧ M 204 (cdM x.1 x.2.1) = x.2.2.2 := a.2
    rw [lp_go (s' := (((n + 1 : Nat) : Int), cdM y.1 y.2.1)), mcount_l hl hP hq h ys y (n + 1) N hw.2.1 hw.2.2.2.2 (by omega) (by omega)]
    · rw [List.length_cons, show n + 1 + ys.length = n + (ys.length + 1) by omega]
    · rw [u2_1]
      unfold fX9_comes_L41
      rw [kd167, gd_t rfl, ly167_63 hl, kd203, ga_t a.1.1 a.1.2, a2.1, if_neg (by omega), w32_s (v := (n : Int) + 1) (by omega) (by omega)]
      rfl
theorem mback_l {P : Int} {l : List (Int × Int × Int × Int)} {M : AwM} (hl : LAY M) (hP : 0 ≤ P ∧ P ≤ 10) (hq : QOK P l) (h : MQu M P l) {k : Int} (k0 : 0 ≤ k) (k1 : k ≤ 1000) : ∀ (t : Nat) (ys : List (Int × Int × Int × Int)) (x : Int × Int × Int × Int) (N : Nat), x ∈ l → Way l ys x → t ≤ ys.length → t ≤ 1000 → t < N → lp (u2 (fX9_comes_L99 SH M 167 k)) N (cdM x.1 x.2.1, k + (t : Int)) = some (cdM (wat ys x t).1 (wat ys x t).2.1)
  | 0, ys, x, N, xm, hw, ht, t1, hN => by
    obtain ⟨N, rfl⟩ : ∃ k, N = k + 1 := ⟨N - 1, by omega⟩
    rw [wat_0]
    refine lp_st ?_
    rw [u2_1]
    unfold fX9_comes_L99
    rw [if_neg (by omega)]
  | t + 1, [], x, N, xm, hw, ht, t1, hN => absurd ht (by simp)
  | t + 1, y :: ys, x, N, xm, hw, ht, t1, hN => by
    obtain ⟨N, rfl⟩ : ∃ k, N = k + 1 := ⟨N - 1, by omega⟩
    rw [List.length_cons] at ht
    have a := mway_at hP hq h xm hw
    have a2 : M 203 (cdM x.1 x.2.1) = cdM y.1 y.2.1 ∧ 0 ≤ cdM y.1 y.2.1 ∧ M 204 (cdM x.1 x.2.1) = x.2.2.2 := a.2
    rw [lp_go (s' := (cdM y.1 y.2.1, k + (t : Int))), mback_l hl hP hq h k0 k1 t ys y N hw.2.1 hw.2.2.2.2 (by omega) (by omega) (by omega)]
    · rfl
    · rw [u2_1]
      unfold fX9_comes_L99
      rw [if_pos (by omega), kd167, gd_t rfl, ly167_63 hl, kd203, ga_t a.1.1 a.1.2, a2.1, w32_s (by omega) (by omega), show k + ((t + 1 : Nat) : Int) + -1 = k + (t : Int) by omega]
/-- behind the model's search -/
theorem mtold_n {P : Int} {l : List (Int × Int × Int × Int)} {M : AwM} (hl : LAY M) (hP : 0 ≤ P ∧ P ≤ 10) (hq : QOK P l) (h : MQu M P l) {k : Int} {ys : List (Int × Int × Int × Int)} {x : Int × Int × Int × Int} (xm : x ∈ l) (hw : Way l ys x) (hn : ys.length ≤ 20) :
    (pb (lp (u2 (fX9_comes_L41 SH M 167 k (cdM x.1 x.2.1))) FU (0, cdM x.1 x.2.1)) (u1 (fun (tq15 : Int) => (if k = (-1) then some (tq15, M) else pb (fX9_is SH M k 0 (w32 (tq15 - 1))) <| u1 fun (x18 : Int) => ((if x18 = 0 then some ((-1), M) else pb (lp (u2 (fX9_comes_L99 SH M 167 k)) FU (cdM x.1 x.2.1, (w32 (tq15 - 1)))) (u1 (fun (tq23 : Int) => gd_ ((kd_ SH (M 167 64)).1 = 1 ∧ (0 : Int) ≤ tq23 ∧ tq23 < ((kd_ SH (M 167 64)).2 : Int)) (some ((M (M 167 64) tq23), M)))))))))) = some ((if k = -1 then (ys.length : Int) else if 0 ≤ k ∧ k < (ys.length : Int) then (wat ys x (ys.length - 1 - k.toNat)).2.2.2 else -1), M) := by
  have e1 := mcount_l (v3 := k) (v4 := cdM x.1 x.2.1) hl hP hq h ys x 0 FU xm hw (by omega) (FU_gt (by omega))
  rw [show ((0 : Nat) : Int) = 0 from rfl, Nat.zero_add] at e1
  rw [e1, pb_1, u1_1]
  by_cases z : k = -1
  · rw [if_pos z, if_pos z]
  · rw [if_neg z, if_neg z, is_n (by omega) (by omega), pb_1, u1_1, bi_if]
    by_cases z2 : 0 ≤ k ∧ k < (ys.length : Int)
    · have e2 := mback_l hl hP hq h z2.1 (by omega) (ys.length - 1 - k.toNat) ys x FU xm hw (by omega) (by omega) (FU_gt (by omega))
      rw [show k + ((ys.length - 1 - k.toNat : Nat) : Int) = (ys.length : Int) - 1 by omega] at e2
      obtain ⟨wm, wn⟩ := wat_m (l := l) ys x (ys.length - 1 - k.toNat) xm hw
      have nb := nd_b hP (hq.1 _ wm)
      have ha := (h.2.2.1 _ wm).1
      rw [show acM (wat ys x (ys.length - 1 - k.toNat)) = (wat ys x (ys.length - 1 - k.toNat)).2.2.2 from if_neg (wn (by omega))] at ha
      rw [if_pos (decide_eq_true z2), if_pos z2, w32_s (v := (ys.length : Int) - 1) (by omega) (by omega), e2, pb_1, u1_1, ly167_64 hl, kd204, ga_t nb.1 nb.2.1, ha]
    · rw [if_neg (by rw [decide_eq_false z2]; decide), if_neg z2]
end PMWA
