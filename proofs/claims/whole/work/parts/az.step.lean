/-! one call of the script -/
section PSTP
theorem jw {f g : AwM → Option (Int × AwM)} {M : AwM} {v : Int} (H : ∀ s d n R mi, BSt f g s d n R mi) (n6 : w32 (v + 6) = v + 6) (h : REL M) : ∃ M', REL M' ∧ pb (f M) (u2 fun (x : Int) (M1 : AwM) => gd_ (kd_ SH 167 = (0, 9)) (pb (g M1) (u2 fun (y : Int) (M2 : AwM) => if x = y then fL_law_J1112_18 SH M2 (-1) 1 167 v else none))) = some (.inl (v + 6, M')) := by
  obtain ⟨s, d, n, R, mi, hc, hm⟩ := h
  obtain ⟨r, s', d', n', R', mi', h1, h2⟩ := H s d n R mi
  obtain ⟨M1, M2, e1, e2, c, m⟩ := both_n h1 h2 hc hm
  refine ⟨M2, ⟨s', d', n', R', mi', c, m⟩, ?_⟩
  rw [e1, pb_1, u2_1, kd167, gd_t rfl, e2, pb_1, u2_1, if_pos rfl]
  unfold fL_law_J1112_18
  rw [n6]
theorem jr {x y : Option Int} {M : AwM} {v : Int} (H : ∃ r, x = some r ∧ y = some r) (n6 : w32 (v + 6) = v + 6) (h : REL M) : ∃ M', REL M' ∧ pb x (u1 fun (a : Int) => gd_ (kd_ SH 167 = (0, 9)) (pb y (u1 fun (b : Int) => if a = b then fL_law_J1112_18 SH M (-1) 1 167 v else none))) = some (.inl (v + 6, M')) := by
  obtain ⟨r, e1, e2⟩ := H
  refine ⟨M, h, ?_⟩
  rw [e1, pb_1, u1_1, kd167, gd_t rfl, e2, pb_1, u1_1, if_pos rfl]
  unfold fL_law_J1112_18
  rw [n6]
theorem js {M : AwM} {v : Int} (n6 : w32 (v + 6) = v + 6) (h : REL M) : ∃ M', REL M' ∧ pb (fX8_society SH M 1) (u2 fun (x : Int) (M1 : AwM) => gd_ (kd_ SH 167 = (0, 9)) (pb (fX9_society SH M1 167) (u2 fun (y : Int) (M2 : AwM) => if x = y then fL_law_J1112_18 SH M2 (-1) 1 167 v else none))) = some (.inl (v + 6, M')) := by
  obtain ⟨s, d, n, R, mi, hc, hm⟩ := h
  obtain ⟨r, M1, M2, s', d', n', R', mi', e1, e2, c, m⟩ := society_b hc hm
  refine ⟨M2, ⟨s', d', n', R', mi', c, m⟩, ?_⟩
  rw [e1, pb_1, u2_1, kd167, gd_t rfl, e2, pb_1, u2_1, if_pos rfl]
  unfold fL_law_J1112_18
  rw [n6]
set_option maxHeartbeats 4000000 in
theorem step_n {xi : Int → Int} {L v : Int} {M : AwM} (hx : ∀ i : Int, I32 (xi i)) (h0 : 0 ≤ v) (h1 : v + 6 ≤ L) (h2 : L ≤ 3072) (h : REL M) : ∃ M', REL M' ∧ fL_law_L18 xi L SH (-1) 1 167 v M = some (.inl (v + 6, M')) := by
  obtain ⟨s, d, n, R, mi, hc, hm⟩ := id h
  unfold fL_law_L18
  rw [w32_s (v := L - 6) (by omega) (by omega), if_neg (by omega), gd_t (by omega), w32_s (v := v + 1) (by omega) (by omega), w32_s (v := v + 2) (by omega) (by omega), w32_s (v := v + 3) (by omega) (by omega), w32_s (v := v + 4) (by omega) (by omega), w32_s (v := v + 5) (by omega) (by omega), kd1]
  by_cases c0 : an_ (xi v) 31 = 0
  · rw [if_pos c0, gd_t (by omega), gd_t (by omega), gd_t (by omega), gd_t (by omega), gd_t (by omega), gd_t rfl]
    exact jw (f := fun M => fX8_feed SH M 1 (xi (v + 1)) (xi (v + 2)) (xi (v + 3)) (xi (v + 4)) (xi (v + 5))) (g := fun M => fX9_feed SH M 167 (xi (v + 1)) (xi (v + 2)) (xi (v + 3)) (xi (v + 4)) (xi (v + 5))) (fun _ _ _ _ _ => feed_b) (w32_s (by omega) (by omega)) h
  rw [if_neg c0]
  by_cases c1 : an_ (xi v) 31 = 1
  · rw [if_pos c1, gd_t (by omega), gd_t rfl]
    exact jw (f := fun M => fX8_end SH M 1 (xi (v + 1))) (g := fun M => fX9_end SH M 167 (xi (v + 1))) (fun _ _ _ _ _ => end_b) (w32_s (by omega) (by omega)) h
  rw [if_neg c1]
  by_cases c2 : an_ (xi v) 31 = 2
  · rw [if_pos c2, gd_t rfl]
    exact js (w32_s (by omega) (by omega)) h
  rw [if_neg c2]
  by_cases c3 : an_ (xi v) 31 = 3
  · rw [if_pos c3, gd_t (by omega), gd_t rfl]
    exact jr (fault_b hc hm _) (w32_s (by omega) (by omega)) h
  rw [if_neg c3]
  by_cases c4 : an_ (xi v) 31 = 4
  · rw [if_pos c4, gd_t (by omega), gd_t rfl]
    exact jr (has_b hc hm _) (w32_s (by omega) (by omega)) h
  rw [if_neg c4]
  by_cases c5 : an_ (xi v) 31 = 5
  · rw [if_pos c5, gd_t (by omega), gd_t (by omega), gd_t (by omega), gd_t rfl]
    exact jr (letter_e hc hm) (w32_s (by omega) (by omega)) h
  rw [if_neg c5]
  by_cases c6 : an_ (xi v) 31 = 6
  · rw [if_pos c6, gd_t (by omega), gd_t (by omega), gd_t rfl]
    exact jr (person_b hc hm _ _) (w32_s (by omega) (by omega)) h
  rw [if_neg c6]
  by_cases c7 : an_ (xi v) 31 = 7
  · rw [if_pos c7, gd_t (by omega), gd_t (by omega), gd_t rfl]
    exact jr (coin_b hc hm _ _) (w32_s (by omega) (by omega)) h
  rw [if_neg c7]
  by_cases c8 : an_ (xi v) 31 = 8
  · rw [if_pos c8, gd_t (by omega), gd_t (by omega), gd_t rfl]
    exact jr (met_b hc hm _ _) (w32_s (by omega) (by omega)) h
  rw [if_neg c8]
  by_cases c9 : an_ (xi v) 31 = 9
  · rw [if_pos c9, gd_t (by omega), gd_t (by omega), gd_t rfl]
    exact jw (f := fun M => fX8_may SH M 1 (xi (v + 1)) (xi (v + 2))) (g := fun M => fX9_may SH M 167 (xi (v + 1)) (xi (v + 2))) (fun _ _ _ _ _ => may_b) (w32_s (by omega) (by omega)) h
  rw [if_neg c9]
  by_cases c10 : an_ (xi v) 31 = 10
  · rw [if_pos c10, gd_t (by omega), gd_t (by omega), gd_t (by omega), gd_t rfl]
    exact jw (f := fun M => fX8_goods SH M 1 (xi (v + 1)) (xi (v + 2)) (xi (v + 3))) (g := fun M => fX9_goods SH M 167 (xi (v + 1)) (xi (v + 2)) (xi (v + 3))) (fun _ _ _ _ _ => goods_b) (w32_s (by omega) (by omega)) h
  rw [if_neg c10]
  by_cases c11 : an_ (xi v) 31 = 11
  · rw [if_pos c11, gd_t (by omega), gd_t (by omega), gd_t rfl]
    exact jr (spend_e hc hm) (w32_s (by omega) (by omega)) h
  rw [if_neg c11]
  by_cases c12 : an_ (xi v) 31 = 12
  · rw [if_pos c12, gd_t (by omega), gd_t (by omega), gd_t rfl]
    exact jw (f := fun M => fX8_present SH M 1 (xi (v + 1)) (xi (v + 2))) (g := fun M => fX9_present SH M 167 (xi (v + 1)) (xi (v + 2))) (fun _ _ _ _ _ => present_b) (w32_s (by omega) (by omega)) h
  rw [if_neg c12]
  by_cases c13 : an_ (xi v) 31 = 13
  · rw [if_pos c13, gd_t (by omega), gd_t (by omega), gd_t rfl]
    exact jw (f := fun M => fX8_pay SH M 1 (xi (v + 1)) (xi (v + 2))) (g := fun M => fX9_pay SH M 167 (xi (v + 1)) (xi (v + 2))) (fun _ _ _ _ _ => pay_b) (w32_s (by omega) (by omega)) h
  rw [if_neg c13]
  by_cases c14 : an_ (xi v) 31 = 14
  · rw [if_pos c14, gd_t (by omega), gd_t (by omega), gd_t (by omega), gd_t rfl]
    exact jw (f := fun M => fX8_buy SH M 1 (xi (v + 1)) (xi (v + 2)) (xi (v + 3))) (g := fun M => fX9_buy SH M 167 (xi (v + 1)) (xi (v + 2)) (xi (v + 3))) (fun _ _ _ _ _ => buy_b (hx _)) (w32_s (by omega) (by omega)) h
  rw [if_neg c14]
  by_cases c15 : an_ (xi v) 31 = 15
  · rw [if_pos c15, gd_t (by omega), gd_t rfl]
    exact jw (f := fun M => fX8_tea SH M 1 (xi (v + 1))) (g := fun M => fX9_tea SH M 167 (xi (v + 1))) (fun _ _ _ _ _ => tea_b (hx _)) (w32_s (by omega) (by omega)) h
  rw [if_neg c15]
  by_cases c16 : an_ (xi v) 31 = 16
  · rw [if_pos c16, gd_t (by omega), gd_t rfl]
    exact jw (f := fun M => fX8_days SH M 1 (xi (v + 1))) (g := fun M => fX9_days SH M 167 (xi (v + 1))) (fun _ _ _ _ _ => days_b) (w32_s (by omega) (by omega)) h
  rw [if_neg c16]
  by_cases c17 : an_ (xi v) 31 = 17
  · rw [if_pos c17, gd_t (by omega), gd_t rfl]
    exact jw (f := fun M => fX8_calls SH M 1 (xi (v + 1))) (g := fun M => fX9_calls SH M 167 (xi (v + 1))) (fun _ _ _ _ _ => calls_b) (w32_s (by omega) (by omega)) h
  rw [if_neg c17]
  by_cases c18 : an_ (xi v) 31 = 18
  · rw [if_pos c18, gd_t rfl]
    exact jw (f := fun M => fX8_undo SH M 1) (g := fun M => fX9_undo SH M 167) (fun _ _ _ _ _ => undo_b) (w32_s (by omega) (by omega)) h
  rw [if_neg c18]
  by_cases c19 : an_ (xi v) 31 = 19
  · rw [if_pos c19, gd_t (by omega), gd_t rfl]
    exact jw (f := fun M => fX8_seed SH M 1 (xi (v + 1))) (g := fun M => fX9_seed SH M 167 (xi (v + 1))) (fun _ _ _ _ _ => seed_b (hx _)) (w32_s (by omega) (by omega)) h
  rw [if_neg c19]
  by_cases c20 : an_ (xi v) 31 = 20
  · rw [if_pos c20, gd_t (by omega), gd_t (by omega), gd_t (by omega), gd_t (by omega), gd_t rfl]
    exact jw (f := fun M => fX8_introduce SH M 1 (xi (v + 1)) (xi (v + 2)) (xi (v + 3)) (xi (v + 4))) (g := fun M => fX9_introduce SH M 167 (xi (v + 1)) (xi (v + 2)) (xi (v + 3)) (xi (v + 4))) (fun _ _ _ _ _ => introduce_b) (w32_s (by omega) (by omega)) h
  rw [if_neg c20]
  by_cases c21 : an_ (xi v) 31 = 21
  · rw [if_pos c21, gd_t (by omega), gd_t (by omega), gd_t (by omega), gd_t rfl]
    exact jw (f := fun M => fX8_comes SH M 1 (xi (v + 1)) (xi (v + 2)) (xi (v + 3))) (g := fun M => fX9_comes SH M 167 (xi (v + 1)) (xi (v + 2)) (xi (v + 3))) (fun _ _ _ _ _ => comes_b (hx _).2) (w32_s (by omega) (by omega)) h
  rw [if_neg c21]
  by_cases c22 : an_ (xi v) 31 = 22
  · rw [if_pos c22, gd_t (by omega), gd_t (by omega), gd_t rfl]
    exact jw (f := fun M => fX8_best SH M 1 (xi (v + 1)) (xi (v + 2))) (g := fun M => fX9_best SH M 167 (xi (v + 1)) (xi (v + 2))) (fun _ _ _ _ _ => best_b) (w32_s (by omega) (by omega)) h
  rw [if_neg c22]
  by_cases c23 : an_ (xi v) 31 = 23
  · rw [if_pos c23, gd_t rfl]
    exact jw (f := fun M => fX8_letters SH M 1) (g := fun M => fX9_letters SH M 167) (fun _ _ _ _ _ => letters_b) (w32_s (by omega) (by omega)) h
  rw [if_neg c23]
  by_cases c24 : an_ (xi v) 31 = 24
  · rw [if_pos c24, gd_t (by omega), gd_t rfl]
    exact jr (letterIs_b hc hm _) (w32_s (by omega) (by omega)) h
  rw [if_neg c24]
  by_cases c25 : an_ (xi v) 31 = 25
  · rw [if_pos c25, gd_t (by omega), gd_t (by omega), gd_t rfl]
    exact jr (fair_e hc hm) (w32_s (by omega) (by omega)) h
  rw [if_neg c25]
  by_cases c26 : an_ (xi v) 31 = 26
  · rw [if_pos c26, gd_t (by omega), gd_t (by omega), gd_t rfl]
    exact jw (f := fun M => fX8_later SH M 1 (xi (v + 1)) (xi (v + 2))) (g := fun M => fX9_later SH M 167 (xi (v + 1)) (xi (v + 2))) (fun _ _ _ _ _ => later_b) (w32_s (by omega) (by omega)) h
  rw [if_neg c26]
  by_cases c27 : an_ (xi v) 31 = 27
  · rw [if_pos c27, gd_t (by omega), gd_t rfl]
    exact jw (f := fun M => fX8_useless SH M 1 (xi (v + 1))) (g := fun M => fX9_useless SH M 167 (xi (v + 1))) (fun _ _ _ _ _ => useless_b) (w32_s (by omega) (by omega)) h
  rw [if_neg c27]
  by_cases c28 : an_ (xi v) 31 = 28
  · rw [if_pos c28, gd_t rfl]
    exact jw (f := fun M => fX8_image SH M 1) (g := fun M => fX9_image SH M 167) (fun _ _ _ _ _ => image_b) (w32_s (by omega) (by omega)) h
  rw [if_neg c28]
  by_cases c29 : an_ (xi v) 31 = 29
  · rw [if_pos c29, gd_t (by omega), gd_t rfl]
    exact jr (octet_b hc hm _) (w32_s (by omega) (by omega)) h
  rw [if_neg c29]
  by_cases c30 : an_ (xi v) 31 = 30
  · rw [if_pos c30, gd_t rfl]
    exact jw (f := fun M => fX8_on SH M 1) (g := fun M => fX9_on SH M 167) (fun _ _ _ _ _ => on_b) (w32_s (by omega) (by omega)) h
  rw [if_neg c30]
  by_cases c31 : an_ (xi v) 31 = 31
  · rw [if_pos c31, gd_t (by omega), gd_t rfl]
    exact jr (status_b hc hm _) (w32_s (by omega) (by omega)) h
  rw [if_neg c31]
  refine ⟨M, h, ?_⟩
  unfold fL_law_J1112_18
  rw [w32_s (v := v + 6) (by omega) (by omega)]
theorem len_1 : ((([(9, 0)] : AwS).length : Nat) : Int) = 1 := rfl
theorem app_1 : ([(9, 0)] : AwS) ++ [(0, 8)] = [(9, 0), (0, 8)] := rfl
theorem pure_ : PURE_ := by
  intro xi L h0 h1 hx
  obtain ⟨sh7, M8, M, e1, e2, e3, hR⟩ := start_n
  have key := lp_rel (body := u2 (fL_law_L18 xi L SH (-1) 1 167)) (P := fun j (t : Int × AwM) => t.1 = 6 * (j : Int) ∧ 6 * (j : Int) ≤ 3072 ∧ REL t.2) (X := fun _ => True) (n := 512) ?_ FU (0, M) (FU_gt (by omega)) ⟨rfl, by decide, hR⟩
  · obtain ⟨r, er, _⟩ := key
    unfold fL_law
    rw [bd_1, bd_1, len_1, app_1, gd_t (by decide), e1, pb_1, u2_1, bd_1, bd_1, e2, gd_t (by decide), e3, pb_1, u2_1, er, pb_1, u1_1]
  · rintro j ⟨v, W⟩ hj ⟨hv, hj2, hr⟩
    dsimp only at hv hr
    subst hv
    rw [u2_1]
    by_cases z : 6 * (j : Int) + 6 ≤ L
    · obtain ⟨M', r', e'⟩ := step_n hx (by omega) z h1 hr
      exact Or.inl ⟨by omega, _, e', by show 6 * (j : Int) + 6 = _; omega, by omega, r'⟩
    · refine Or.inr ⟨W, ?_, trivial⟩
      unfold fL_law_L18
      rw [w32_s (v := L - 6) (by omega) (by omega), if_pos (by omega)]
end PSTP
