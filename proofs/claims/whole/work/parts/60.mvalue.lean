/-! the model's value of a formula -/
section PMVAL
def mfa (M : AwM) : Int → Int := fun k => M 167 (57 + k)
theorem part_n {M : AwM} {k v : Int} (k0 : 0 ≤ k) (k1 : k ≤ 9) (h79 : k ≤ 6 ∨ 9 ≤ k) (h0 : k = 0 → 0 ≤ v ∧ v ≤ 9999) : ∃ x, fX9_part SH M 167 k v = some x ∧ ∀ fv, fvS (mfa M) (mce k v) fv = x :: fv := by
  unfold fX9_part
  rw [kd167, gd_t rfl, gd_t rfl, gd_t rfl, gd_t rfl, gd_t rfl, gd_t rfl]
  have hk' : k = 0 ∨ k = 1 ∨ k = 2 ∨ k = 3 ∨ k = 4 ∨ k = 5 ∨ k = 6 ∨ k = 9 := by omega
  rcases hk' with rfl | rfl | rfl | rfl | rfl | rfl | rfl | rfl
  · have := h0 rfl
    refine ⟨v, rfl, fun fv => ?_⟩
    show fvS (mfa M) v fv = _
    unfold fvS
    rw [if_pos this.1, if_neg (by omega)]
  · exact ⟨M 167 57, rfl, fun fv => rfl⟩
  · exact ⟨M 167 58, rfl, fun fv => rfl⟩
  · exact ⟨M 167 59, rfl, fun fv => rfl⟩
  · exact ⟨M 167 60, rfl, fun fv => rfl⟩
  · exact ⟨M 167 61, rfl, fun fv => rfl⟩
  · exact ⟨M 167 62, rfl, fun fv => rfl⟩
  · exact ⟨1, rfl, fun fv => rfl⟩
theorem mce_lo {k v : Int} (k0 : 10 ≤ k) (k1 : k ≤ 22) : mce k v = mce k 0 ∧ mce k v ≤ -7 ∧ (k = 22 ↔ mce k v = -9) := by
  unfold mce
  refine ⟨?_, ?_, ?_⟩ <;> (repeat' split) <;> omega
theorem mce_hi {k v : Int} (k0 : 0 ≤ k) (k1 : k ≤ 9) (h79 : k ≤ 6 ∨ 9 ≤ k) (h0 : k = 0 → 0 ≤ v ∧ v ≤ 9999) : -6 ≤ mce k v := by
  unfold mce
  (repeat' split) <;> omega
theorem reckons_n {M : AwM} {bk fr bh : Int} {f : Int → Int} {tb : Bool} (hl : LAY M) (hb : M 167 13 = bk) (b0 : 0 ≤ bk ∧ bk ≤ 1) (hf : FoOK f tb) (hn : 0 < f (-1)) (hm : MF M bk fr bh f) (hfa : ∀ k : Int, 0 ≤ k → k < 6 → rng (M 167 (57 + k))) : ∃ M', fX9_reckons SH M 167 (M fr bk) (M bh bk) = some (fvl f (mfa M), M') ∧ (∀ a i, a ≠ 202 → M' a i = M a i) ∧ typ tb (fvl f (mfa M)) := by
  obtain ⟨n0, n1, hty⟩ := hf
  have hty := hty hn
  obtain ⟨f0, f1, f2, hce⟩ := hm.2 hn
  generalize hfr : M fr bk = frv at *
  generalize hbh : M bh bk = bhv at *
  have key := lp_rel (body := u3 (fX9_reckons_L14 SH 167 bhv)) (P := fun j (t : Int × Int × AwM) => t.2.1 = 1600 * bk + frv + (j : Int) ∧ (∀ a i, a ≠ 202 → t.2.2 a i = M a i) ∧ ∃ ty, fty f j = some ty ∧ fvT ty (fev f (mfa M) j) ∧ t.1 = ((fev f (mfa M) j).length : Int) ∧ stk (t.2.2 202) (fev f (mfa M) j)) (X := fun r : AwM => (∀ a i, a ≠ 202 → r a i = M a i) ∧ typ tb (r 202 0) ∧ r 202 0 = fvl f (mfa M)) (n := (f (-1)).toNat) ?_ FU (0, 1600 * bk + frv, M) (FU_gt (by omega)) ⟨by simp, fun _ _ _ => rfl, [], rfl, trivial, rfl, trivial⟩
  · obtain ⟨M', hr, h1, h3, h4⟩ := key
    refine ⟨M', ?_, h1, by rw [← h4]; exact h3⟩
    unfold fX9_reckons
    rw [kd167, gd_t rfl, hb, w32_s (v := 1600 * bk) (by omega) (by omega), w32_s (v := 1600 * bk + frv) (by omega) (by omega), hr, pb_1, u1_1, show M' 167 56 = 202 from (h1 167 56 (by decide)).trans (ly167_56 hl), kd202, gd_t (by decide), h4]
  · rintro j ⟨top, i, M1⟩ hj ⟨hi, hM, ty, t1, t2, t3, t4⟩
    change i = 1600 * bk + frv + (j : Int) at hi
    change top = ((fev f (mfa M) j).length : Int) at t3
    change ∀ a i, a ≠ 202 → M1 a i = M a i at hM
    change stk (M1 202) (fev f (mfa M) j) at t4
    subst hi
    have e13 : M1 167 13 = bk := (hM _ _ (by decide)).trans hb
    have e30 : M1 167 30 = 185 := (hM _ _ (by decide)).trans (ly167_30 hl)
    have e31 : M1 167 31 = 186 := (hM _ _ (by decide)).trans (ly167_31 hl)
    have e56 : M1 167 56 = 202 := (hM _ _ (by decide)).trans (ly167_56 hl)
    by_cases hjn : j < (f (-1)).toNat
    · refine Or.inl ⟨hjn, ?_⟩
      obtain ⟨ty', t5⟩ := fty_pre hty (j + 1) (by omega)
      have t6 := fty_st t1 t5
      obtain ⟨⟨s0, s1⟩, s2, s3, ec⟩ := hce j (by omega) (by omega)
      have es : M1 185 (1600 * bk + frv + (j : Int)) = M 185 (1600 * bk + frv + (j : Int)) := hM _ _ (by decide)
      have ev' : M1 186 (1600 * bk + frv + (j : Int)) = M 186 (1600 * bk + frv + (j : Int)) := hM _ _ (by decide)
      generalize M 185 (1600 * bk + frv + (j : Int)) = so at *
      generalize M 186 (1600 * bk + frv + (j : Int)) = sv at *
      have tl := fvT_len t2
      have tl64 := fty_len t1
      rw [u3_1]
      unfold fX9_reckons_L14
      rw [kd167, gd_t rfl, e13, w32_s (v := 1600 * bk) (by omega) (by omega), w32_s (v := 1600 * bk + bhv) (by omega) (by omega), if_pos (by omega), e30, kd185, ga_t (by omega) (by omega), es, e56, kd202, w32_s (v := 1600 * bk + frv + (j : Int) + 1) (by omega) (by omega)]
      by_cases h9 : so ≤ 9
      · have hh := mce_hi (v := sv) s0 h9 s2 s3
        obtain ⟨x, x1, x2⟩ := part_n (M := M1) (v := sv) s0 h9 s2 s3
        have em : mfa M1 = mfa M := by funext k; exact hM _ _ (by decide)
        rw [em] at x2
        have ev : fev f (mfa M) (j + 1) = x :: fev f (mfa M) j := by
          show fvS _ _ _ = _
          rw [← ec]; exact x2 _
        have ht : ty.length < 64 ∧ ∃ b, ty' = b :: ty ∧ typ b x := by
          rw [← ec] at t6
          rcases ftS_inv t6 with ⟨c0, c1, cl, rfl⟩ | ⟨c0, c1, cl, rfl⟩ | ⟨hc, r, rfl, rfl⟩ | ⟨hc, c0, c1, b1, b2, r, rfl, rfl, hd⟩
          · refine ⟨cl, _, rfl, ?_⟩
            have := x2 []
            unfold fvS at this
            rw [if_pos c0] at this
            have e := (List.cons.inj this).1
            rw [← e]
            by_cases z : mce so sv = 10000
            · rw [decide_eq_true z, if_pos z, typ_t]; exact Or.inr rfl
            · rw [decide_eq_false z, if_neg z, typ_f]; unfold rng; omega
          · refine ⟨cl, _, rfl, ?_⟩
            have := x2 []
            unfold fvS at this
            rw [if_neg (by omega), if_pos c0] at this
            have e := (List.cons.inj this).1
            rw [← e, typ_f]
            exact hfa _ (by omega) (by omega)
          · omega
          · omega
        obtain ⟨hl1, bb, rfl, hx⟩ := ht
        refine ⟨_, by rw [if_neg (by omega), e31, kd186, ga_t (by omega) (by omega), ev', x1, pb_1, u1_1, ga_t (by omega) (by omega), bd_1, w32_s (v := top + 1) (by omega) (by omega)], by simp; omega, fun a i ha => ?_, _, t5, ?_, ?_, ?_⟩
        · exact (up_of ha).trans (hM a i ha)
        · rw [ev]; exact ⟨hx, t2⟩
        · rw [ev, t3]; simp
        · rw [ev]
          refine ⟨?_, stk_w t4 (fun k k0 k1 => up_oi (by omega))⟩
          show up_ M1 202 top _ 202 _ = _
          rw [← t3, up_at]
      · obtain ⟨m1, m2, m3⟩ := mce_lo (v := sv) (show 10 ≤ so by omega) s1
        rw [ec] at m1 m2 m3
        rcases ftS_inv t6 with ⟨c0, c1, cl, rfl⟩ | ⟨c0, c1, cl, rfl⟩ | ⟨hc, r, rfl, rfl⟩ | ⟨hc, c0, c1, b1, b2, r, rfl, rfl, hd⟩
        · omega
        · omega
        · obtain ⟨x, v, hv, hx, hr⟩ := fvT_c t2
          have ev : fev f (mfa M) (j + 1) = (1 - x) :: v := by
            show fvS _ _ _ = _
            unfold fvS
            rw [if_neg (by omega), if_neg (by omega), if_pos hc, hv]
          rw [hv] at t3 t4
          obtain ⟨w1, w2⟩ := t4
          have hx' := typ_t.mp hx
          have t3 : top = (v.length : Int) + 1 := by rw [t3]; simp
          have vl : (v.length : Int) < 64 := by
            have := fvT_len hr
            simp at tl64
            omega
          refine ⟨_, by rw [if_pos (by omega), if_pos (m3.mpr hc), w32_s (v := top - 1) (by omega) (by omega), ga_t (by omega) (by omega), bd_1], by simp; omega, fun a i ha => ?_, _, t5, ?_, ?_, ?_⟩
          · exact (up_of ha).trans (hM a i ha)
          · rw [ev]
            exact ⟨typ_t.mpr (by omega), hr⟩
          · rw [ev, t3]; simp
          · rw [ev]
            refine ⟨?_, stk_w w2 (fun k k0 k1 => up_oi (by omega))⟩
            show up_ M1 202 (top - 1) _ 202 _ = _
            rw [show top - 1 = (v.length : Int) by omega, up_at, w1, w64_s (by omega) (by omega)]
        · obtain ⟨y, v', hv, hy, hr'⟩ := fvT_c t2
          obtain ⟨x, v, hv', hx, hr⟩ := fvT_c hr'
          subst hv'
          obtain ⟨d1, d2⟩ := hd x y hx hy
          have z1 := two_n (sh := SH) (M := M1) (k := so) ⟨by omega, by omega⟩ m1 d1
          have ev : fev f (mfa M) (j + 1) = fop (f (j : Int)) x y :: v := by
            show fvS _ _ _ = _
            unfold fvS
            rw [if_neg (by omega), if_neg (by omega), if_neg hc, hv]
          rw [hv] at t3 t4
          obtain ⟨w1, w2, w3⟩ := t4
          have t3 : top = (v.length : Int) + 2 := by rw [t3]; simp; omega
          have vl : (v.length : Int) + 1 < 64 := by
            have := fvT_len hr
            simp at tl64
            omega
          have w1 : M1 202 ((v.length : Int) + 1) = y := by rw [← w1]; simp
          have f1 : w32 (top + -1) = (v.length : Int) + 1 := by rw [w32_s (by omega) (by omega)]; omega
          have f2 : w32 ((v.length : Int) + 1 - 1) = (v.length : Int) := by rw [w32_s (by omega) (by omega)]; omega
          refine ⟨_, by rw [if_pos (by omega), if_neg (fun w => hc (m3.mp w)), f1, f2, ga_t (by omega) (by omega), ga_t (by omega) (by omega), w1, w2, z1, pb_1, u1_1, bd_1], by simp; omega, fun a i ha => ?_, _, t5, ?_, ?_, ?_⟩
          · exact (up_of ha).trans (hM a i ha)
          · rw [ev]
            exact ⟨d2, hr⟩
          · rw [ev]; simp
          · rw [ev]
            refine ⟨?_, stk_w w3 (fun k k0 k1 => up_oi (by omega))⟩
            exact up_at
    · have ej : (f (-1)).toNat = j := by omega
      refine Or.inr ⟨_, by rw [u3_1]; unfold fX9_reckons_L14; rw [kd167, gd_t rfl, e13, w32_s (v := 1600 * bk) (by omega) (by omega), w32_s (v := 1600 * bk + bhv) (by omega) (by omega), if_neg (by omega)], hM, ?_⟩
      rw [← ej, hty] at t1
      have e := Option.some.inj t1
      subst e
      obtain ⟨x, v, hv, hx, hr⟩ := fvT_c t2
      have hv0 : v = [] := by
        cases v with
        | nil => rfl
        | cons _ _ => exact hr.elim
      subst hv0
      rw [hv] at t3 t4
      have e3 : fvl f (mfa M) = x := fvl_at (r := []) (by rw [ej]; exact hv)
      refine ⟨?_, ?_⟩
      · rw [show M1 202 0 = x from t4.1]; exact hx
      · rw [e3]; exact t4.1
end PMVAL
