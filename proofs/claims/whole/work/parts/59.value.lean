/-! a formula's value, both sides -/
section PVAL
theorem typ_t {x : Int} : typ true x ↔ (x = 0 ∨ x = 1) := by unfold typ; simp
theorem typ_f {x : Int} : typ false x ↔ rng x := by unfold typ; simp
theorem fvT_len : ∀ {t : List Bool} {v : List Int}, fvT t v → t.length = v.length
  | [], [], _ => rfl
  | b :: t, x :: v, h => by
    have := fvT_len h.2
    simp [this]
  | [], _ :: _, h => h.elim
  | _ :: _, [], h => h.elim
theorem fvT_c {b : Bool} {t : List Bool} {v : List Int} (h : fvT (b :: t) v) : ∃ x r, v = x :: r ∧ typ b x ∧ fvT t r := by
  cases v with
  | nil => exact h.elim
  | cons x r => exact ⟨x, r, rfl, h.1, h.2⟩
theorem stk_w {W W' : Int → Int} : ∀ {v : List Int}, stk W v → (∀ k : Int, 0 ≤ k → k < v.length → W' k = W k) → stk W' v
  | [], _, _ => trivial
  | x :: r, h, hw => by
    have hl : ((x :: r).length : Int) = r.length + 1 := by simp
    refine ⟨?_, stk_w h.2 (fun k k0 k1 => hw k k0 (by omega))⟩
    rw [hw _ (by omega) (by omega)]
    exact h.1
theorem fop_ty {c a b : Int} : (dty c a b) → (c = -7 ∨ c = -8 ∨ c = -12 ∨ c = -13 ∨ c = -14 → typ true (fop c a b)) ∧ (¬ (c = -7 ∨ c = -8 ∨ c = -12 ∨ c = -13 ∨ c = -14) → typ false (fop c a b)) := by
  intro h
  constructor
  · intro hc
    rw [typ_t]
    have it : ∀ (q : Prop) [Decidable q] (u w : Int), (u = 0 ∨ u = 1) → (w = 0 ∨ w = 1) → ((if q then u else w) = 0 ∨ (if q then u else w) = 1) := by
      intro q _ u w hu hw
      split
      · exact hu
      · exact hw
    rcases hc with rfl | rfl | rfl | rfl | rfl
    · exact it (a = 1 ∧ b = 1) 1 0 (Or.inr rfl) (Or.inl rfl)
    · exact it (a = 0 ∧ b = 0) 0 1 (Or.inl rfl) (Or.inr rfl)
    · exact it (a < b) 1 0 (Or.inr rfl) (Or.inl rfl)
    · exact it (b < a) 1 0 (Or.inr rfl) (Or.inl rfl)
    · exact it (a = b) 1 0 (Or.inr rfl) (Or.inl rfl)
  · intro hc
    rw [typ_f]
    rcases h with ⟨h1, -, -⟩ | ⟨c0, c1, ⟨a0, a1⟩, b0, b1⟩
    · omega
    have hc : c = -19 ∨ c = -18 ∨ c = -17 ∨ c = -16 ∨ c = -15 ∨ c = -11 ∨ c = -10 := by omega
    rcases hc with rfl | rfl | rfl | rfl | rfl | rfl | rfl
    · show rng (if b = 0 then 0 else bnd (a - b * fl a b))
      split
      · exact ⟨by decide, by decide⟩
      · exact bnd_b _
    · show rng (if b = 0 then 0 else bnd (fl a b))
      split
      · exact ⟨by decide, by decide⟩
      · exact bnd_b _
    · exact bnd_b _
    · exact bnd_b _
    · exact bnd_b _
    · show rng (max a b)
      unfold rng
      omega
    · show rng (min a b)
      unfold rng
      omega
theorem ftS_inv {c : Int} {t t' : List Bool} (h : ftS c t = some t') : (0 ≤ c ∧ c ≤ 10000 ∧ t.length < 64 ∧ t' = (decide (c = 10000)) :: t) ∨ (-6 ≤ c ∧ c < 0 ∧ t.length < 64 ∧ t' = false :: t) ∨ (c = -9 ∧ ∃ r, t = true :: r ∧ t' = true :: r) ∨ (c ≠ -9 ∧ -19 ≤ c ∧ c ≤ -7 ∧ ∃ b1 b2 r, t = b1 :: b1 :: r ∧ t' = b2 :: r ∧ ∀ a b, typ b1 a → typ b1 b → dty c a b ∧ typ b2 (fop c a b)) := by
  unfold ftS at h
  by_cases h1 : (0 ≤ c ∧ c ≤ 9999) ∨ (-6 ≤ c ∧ c < 0)
  · rw [if_pos h1] at h
    by_cases hl : t.length < 64
    · rw [if_pos hl] at h
      have e := Option.some.inj h
      subst e
      by_cases hc : 0 ≤ c
      · exact Or.inl ⟨hc, by omega, hl, by rw [decide_eq_false (by omega)]⟩
      · exact Or.inr (Or.inl ⟨by omega, by omega, hl, rfl⟩)
    · rw [if_neg hl] at h; cases h
  rw [if_neg h1] at h
  by_cases h2 : c = 10000
  · rw [if_pos h2] at h
    by_cases hl : t.length < 64
    · rw [if_pos hl] at h
      have e := Option.some.inj h
      subst e
      exact Or.inl ⟨by omega, by omega, hl, by rw [decide_eq_true h2]⟩
    · rw [if_neg hl] at h; cases h
  rw [if_neg h2] at h
  by_cases h3 : c = -9
  · rw [if_pos h3] at h
    match t, h with
    | true :: r, h => exact Or.inr (Or.inr (Or.inl ⟨h3, r, rfl, (Option.some.inj h).symm⟩))
  rw [if_neg h3] at h
  by_cases h4 : c = -7 ∨ c = -8
  · rw [if_pos h4] at h
    match t, h with
    | true :: true :: r, h =>
      refine Or.inr (Or.inr (Or.inr ⟨h3, by omega, by omega, true, true, r, rfl, (Option.some.inj h).symm, fun a b ha hb => ?_⟩))
      have d : dty c a b := Or.inl ⟨h4, typ_t.mp ha, typ_t.mp hb⟩
      exact ⟨d, (fop_ty d).1 (by omega)⟩
  rw [if_neg h4] at h
  by_cases h5 : c = -12 ∨ c = -13 ∨ c = -14
  · rw [if_pos h5] at h
    match t, h with
    | false :: false :: r, h =>
      refine Or.inr (Or.inr (Or.inr ⟨h3, by omega, by omega, false, true, r, rfl, (Option.some.inj h).symm, fun a b ha hb => ?_⟩))
      have d : dty c a b := Or.inr ⟨by omega, by omega, typ_f.mp ha, typ_f.mp hb⟩
      exact ⟨d, (fop_ty d).1 (by omega)⟩
  rw [if_neg h5] at h
  by_cases h6 : -19 ≤ c ∧ c ≤ -10
  · rw [if_pos h6] at h
    match t, h with
    | false :: false :: r, h =>
      refine Or.inr (Or.inr (Or.inr ⟨h3, by omega, by omega, false, false, r, rfl, (Option.some.inj h).symm, fun a b ha hb => ?_⟩))
      have d : dty c a b := Or.inr ⟨by omega, by omega, typ_f.mp ha, typ_f.mp hb⟩
      exact ⟨d, (fop_ty d).2 (by omega)⟩
  rw [if_neg h6] at h; cases h
theorem fty_pre {f : Int → Int} {n : Nat} {t : List Bool} (h : fty f n = some t) : ∀ j, j ≤ n → ∃ t', fty f j = some t' := by
  induction n generalizing t with
  | zero => intro j hj; obtain rfl : j = 0 := by omega
            exact ⟨_, h⟩
  | succ m ih =>
    intro j hj
    by_cases e : j = m + 1
    · subst e; exact ⟨_, h⟩
    · unfold fty at h
      cases hm : fty f m with
      | none => rw [hm] at h; cases h
      | some u => exact ih hm j (by omega)
theorem fty_st {f : Int → Int} {j : Nat} {t t' : List Bool} (h : fty f j = some t) (h' : fty f (j + 1) = some t') : ftS (f (j : Int)) t = some t' := by
  unfold fty at h'
  rw [h] at h'
  exact h'
theorem fty_len {f : Int → Int} : ∀ {j : Nat} {t : List Bool}, fty f j = some t → t.length ≤ 64
  | 0, t, h => by
    have e := Option.some.inj h
    subst e
    simp
  | j + 1, t, h => by
    obtain ⟨u, hu⟩ := fty_pre h j (by omega)
    have ih := fty_len hu
    rcases ftS_inv (fty_st hu h) with ⟨-, -, cl, rfl⟩ | ⟨-, -, cl, rfl⟩ | ⟨-, r, rfl, rfl⟩ | ⟨-, -, -, b1, b2, r, rfl, rfl, -⟩ <;> simp at * <;> omega
theorem fvl_at {f fa : Int → Int} {x : Int} {r : List Int} (h : fev f fa (f (-1)).toNat = x :: r) : fvl f fa = x := by unfold fvl; rw [h]
theorem fev_congr {f fa fb : Int → Int} (h : ∀ k : Int, 0 ≤ k → k < 6 → fa k = fb k) : ∀ n, fev f fa n = fev f fb n
  | 0 => rfl
  | n + 1 => by
    unfold fev
    rw [fev_congr h n]
    unfold fvS
    by_cases h0 : 0 ≤ f (n : Int)
    · rw [if_pos h0, if_pos h0]
    · rw [if_neg h0, if_neg h0]
      by_cases h6 : -6 ≤ f (n : Int)
      · rw [if_pos h6, if_pos h6, h _ (by omega) (by omega)]
      · rw [if_neg h6, if_neg h6]
theorem fvl_congr {f fa fb : Int → Int} (h : ∀ k : Int, 0 ≤ k → k < 6 → fa k = fb k) : fvl f fa = fvl f fb := by
  unfold fvl
  rw [fev_congr h]
theorem kfo0 {fo : Int} (h : fo = 20 ∨ fo = 23 ∨ fo = 147 ∨ fo = 150) : kd_ SH fo = (0, 1) := by rcases h with rfl | rfl | rfl | rfl <;> rfl
theorem kfo1 {fo : Int} (h : fo = 20 ∨ fo = 23 ∨ fo = 147 ∨ fo = 150) : kd_ SH (fo + 1) = (1, 1600) := by rcases h with rfl | rfl | rfl | rfl <;> rfl
theorem kfo2 {fo : Int} (h : fo = 20 ∨ fo = 23 ∨ fo = 147 ∨ fo = 150) : kd_ SH (fo + 2) = (1, 64) := by rcases h with rfl | rfl | rfl | rfl <;> rfl
theorem lfo0 {M : AwM} (hl : LAY M) {fo : Int} (h : fo = 20 ∨ fo = 23 ∨ fo = 147 ∨ fo = 150) : M fo 0 = fo + 1 := by rcases h with rfl | rfl | rfl | rfl; exact ly20_0 hl; exact ly23_0 hl; exact ly147_0 hl; exact ly150_0 hl
theorem lfo2 {M : AwM} (hl : LAY M) {fo : Int} (h : fo = 20 ∨ fo = 23 ∨ fo = 147 ∨ fo = 150) : M fo 2 = fo + 2 := by rcases h with rfl | rfl | rfl | rfl; exact ly20_2 hl; exact ly23_2 hl; exact ly147_2 hl; exact ly150_2 hl
theorem ga_t {α : Type} {k N : Nat} {i : Int} {t : Option α} (h0 : 0 ≤ i) (h1 : i < (N : Int)) : gd_ (((k, N) : Nat × Nat).1 = k ∧ (0 : Int) ≤ i ∧ i < ((((k, N) : Nat × Nat).2 : Nat) : Int)) t = t := gd_t ⟨rfl, h0, h1⟩
theorem up_of {M : AwM} {a i v a' i' : Int} (h : a' ≠ a) : up_ M a i v a' i' = M a' i' := if_neg (fun z => h z.1)
theorem up_oi {M : AwM} {a i v a' i' : Int} (h : i' ≠ i) : up_ M a i v a' i' = M a' i' := if_neg (fun z => h z.2)
theorem up_at {M : AwM} {a i v : Int} : up_ M a i v a i = v := if_pos ⟨rfl, rfl⟩
theorem fact_n {M : AwM} {cr k : Int} (hcr : cr = 153 ∨ cr = 160) (k0 : 0 ≤ k) (k1 : k < 6) : fX1_factOf SH M (cr + 6) k = some (M (cr + 6) k) := by
  unfold fX1_factOf
  rw [if_neg (by omega), kcr6 hcr, gd_t (by decide), if_pos (by show k < ((6 : Nat) : Int); omega), ga_t k0 (by omega)]
theorem value_n {M : AwM} {fo cr : Int} {f : Int → Int} {b : Bool} (hl : LAY M) (hfo : fo = 20 ∨ fo = 23 ∨ fo = 147 ∨ fo = 150) (hcr : cr = 153 ∨ cr = 160) (hf : FoOK f b) (hn : 0 < f (-1)) (hz : M fo 1 = f (-1)) (hce : ∀ i : Int, 0 ≤ i → i < f (-1) → M (fo + 1) i = cce (f i)) (hfa : ∀ k : Int, 0 ≤ k → k < 6 → rng (M (cr + 6) k)) : ∃ M', fX1_value SH M fo (cr + 6) = some (fvl f (M (cr + 6)), M') ∧ (∀ a i, a ≠ fo + 2 → M' a i = M a i) ∧ typ b (fvl f (M (cr + 6))) := by
  obtain ⟨n0, n1, hty⟩ := hf
  have hty := hty hn
  have key := lp_rel (body := u3 (fX1_value_L4 SH fo (cr + 6))) (P := fun j (t : Int × Int × AwM) => t.2.1 = (j : Int) ∧ (∀ a i, a ≠ fo + 2 → t.2.2 a i = M a i) ∧ ∃ ty, fty f j = some ty ∧ fvT ty (fev f (M (cr + 6)) j) ∧ t.1 = ((fev f (M (cr + 6)) j).length : Int) ∧ stk (t.2.2 (fo + 2)) (fev f (M (cr + 6)) j)) (X := fun r : Int × AwM => (∀ a i, a ≠ fo + 2 → r.2 a i = M a i) ∧ r.1 = 1 ∧ typ b (r.2 (fo + 2) 0) ∧ r.2 (fo + 2) 0 = fvl f (M (cr + 6))) (n := (f (-1)).toNat) ?_ FU (0, 0, M) (FU_gt (by omega)) ⟨rfl, fun _ _ _ => rfl, [], rfl, trivial, rfl, trivial⟩
  · obtain ⟨⟨top, M'⟩, hr, h1, h2, h3, h4⟩ := key
    refine ⟨M', ?_, h1, by rw [← h4]; exact h3⟩
    unfold fX1_value
    have h2' : top = 1 := h2
    subst h2'
    rw [hr, pb_1, u2_1, if_pos (by decide), kfo0 hfo, gd_t rfl, show M' fo 2 = fo + 2 from (h1 fo 2 (by omega)).trans (lfo2 hl hfo), kfo2 hfo, gd_t (by decide)]
    rw [show M' (fo + 2) 0 = fvl f (M (cr + 6)) from h4]
  · rintro j ⟨top, i, M1⟩ hj ⟨hi, hM, ty, t1, t2, t3, t4⟩
    change i = (j : Int) at hi
    change top = ((fev f (M (cr + 6)) j).length : Int) at t3
    change ∀ a i, a ≠ fo + 2 → M1 a i = M a i at hM
    change stk (M1 (fo + 2)) (fev f (M (cr + 6)) j) at t4
    subst hi
    have e1 : M1 fo 1 = f (-1) := (hM _ _ (by omega)).trans hz
    have e0 : M1 fo 0 = fo + 1 := (hM _ _ (by omega)).trans (lfo0 hl hfo)
    have e2 : M1 fo 2 = fo + 2 := (hM _ _ (by omega)).trans (lfo2 hl hfo)
    by_cases hjn : j < (f (-1)).toNat
    · refine Or.inl ⟨hjn, ?_⟩
      obtain ⟨ty', t5⟩ := fty_pre hty (j + 1) (by omega)
      have t6 := fty_st t1 t5
      have ec : M1 (fo + 1) (j : Int) = cce (f (j : Int)) := (hM _ _ (by omega)).trans (hce _ (by omega) (by omega))
      have tl := fvT_len t2
      rw [u3_1]
      unfold fX1_value_L4 fX1_value_J143_4
      rw [kfo0 hfo, gd_t rfl, e1, if_pos (by omega), if_pos (by omega), e0, kfo1 hfo, ga_t (by omega) (by omega), ec, e2, kfo2 hfo]
      rcases ftS_inv t6 with ⟨c0, c1, cl, rfl⟩ | ⟨c0, c1, cl, rfl⟩ | ⟨hc, r, rfl, rfl⟩ | ⟨hc, c0, c1, b1, b2, r, rfl, rfl, hd⟩
      · have h0 : 0 ≤ cce (f (j : Int)) := by unfold cce; split <;> omega
        have ev : fev f (M (cr + 6)) (j + 1) = cce (f (j : Int)) :: fev f (M (cr + 6)) j := by
          show fvS _ _ _ = _
          unfold fvS cce
          rw [if_pos c0]
        refine ⟨_, by rw [if_neg (by omega), if_pos (by omega), if_neg (by omega), ga_t (by omega) (by omega), bd_1, w32_s (by omega) (by omega), w32_s (by omega) (by omega)], rfl, fun a i ha => ?_, _, t5, ?_, ?_, ?_⟩
        · exact (up_of ha).trans (hM a i ha)
        · rw [ev]
          refine ⟨?_, t2⟩
          by_cases z : f (j : Int) = 10000
          · rw [decide_eq_true z, typ_t]
            unfold cce
            rw [if_pos z]
            exact Or.inr rfl
          · rw [decide_eq_false z, typ_f]
            unfold cce rng
            rw [if_neg z]
            omega
        · rw [ev, t3]; simp
        · rw [ev]
          refine ⟨?_, stk_w t4 (fun k k0 k1 => up_oi (by omega))⟩
          show up_ M1 (fo + 2) top _ (fo + 2) _ = _
          rw [← t3, up_at]
      · have hcc : cce (f (j : Int)) = f (j : Int) := by unfold cce; rw [if_neg (by omega)]
        have ev : fev f (M (cr + 6)) (j + 1) = M (cr + 6) (-1 - f (j : Int)) :: fev f (M (cr + 6)) j := by
          show fvS _ _ _ = _
          unfold fvS
          rw [if_neg (by omega), if_pos c0]
        have ef : M1 (cr + 6) (-1 - f (j : Int)) = M (cr + 6) (-1 - f (j : Int)) := hM _ _ (by omega)
        refine ⟨_, by rw [hcc, if_neg (by omega), if_pos (by omega), if_pos (by omega), w32_s (v := -1 - f (j : Int)) (by omega) (by omega), fact_n hcr (by omega) (by omega), pb_1, u1_1, ef, ga_t (by omega) (by omega), bd_1, w32_s (by omega) (by omega), w32_s (by omega) (by omega)], rfl, fun a i ha => ?_, _, t5, ?_, ?_, ?_⟩
        · exact (up_of ha).trans (hM a i ha)
        · rw [ev]
          exact ⟨typ_f.mpr (hfa _ (by omega) (by omega)), t2⟩
        · rw [ev, t3]; simp
        · rw [ev]
          refine ⟨?_, stk_w t4 (fun k k0 k1 => up_oi (by omega))⟩
          show up_ M1 (fo + 2) top _ (fo + 2) _ = _
          rw [← t3, up_at]
      · obtain ⟨x, v, hv, hx, hr⟩ := fvT_c t2
        have hcc : cce (f (j : Int)) = -9 := by unfold cce; rw [hc]; rfl
        have ev : fev f (M (cr + 6)) (j + 1) = (1 - x) :: v := by
          show fvS _ _ _ = _
          unfold fvS
          rw [if_neg (by omega), if_neg (by omega), if_pos hc, hv]
        rw [hv] at t3 t4
        obtain ⟨w1, w2⟩ := t4
        have hx' := typ_t.mp hx
        have t3 : top = (v.length : Int) + 1 := by rw [t3]; simp
        have vl : (v.length : Int) < 64 := by
          have := fvT_len hr
          have := fty_len t1
          simp at this
          omega
        refine ⟨_, by rw [hcc, if_pos (by decide), if_pos rfl, if_neg (by omega), w32_s (v := top - 1) (by omega) (by omega), ga_t (by omega) (by omega), bd_1, w32_s (v := (j : Int) + 1) (by omega) (by omega)], rfl, fun a i ha => ?_, _, t5, ?_, ?_, ?_⟩
        · exact (up_of ha).trans (hM a i ha)
        · rw [ev]
          exact ⟨typ_t.mpr (by omega), hr⟩
        · rw [ev, t3]; simp
        · rw [ev]
          refine ⟨?_, stk_w w2 (fun k k0 k1 => up_oi (by omega))⟩
          show up_ M1 (fo + 2) (top - 1) _ (fo + 2) _ = _
          rw [show top - 1 = (v.length : Int) by omega, up_at, w1, w32_s (by omega) (by omega)]
      · obtain ⟨y, v', hv, hy, hr'⟩ := fvT_c t2
        obtain ⟨x, v, hv', hx, hr⟩ := fvT_c hr'
        subst hv'
        obtain ⟨d1, d2⟩ := hd x y hx hy
        obtain ⟨z, z1, z2⟩ := done_n (sh := SH) (M := M1) d1
        have hcc : cce (f (j : Int)) = f (j : Int) := by unfold cce; rw [if_neg (by omega)]
        have ev : fev f (M (cr + 6)) (j + 1) = fop (f (j : Int)) x y :: v := by
          show fvS _ _ _ = _
          unfold fvS
          rw [if_neg (by omega), if_neg (by omega), if_neg hc, hv]
        rw [hv] at t3 t4
        obtain ⟨w1, w2, w3⟩ := t4
        have t3 : top = (v.length : Int) + 2 := by rw [t3]; simp; omega
        have vl : (v.length : Int) + 1 < 64 := by
          have := fvT_len hr
          have := fty_len t1
          simp at this
          omega
        have w1 : M1 (fo + 2) ((v.length : Int) + 1) = y := by rw [← w1]; simp
        have f1 : w32 (top + -1) = (v.length : Int) + 1 := by rw [w32_s (by omega) (by omega)]; omega
        have f2 : w32 ((v.length : Int) + 1 - 1) = (v.length : Int) := by rw [w32_s (by omega) (by omega)]; omega
        refine ⟨_, by rw [hcc, if_pos (by omega), if_neg hc, if_neg (by omega), f1, f2, ga_t (by omega) (by omega), ga_t (by omega) (by omega), w1, w2, z1, pb_1, u1_1, z2, pb_1, u1_1, bd_1, w32_s (v := (j : Int) + 1) (by omega) (by omega)], rfl, fun a i ha => ?_, _, t5, ?_, ?_, ?_⟩
        · exact (up_of ha).trans (hM a i ha)
        · rw [ev]
          exact ⟨d2, hr⟩
        · rw [ev]; simp
        · rw [ev]
          refine ⟨?_, stk_w w3 (fun k k0 k1 => up_oi (by omega))⟩
          exact up_at
    · have ej : (f (-1)).toNat = j := by omega
      refine Or.inr ⟨_, by rw [u3_1]; unfold fX1_value_L4; rw [kfo0 hfo, gd_t rfl, e1, if_neg (by omega)], hM, ?_⟩
      rw [← ej, hty] at t1
      have e := Option.some.inj t1
      subst e
      obtain ⟨x, v, hv, hx, hr⟩ := fvT_c t2
      have hv0 : v = [] := by
        cases v with
        | nil => rfl
        | cons _ _ => exact hr.elim
      subst hv0
      rw [hv] at t3 t4
      have e3 : fvl f (M (cr + 6)) = x := fvl_at (r := []) (by rw [ej]; exact hv)
      refine ⟨t3, ?_, ?_⟩
      · rw [show (top, M1).2 (fo + 2) 0 = x from t4.1]; exact hx
      · rw [e3]; exact t4.1
end PVAL
