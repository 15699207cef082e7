/-! a tea, both sides -/
section PTEA
def teaI (s : AwM) (g c : Int) (x : Int × AwM) : Nat → Int × AwM
  | 0 => x
  | p + 1 => if (hb g (p : Int) && (cbp (teaI s g c x p).2 c (p : Int) && tH s (teaI s g c x p).2 c (p : Int))) = true then ((teaI s g c x p).1 + 1, lea (teaI s g c x p).2 c (p : Int)) else teaI s g c x p
def teaO (s : AwM) (g : Int) (x : Int × AwM) : Nat → Int × AwM
  | 0 => x
  | c + 1 => if hb g ((teaO s g x c).2 1 (c : Int)) = true then teaI s g (c : Int) (teaO s g x c) (s 0 0).toNat else teaO s g x c
theorem teaI_b {s : AwM} {g c : Int} {x : Int × AwM} : ∀ p : Nat, x.1 ≤ (teaI s g c x p).1 ∧ (teaI s g c x p).1 ≤ x.1 + p
  | 0 => ⟨by show x.1 ≤ x.1; omega, by show x.1 ≤ x.1 + 0; omega⟩
  | p + 1 => by
    have := teaI_b (s := s) (g := g) (c := c) (x := x) p
    unfold teaI
    split
    · show x.1 ≤ (teaI s g c x p).1 + 1 ∧ (teaI s g c x p).1 + 1 ≤ _
      omega
    · omega
theorem teaO_b {s : AwM} {g : Int} {x : Int × AwM} (ho : SoOK s) : ∀ c : Nat, x.1 ≤ (teaO s g x c).1 ∧ (teaO s g x c).1 ≤ x.1 + 10 * c
  | 0 => ⟨by show x.1 ≤ x.1; omega, by show x.1 ≤ x.1 + 10 * 0; omega⟩
  | c + 1 => by
    have := teaO_b (s := s) (g := g) (x := x) ho c
    have b := teaI_b (s := s) (g := g) (c := (c : Int)) (x := teaO s g x c) (s 0 0).toNat
    have := ho.p
    unfold teaO
    split <;> omega
theorem teaL_n {M : AwM} {cr so g c : Int} {s : AwM} {x : Int × AwM} (h : CC M cr so s x.2) (hg : ms 10 g) (c0 : 0 ≤ c) (c1 : c < s 0 1) (x0 : 0 ≤ x.1) (x1 : x.1 ≤ 1000) : ∃ M', lp (u3 (fX0_takeTea_L31 SH cr g c)) FU (x.1, 0, M) = some ((teaI s g c x (s 0 0).toNat).1, M') ∧ CC M' cr so s (teaI s g c x (s 0 0).toNat).2 ∧ cfr cr so M' M := by
  have hp := h.ok.p
  have hc := h.ok.c
  have hcr := h.hcr
  have hso := h.hso
  have key := lp_rel (body := u3 (fX0_takeTea_L31 SH cr g c)) (P := fun j (t : Int × Int × AwM) => t.2.1 = (j : Int) ∧ t.1 = (teaI s g c x j).1 ∧ CC t.2.2 cr so s (teaI s g c x j).2 ∧ cfr cr so t.2.2 M) (X := fun r : Int × AwM => r.1 = (teaI s g c x (s 0 0).toNat).1 ∧ CC r.2 cr so s (teaI s g c x (s 0 0).toNat).2 ∧ cfr cr so r.2 M) (n := (s 0 0).toNat) ?_ FU (x.1, 0, M) (FU_gt (by omega)) ⟨rfl, rfl, h, cfr_rf⟩
  · obtain ⟨⟨r, M'⟩, e, e1, h1, f1⟩ := key
    change r = _ at e1
    subst e1
    exact ⟨M', e, h1, f1⟩
  · rintro j ⟨v, i, M3⟩ hj ⟨hi, hv, h3, f3⟩
    change i = (j : Int) at hi
    change v = _ at hv
    change CC M3 cr so s _ at h3
    subst hi
    subst hv
    have b := teaI_b (s := s) (g := g) (c := c) (x := x) j
    by_cases hjn : j < (s 0 0).toNat
    · refine Or.inl ⟨hjn, ?_⟩
      rw [u3_1]
      unfold fX0_takeTea_L31 fX0_takeTea_J84_31
      rw [kcr0 hcr, gd_t rfl, h3.ref, kso0 hso, gd_t rfl, lso0_0 h3.lay hso, kso1 hso, gd_t (by decide), h3.n0, if_pos (by omega), isIn_n hg (by omega), pb_1, u1_1, hz_p (by omega), bi_if, w32_s (v := (j : Int) + 1) (by omega) (by omega)]
      have st : ∀ z, z = teaI s g c x j → teaI s g c x (j + 1) = if (hb g (j : Int) && (cbp z.2 c (j : Int) && tH s z.2 c (j : Int))) = true then (z.1 + 1, lea z.2 c (j : Int)) else z := fun z hz => by rw [hz]; rfl
      generalize hz' : teaI s g c x j = z at *
      have st := st z rfl
      cases e1 : hb g (j : Int) with
      | false =>
        rw [if_neg (by decide)]
        rw [e1, Bool.false_and, if_neg (by decide)] at st
        exact ⟨_, rfl, by simp, by rw [st], by rw [st]; exact h3, f3⟩
      | true =>
        rw [if_pos rfl, canBe_n h3 c0 c1 (by omega), pb_1, u1_1, bi_if]
        cases e2 : cbp z.2 c (j : Int) with
        | false =>
          rw [if_neg (by decide)]
          rw [e1, e2, Bool.false_and, Bool.and_false, if_neg (by decide)] at st
          exact ⟨_, rfl, by simp, by rw [st], by rw [st]; exact h3, f3⟩
        | true =>
          obtain ⟨M4, e4, f4⟩ := testHolds_n h3 c0 c1 (show 0 ≤ (j : Int) by omega) (by omega)
          have h4 : CC M4 cr so s z.2 := CC_sc h3 f4
          rw [if_pos rfl, e4, pb_1, u2_1, bi_if]
          cases e3 : tH s z.2 c (j : Int) with
          | false =>
            rw [if_neg (by decide)]
            rw [e1, e2, e3, Bool.and_false, Bool.and_false, if_neg (by decide)] at st
            exact ⟨_, rfl, by simp, by rw [st], by rw [st]; exact h4, cfr_tr f3 (csc_cf f4)⟩
          | true =>
            have g1 : cfr cr so (up_ (up_ M4 (cr + 3) c (stb (z.2 2 c) j)) (cr + 5) (10 * c + j) (z.2 0 0)) M3 := cfr_tr (csc_cf f4) (fun a i x1 x2 x3 x4 => by rw [up_of (by omega), up_of (by omega)])
            rw [if_pos rfl, meet_n h4.lay hcr c0 (by omega) (by omega) (by omega) (h4.kn c0 c1) (ms_up (h4.ld.kn c c0 c1) (by omega)) h4.day, pb_1, u1_1, w32_s (v := z.1 + 1) (by omega) (by omega)]
            rw [e1, e2, e3, if_pos (by decide)] at st
            have cl := CL_lea h4.cl h.ok c0 c1 (show 0 ≤ (j : Int) by omega) (by omega)
            rw [Int.add_assoc, Int.add_assoc] at cl
            exact ⟨_, rfl, by simp, by rw [st], by rw [st]; exact CC_of h3 g1 (LdOK_lea h3.ld h.ok c0 c1 (by omega) (by omega) (cbp_t e2).2) cl, cfr_tr f3 g1⟩
    · have ej : (s 0 0).toNat = j := by omega
      refine Or.inr ⟨((teaI s g c x j).1, M3), ?_, ?_⟩
      · rw [u3_1]
        unfold fX0_takeTea_L31
        rw [kcr0 hcr, gd_t rfl, h3.ref, kso0 hso, gd_t rfl, lso0_0 h3.lay hso, kso1 hso, gd_t (by decide), h3.n0, if_neg (by omega)]
      · rw [ej]; exact ⟨rfl, h3, f3⟩
def teaA (s : AwM) (g : Int) (d : AwM) : Int × AwM := teaO s g (0, d) (s 0 1).toNat
theorem takeTea_n {M : AwM} {cr so g : Int} {s d : AwM} (h : CC M cr so s d) (hg : ms 10 g) : ∃ M', fX0_takeTea SH M cr g = some ((teaA s g d).1, M') ∧ CC M' cr so s (teaA s g d).2 ∧ cfr cr so M' M := by
  have hp := h.ok.p
  have hc := h.ok.c
  have hcr := h.hcr
  have hso := h.hso
  have ho := h.ok
  have key := lp_rel (body := u3 (fX0_takeTea_L4 SH cr g)) (P := fun j (t : Int × Int × AwM) => t.2.1 = (j : Int) ∧ t.1 = (teaO s g (0, d) j).1 ∧ CC t.2.2 cr so s (teaO s g (0, d) j).2 ∧ cfr cr so t.2.2 M) (X := fun r : Int × AwM => r.1 = (teaA s g d).1 ∧ CC r.2 cr so s (teaA s g d).2 ∧ cfr cr so r.2 M) (n := (s 0 1).toNat) ?_ FU (0, 0, M) (FU_gt (by omega)) ⟨rfl, rfl, h, cfr_rf⟩
  · obtain ⟨⟨r, M'⟩, e, e1, h1, f1⟩ := key
    change r = _ at e1
    subst e1
    refine ⟨M', ?_, h1, f1⟩
    unfold fX0_takeTea
    rw [e, pb_1, u2_1]
  · rintro j ⟨v, i, M3⟩ hj ⟨hi, hv, h3, f3⟩
    change i = (j : Int) at hi
    change v = _ at hv
    change CC M3 cr so s _ at h3
    subst hi
    subst hv
    have b := teaO_b (s := s) (g := g) (x := (0, d)) ho j
    change 0 ≤ _ ∧ _ ≤ 0 + 10 * (j : Int) at b
    by_cases hjn : j < (s 0 1).toNat
    · refine Or.inl ⟨hjn, ?_⟩
      have q := h3.ld.ho (j : Int) (by omega) (by omega)
      rw [u3_1]
      unfold fX0_takeTea_L4
      rw [kcr0 hcr, gd_t rfl, coins_n h3.cw, h3.n1, pb_1, u1_1, if_pos (by omega), lcr0_0 h3.lay hcr, kcr1 hcr, gd_t rfl, lcr1_1 h3.lay hcr, kcr2 hcr, ga_t (by omega) (by omega), h3.ho (by omega) (by omega), isIn_n hg (by omega), pb_1, u1_1, hz_p q.1, bi_if, w32_s (v := (j : Int) + 1) (by omega) (by omega)]
      by_cases e1 : hb g ((teaO s g (0, d) j).2 1 (j : Int)) = true
      · have st : teaO s g (0, d) (j + 1) = teaI s g (j : Int) (teaO s g (0, d) j) (s 0 0).toNat := if_pos e1
        obtain ⟨M4, e4, h4, f4⟩ := teaL_n (g := g) (c := (j : Int)) h3 hg (by omega) (by omega) (by omega) (by omega)
        rw [if_pos e1, e4, pb_1, u2_1]
        exact ⟨_, rfl, by simp, by rw [st], by rw [st]; exact h4, cfr_tr f3 f4⟩
      · have st : teaO s g (0, d) (j + 1) = teaO s g (0, d) j := if_neg e1
        rw [if_neg e1]
        exact ⟨_, rfl, by simp, by rw [st], by rw [st]; exact h3, f3⟩
    · have ej : (s 0 1).toNat = j := by omega
      refine Or.inr ⟨((teaO s g (0, d) j).1, M3), ?_, ?_⟩
      · rw [u3_1]
        unfold fX0_takeTea_L4
        rw [kcr0 hcr, gd_t rfl, coins_n h3.cw, h3.n1, pb_1, u1_1, if_neg (by omega)]
      · unfold teaA; rw [ej]; exact ⟨rfl, h3, f3⟩
theorem learns_n {M : AwM} {b L : Int} {s d : AwM} (h : MM M b L s d) {c p : Int} (c0 : 0 ≤ c) (c1 : c < s 0 1) (p0 : 0 ≤ p) (p1 : p < s 0 0) (hb' : cbp d c p = true) : ∃ M', fX9_learns SH M 167 L c p = some M' ∧ MM M' b L s (lea d c p) ∧ mfr L M' M := by
  have hL := h.l21
  have hc := h.ok.c
  have hp := h.ok.p
  obtain ⟨k1, k2⟩ := cbp_t hb'
  have kl := ms_lt (h.ld.kn c c0 c1) (show (s 0 0).toNat ≤ 31 by omega)
  have e1 : w32 (12 * L) = 12 * L := w32_s (by omega) (by omega)
  have e2 : w32 (12 * L + c) = 12 * L + c := w32_s (by omega) (by omega)
  have g1 : mfr L (up_ (up_ M 199 (12 * L + c) (stb (d 2 c) p)) 201 (120 * L + (10 * c + p)) (d 0 0)) M := fun a i x1 x2 x3 x4 x5 => by
    rw [show up_ (up_ M 199 (12 * L + c) (stb (d 2 c) p)) 201 (120 * L + (10 * c + p)) (d 0 0) a i = up_ M 199 (12 * L + c) (stb (d 2 c) p) a i from if_neg (by omega)]
    exact if_neg (by omega)
  have l3 : LAY (up_ M 199 (12 * L + c) (stb (d 2 c) p)) := LAY_ua h.lay (nob_m _ (by decide))
  refine ⟨_, ?_, MM_of h g1 (LdOK_lea h.ld h.ok c0 c1 p0 p1 k2) (ML_lea h.ml h.ok c0 c1 p0 p1), g1⟩
  unfold fX9_learns
  rw [kd167, gd_t rfl, ly167_50 h.lay, kd199, e1, e2, ga_t (by omega) (by omega), h.kn c0 c1, stb_n kl.1 kl.2 p0 (by omega), bd_1, meets_n l3 hL.1 hL.2 c0 (by omega) p0 (by omega) ((up_of (by decide)).trans h.day), pb_1, u1_1]
theorem mteaL_n {M : AwM} {b L g c : Int} {s : AwM} {x : Int × AwM} (h : MM M b L s x.2) (hg : ms 10 g) (c0 : 0 ≤ c) (c1 : c < s 0 1) (x0 : 0 ≤ x.1) (x1 : x.1 ≤ 1000) : ∃ M', lp (u3 (fX9_teaOf_L44 SH 167 L g c)) FU (x.1, 0, M) = some ((teaI s g c x (s 0 0).toNat).1, M') ∧ MM M' b L s (teaI s g c x (s 0 0).toNat).2 ∧ mfr L M' M := by
  have hp := h.ok.p
  have hc := h.ok.c
  have hL := h.l21
  have hbb := h.b01
  have key := lp_rel (body := u3 (fX9_teaOf_L44 SH 167 L g c)) (P := fun j (t : Int × Int × AwM) => t.2.1 = (j : Int) ∧ t.1 = (teaI s g c x j).1 ∧ MM t.2.2 b L s (teaI s g c x j).2 ∧ mfr L t.2.2 M) (X := fun r : Int × AwM => r.1 = (teaI s g c x (s 0 0).toNat).1 ∧ MM r.2 b L s (teaI s g c x (s 0 0).toNat).2 ∧ mfr L r.2 M) (n := (s 0 0).toNat) ?_ FU (x.1, 0, M) (FU_gt (by omega)) ⟨rfl, rfl, h, mfr_rf⟩
  · obtain ⟨⟨r, M'⟩, e, e1, h1, f1⟩ := key
    change r = _ at e1
    subst e1
    exact ⟨M', e, h1, f1⟩
  · rintro j ⟨v, i, M3⟩ hj ⟨hi, hv, h3, f3⟩
    change i = (j : Int) at hi
    change v = _ at hv
    change MM M3 b L s _ at h3
    subst hi
    subst hv
    have bb := teaI_b (s := s) (g := g) (c := c) (x := x) j
    by_cases hjn : j < (s 0 0).toNat
    · refine Or.inl ⟨hjn, ?_⟩
      rw [u3_1]
      unfold fX9_teaOf_L44 fX9_teaOf_J106_44
      rw [kd167, gd_t rfl, ly167_14 h3.lay, kd169, h3.bk, ga_t (by omega) (by omega), h3.n0, if_pos (by omega), has2_n hg (by omega) (by omega) (by omega), pb_1, u1_1, hz_p (by omega), bi_if, w32_s (v := (j : Int) + 1) (by omega) (by omega)]
      have st : ∀ z, z = teaI s g c x j → teaI s g c x (j + 1) = if (hb g (j : Int) && (cbp z.2 c (j : Int) && tH s z.2 c (j : Int))) = true then (z.1 + 1, lea z.2 c (j : Int)) else z := fun z hz => by rw [hz]; rfl
      generalize hz' : teaI s g c x j = z at *
      have st := st z rfl
      cases e1 : hb g (j : Int) with
      | false =>
        rw [if_neg (by decide)]
        rw [e1, Bool.false_and, if_neg (by decide)] at st
        exact ⟨_, rfl, by simp, by rw [st], by rw [st]; exact h3, f3⟩
      | true =>
        rw [if_pos rfl, canP_n h3 c0 c1 (by omega) (by omega), pb_1, u1_1, bi_if]
        cases e2 : cbp z.2 c (j : Int) with
        | false =>
          rw [if_neg (by decide)]
          rw [e1, e2, Bool.false_and, Bool.and_false, if_neg (by decide)] at st
          exact ⟨_, rfl, by simp, by rw [st], by rw [st]; exact h3, f3⟩
        | true =>
          obtain ⟨M4, e4, f4⟩ := wouldKnow_n h3 c0 c1 (show 0 ≤ (j : Int) by omega) (by omega)
          have h4 : MM M4 b L s z.2 := MM_sc h3 f4
          rw [if_pos rfl, e4, pb_1, u2_1, bi_if]
          cases e3 : tH s z.2 c (j : Int) with
          | false =>
            rw [if_neg (by decide)]
            rw [e1, e2, e3, Bool.and_false, Bool.and_false, if_neg (by decide)] at st
            exact ⟨_, rfl, by simp, by rw [st], by rw [st]; exact h4, mfr_tr f3 (msc_mf f4)⟩
          | true =>
            obtain ⟨M5, e5, h5, f5⟩ := learns_n h4 c0 c1 (show 0 ≤ (j : Int) by omega) (by omega) e2
            rw [if_pos rfl, e5, pb_1, u1_1, w32_s (v := z.1 + 1) (by omega) (by omega)]
            rw [e1, e2, e3, if_pos (by decide)] at st
            exact ⟨_, rfl, by simp, by rw [st], by rw [st]; exact h5, mfr_tr f3 (mfr_tr (msc_mf f4) f5)⟩
    · have ej : (s 0 0).toNat = j := by omega
      refine Or.inr ⟨((teaI s g c x j).1, M3), ?_, ?_⟩
      · rw [u3_1]
        unfold fX9_teaOf_L44
        rw [kd167, gd_t rfl, ly167_14 h3.lay, kd169, h3.bk, ga_t (by omega) (by omega), h3.n0, if_neg (by omega)]
      · rw [ej]; exact ⟨rfl, h3, f3⟩
theorem teaOf_n {M : AwM} {b L g : Int} {s d : AwM} (h : MM M b L s d) (hg : ms 10 g) : ∃ M', fX9_teaOf SH M 167 L g = some ((teaA s g d).1, M') ∧ MM M' b L s (teaA s g d).2 ∧ mfr L M' M := by
  have hp := h.ok.p
  have hc := h.ok.c
  have hL := h.l21
  have hbb := h.b01
  have ho := h.ok
  have key := lp_rel (body := u3 (fX9_teaOf_L5 SH 167 L g)) (P := fun j (t : Int × Int × AwM) => t.2.1 = (j : Int) ∧ t.1 = (teaO s g (0, d) j).1 ∧ MM t.2.2 b L s (teaO s g (0, d) j).2 ∧ mfr L t.2.2 M) (X := fun r : Int × AwM => r.1 = (teaA s g d).1 ∧ MM r.2 b L s (teaA s g d).2 ∧ mfr L r.2 M) (n := (s 0 1).toNat) ?_ FU (0, 0, M) (FU_gt (by omega)) ⟨rfl, rfl, h, mfr_rf⟩
  · obtain ⟨⟨r, M'⟩, e, e1, h1, f1⟩ := key
    change r = _ at e1
    subst e1
    refine ⟨M', ?_, h1, f1⟩
    unfold fX9_teaOf
    rw [e, pb_1, u2_1]
  · rintro j ⟨v, i, M3⟩ hj ⟨hi, hv, h3, f3⟩
    change i = (j : Int) at hi
    change v = _ at hv
    change MM M3 b L s _ at h3
    subst hi
    subst hv
    have bb := teaO_b (s := s) (g := g) (x := (0, d)) ho j
    change 0 ≤ _ ∧ _ ≤ 0 + 10 * (j : Int) at bb
    by_cases hjn : j < (s 0 1).toNat
    · refine Or.inl ⟨hjn, ?_⟩
      have q := h3.ld.ho (j : Int) (by omega) (by omega)
      rw [u3_1]
      unfold fX9_teaOf_L5
      rw [mcn h3.mw, ly167_16 h3.lay, h3.bk, h3.n1, if_pos (by omega), ly167_49 h3.lay, kd198, w32_s (v := 12 * L) (by omega) (by omega), w32_s (v := 12 * L + (j : Int)) (by omega) (by omega), ga_t (by omega) (by omega), h3.ho (by omega) (by omega), has2_n hg (by omega) q.1 (by omega), pb_1, u1_1, hz_p q.1, bi_if, w32_s (v := (j : Int) + 1) (by omega) (by omega)]
      by_cases e1 : hb g ((teaO s g (0, d) j).2 1 (j : Int)) = true
      · have st : teaO s g (0, d) (j + 1) = teaI s g (j : Int) (teaO s g (0, d) j) (s 0 0).toNat := if_pos e1
        obtain ⟨M4, e4, h4, f4⟩ := mteaL_n (g := g) (c := (j : Int)) h3 hg (by omega) (by omega) (by omega) (by omega)
        rw [if_pos e1, e4, pb_1, u2_1]
        exact ⟨_, rfl, by simp, by rw [st], by rw [st]; exact h4, mfr_tr f3 f4⟩
      · have st : teaO s g (0, d) (j + 1) = teaO s g (0, d) j := if_neg e1
        rw [if_neg e1]
        exact ⟨_, rfl, by simp, by rw [st], by rw [st]; exact h3, f3⟩
    · have ej : (s 0 1).toNat = j := by omega
      refine Or.inr ⟨((teaO s g (0, d) j).1, M3), ?_, ?_⟩
      · rw [u3_1]
        unfold fX9_teaOf_L5
        rw [mcn h3.mw, ly167_16 h3.lay, h3.bk, h3.n1, if_neg (by omega)]
      · unfold teaA; rw [ej]; exact ⟨rfl, h3, f3⟩
end PTEA
