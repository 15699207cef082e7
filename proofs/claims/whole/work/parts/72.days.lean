/-! a day goes by, both sides -/
section PDAY
def fgC (s : AwM) (d : AwM) (c p : Int) : Bool := hb (d 2 c) p && (!decide (d 1 c = p) && decide (s 0 3 ≤ d 0 0 - d 4 (10 * c + p)))
def clr (d : AwM) (c p : Int) : AwM := up_ d 2 c (clb (d 2 c) p)
def fgI (s : AwM) (c : Int) (x : Int × AwM) : Nat → Int × AwM
  | 0 => x
  | p + 1 => if fgC s (fgI s c x p).2 c (p : Int) = true then ((fgI s c x p).1 + 1, clr (fgI s c x p).2 c (p : Int)) else fgI s c x p
def fgO (s : AwM) (x : Int × AwM) : Nat → Int × AwM
  | 0 => x
  | c + 1 => fgI s (c : Int) (fgO s x c) (s 0 0).toNat
def dyn (d : AwM) : AwM := up_ d 0 0 (d 0 0 + 1)
def dayA (s d : AwM) : Int × AwM := if s 0 3 = 0 then (0, dyn d) else fgO s (0, dyn d) (s 0 1).toNat
def dysA (s d : AwM) : Nat → Int × AwM
  | 0 => (0, d)
  | k + 1 => ((dysA s d k).1 + (dayA s (dysA s d k).2).1, (dayA s (dysA s d k).2).2)
theorem fgI_b {s : AwM} {c : Int} {x : Int × AwM} : ∀ p : Nat, x.1 ≤ (fgI s c x p).1 ∧ (fgI s c x p).1 ≤ x.1 + p
  | 0 => ⟨by show x.1 ≤ x.1; omega, by show x.1 ≤ x.1 + 0; omega⟩
  | p + 1 => by
    have := fgI_b (s := s) (c := c) (x := x) p
    unfold fgI
    split
    · show x.1 ≤ (fgI s c x p).1 + 1 ∧ (fgI s c x p).1 + 1 ≤ _
      omega
    · omega
theorem fgO_b {s : AwM} {x : Int × AwM} (ho : SoOK s) : ∀ c : Nat, x.1 ≤ (fgO s x c).1 ∧ (fgO s x c).1 ≤ x.1 + 10 * c
  | 0 => ⟨by show x.1 ≤ x.1; omega, by show x.1 ≤ x.1 + 10 * 0; omega⟩
  | c + 1 => by
    have := fgO_b (s := s) (x := x) ho c
    have b := fgI_b (s := s) (c := (c : Int)) (x := fgO s x c) (s 0 0).toNat
    have := ho.p
    unfold fgO
    omega
theorem dayA_b {s d : AwM} (ho : SoOK s) : 0 ≤ (dayA s d).1 ∧ (dayA s d).1 ≤ 120 := by
  have hc := ho.c
  have b := fgO_b (s := s) (x := (0, dyn d)) ho (s 0 1).toNat
  change 0 ≤ _ ∧ _ ≤ 0 + _ at b
  unfold dayA
  split
  · exact ⟨by show (0 : Int) ≤ 0; omega, by show (0 : Int) ≤ 120; omega⟩
  · omega
theorem dysA_b {s d : AwM} (ho : SoOK s) : ∀ k : Nat, 0 ≤ (dysA s d k).1 ∧ (dysA s d k).1 ≤ 120 * k
  | 0 => ⟨by show (0 : Int) ≤ 0; omega, by show (0 : Int) ≤ 120 * ((0 : Nat) : Int); omega⟩
  | k + 1 => by
    have := dysA_b (d := d) ho k
    have := dayA_b (d := (dysA s d k).2) ho
    unfold dysA
    show 0 ≤ _ + _ ∧ _ + _ ≤ _
    omega
theorem fgI_add {s : AwM} {c a : Int} {d : AwM} : ∀ p : Nat, fgI s c (a, d) p = (a + (fgI s c (0, d) p).1, (fgI s c (0, d) p).2)
  | 0 => by show (a, d) = (a + 0, d); rw [Int.add_zero]
  | p + 1 => by
    unfold fgI
    rw [fgI_add (s := s) (c := c) (a := a) (d := d) p]
    by_cases h : fgC s (fgI s c (0, d) p).2 c (p : Int) = true
    · rw [if_pos h, if_pos h, Int.add_assoc]
    · rw [if_neg h, if_neg h]
theorem fgI_at {s : AwM} {c : Int} (x : Int × AwM) (p : Nat) : fgI s c x p = (x.1 + (fgI s c (0, x.2) p).1, (fgI s c (0, x.2) p).2) := fgI_add (a := x.1) (d := x.2) p
theorem fgO_add {s : AwM} {a : Int} {d : AwM} : ∀ c : Nat, fgO s (a, d) c = (a + (fgO s (0, d) c).1, (fgO s (0, d) c).2)
  | 0 => by show (a, d) = (a + 0, d); rw [Int.add_zero]
  | c + 1 => by
    unfold fgO
    rw [fgO_add (s := s) (a := a) (d := d) c, fgI_at, fgI_at (fgO s (0, d) c), Int.add_assoc]
theorem clr_2 {d : AwM} {c p e : Int} : clr d c p 2 e = if e = c then clb (d 2 c) p else d 2 e := by
  unfold clr
  by_cases h : e = c
  · rw [if_pos h, h, up_at]
  · rw [if_neg h, up_oi h]
theorem clr_n {d : AwM} {c p a i : Int} (h : a ≠ 2) : clr d c p a i = d a i := up_of h
theorem clr_2h {d : AwM} {c p e q : Int} (p0 : 0 ≤ p) (h : hb (clr d c p 2 e) q = true) : hb (d 2 e) q = true := by
  rw [clr_2] at h
  by_cases g : e = c
  · rw [if_pos g] at h
    rw [g]
    by_cases q0 : 0 ≤ q
    · rw [hb_clb p0 q0, Bool.and_eq_true] at h
      exact h.1
    · rw [hbn q0] at h ⊢
      rw [hb_clb p0 (by omega), Bool.and_eq_true] at h
      exact h.1
  · rw [if_neg g] at h
    exact h
theorem LdOK_clr {s d : AwM} {c p : Int} (h : LdOK s d) (c0 : 0 ≤ c) (c1 : c < s 0 1) (p0 : 0 ≤ p) (hp : d 1 c ≠ p) : LdOK s (clr d c p) := by
  obtain ⟨h1, h2, h3, h4, h5, h6, h7⟩ := h
  refine ⟨by rw [clr_n (by decide)]; exact h1, fun e a b => by rw [clr_n (by decide)]; exact h2 e a b, fun e a b => ?_, fun e a b => by rw [clr_n (by decide)]; exact h4 e a b, fun e a b => ?_, fun e q a b x => ?_, fun e q a b x y z => ?_⟩
  · rw [clr_2]
    by_cases g : e = c
    · rw [if_pos g]; exact ms_clb (h3 c c0 c1)
    · rw [if_neg g]; exact h3 e a b
  · rw [clr_2, clr_n (by decide)]
    by_cases g : e = c
    · rw [if_pos g, g, hb_clb p0 (h2 c c0 c1).1, h5 c c0 c1, decide_eq_false (Ne.symm hp)]; rfl
    · rw [if_neg g]; exact h5 e a b
  · rw [clr_n (by decide)]; exact h6 e q a b (clr_2h p0 x)
  · rw [clr_n (by decide)]; exact h7 e q a b x y (clr_2h p0 z)
theorem LdOK_dyn {s d : AwM} (h : LdOK s d) (hd : d 0 0 < 1000) : LdOK s (dyn d) := by
  obtain ⟨h1, h2, h3, h4, h5, h6, h7⟩ := h
  unfold dyn LdOK
  simp (disch := omega) only [up_of, up_at]
  exact ⟨by omega, h2, h3, h4, h5, h6, h7⟩
theorem CL_clr {M : AwM} {l : Int} {s d : AwM} {c p : Int} (h : CL M l s d) (p0 : 0 ≤ p) : CL (up_ M (l + 2) c (clb (d 2 c) p)) l s (clr d c p) := by
  obtain ⟨h1, h2, h3, h4, h5⟩ := h
  refine ⟨?_, fun e a b => ?_, fun e a b => ?_, fun e a b => ?_, fun e q a b x y z => ?_⟩
  · rw [up_of (by omega), clr_n (by decide)]; exact h1
  · rw [up_of (by omega), clr_n (by decide)]; exact h2 e a b
  · rw [clr_2]
    by_cases g : e = c
    · rw [if_pos g, g, up_at]
    · rw [if_neg g, up_oi g]; exact h3 e a b
  · rw [up_of (by omega), clr_n (by decide)]; exact h4 e a b
  · rw [up_of (by omega), clr_n (by decide)]; exact h5 e q a b x y (clr_2h p0 z)
theorem ML_clr {M : AwM} {L : Int} {s d : AwM} {c p : Int} (h : ML M L s d) (p0 : 0 ≤ p) : ML (up_ M 199 (12 * L + c) (clb (d 2 c) p)) L s (clr d c p) := by
  obtain ⟨h1, h2, h3, h4, h5⟩ := h
  refine ⟨?_, fun e a b => ?_, fun e a b => ?_, fun e a b => ?_, fun e q a b x y z => ?_⟩
  · rw [up_of (by omega), clr_n (by decide)]; exact h1
  · rw [up_of (by omega), clr_n (by decide)]; exact h2 e a b
  · rw [clr_2]
    by_cases g : e = c
    · rw [if_pos g, g, up_at]
    · rw [if_neg g, up_oi (by omega)]; exact h3 e a b
  · rw [up_of (by omega), clr_n (by decide)]; exact h4 e a b
  · rw [up_of (by omega), clr_n (by decide)]; exact h5 e q a b x y (clr_2h p0 z)
theorem CL_dyn {M : AwM} {l : Int} {s d : AwM} (h : CL M l s d) : CL (up_ M l 0 (d 0 0 + 1)) l s (dyn d) := by
  obtain ⟨h1, h2, h3, h4, h5⟩ := h
  unfold dyn CL
  simp (disch := omega) only [up_of, up_at, true_and]
  exact ⟨h2, h3, h4, h5⟩
theorem ML_dyn {M : AwM} {L : Int} {s d : AwM} (h : ML M L s d) : ML (up_ M 197 L (d 0 0 + 1)) L s (dyn d) := by
  obtain ⟨h1, h2, h3, h4, h5⟩ := h
  unfold dyn ML
  simp (disch := omega) only [up_of, up_at, true_and]
  exact ⟨h2, h3, h4, h5⟩
theorem forget_n {M : AwM} {cr so c : Int} {s d : AwM} (h : CC M cr so s d) (c0 : 0 ≤ c) (c1 : c < s 0 1) : ∃ M', fX0_forget SH M cr c = some ((fgI s c (0, d) (s 0 0).toNat).1, M') ∧ CC M' cr so s (fgI s c (0, d) (s 0 0).toNat).2 ∧ cfr cr so M' M := by
  have hp := h.ok.p
  have hc := h.ok.c
  have hf := h.ok.fa
  have hcr := h.hcr
  have hso := h.hso
  have key := lp_rel (body := u3 (fX0_forget_L4 SH cr c)) (P := fun j (t : Int × Int × AwM) => t.2.1 = (j : Int) ∧ t.1 = (fgI s c (0, d) j).1 ∧ CC t.2.2 cr so s (fgI s c (0, d) j).2 ∧ cfr cr so t.2.2 M) (X := fun r : Int × AwM => r.1 = (fgI s c (0, d) (s 0 0).toNat).1 ∧ CC r.2 cr so s (fgI s c (0, d) (s 0 0).toNat).2 ∧ cfr cr so r.2 M) (n := (s 0 0).toNat) ?_ FU (0, 0, M) (FU_gt (by omega)) ⟨rfl, rfl, h, cfr_rf⟩
  · obtain ⟨⟨r, M'⟩, e, e1, h1, f1⟩ := key
    change r = _ at e1
    subst e1
    refine ⟨M', ?_, h1, f1⟩
    unfold fX0_forget
    rw [e, pb_1, u2_1]
  · rintro j ⟨v, i, M3⟩ hj ⟨hi, hv, h3, f3⟩
    change i = (j : Int) at hi
    change v = _ at hv
    change CC M3 cr so s _ at h3
    subst hi
    subst hv
    have b := fgI_b (s := s) (c := c) (x := (0, d)) j
    change 0 ≤ _ ∧ _ ≤ 0 + (j : Int) at b
    by_cases hjn : j < (s 0 0).toNat
    · refine Or.inl ⟨hjn, ?_⟩
      rw [u3_1]
      unfold fX0_forget_L4 fX0_forget_J49_4 fX0_forget_J98_4
      rw [kcr0 hcr, gd_t rfl, h3.ref, kso0 hso, gd_t rfl, lso0_0 h3.lay hso, kso1 hso, gd_t (by decide), h3.n0, if_pos (by omega), lcr0_0 h3.lay hcr, kcr1 hcr, gd_t rfl, metOn_n h3.lay hcr c0 (by omega) (by omega) (by omega), pb_1, u1_1, h3.day, h3.n3, if_pos (show (0 : Int) = 0 from rfl), if_neg (show ¬ (1 : Int) = 0 by decide), gd_t rfl, knows_n h3.cw c0 (by rw [h3.n1]; exact c1), pb_1, u1_1, h3.kn c0 c1, hz_p (by omega), bi_if, gd_t rfl, lcr1_1 h3.lay hcr, kcr2 hcr, ga_t c0 (by omega), h3.ho c0 c1, w32_s (v := (j : Int) + 1) (by omega) (by omega)]
      have st : ∀ z, z = fgI s c (0, d) j → fgI s c (0, d) (j + 1) = if fgC s z.2 c (j : Int) = true then (z.1 + 1, clr z.2 c (j : Int)) else z := fun z hz => by rw [hz]; rfl
      generalize hz' : fgI s c (0, d) j = z at *
      have st := st z rfl
      have same : fgC s z.2 c (j : Int) = false → (∃ s', some (Sum.inl (z.1, ((j : Int) + 1, M3))) = some (Sum.inl s' : (Int × Int × AwM) ⊕ (Int × AwM)) ∧ (s'.2.1 = ((j + 1 : Nat) : Int) ∧ s'.1 = (fgI s c (0, d) (j + 1)).1 ∧ CC s'.2.2 cr so s (fgI s c (0, d) (j + 1)).2 ∧ cfr cr so s'.2.2 M)) := fun hfalse => by
        rw [hfalse, if_neg (by decide)] at st
        exact ⟨_, rfl, by simp, by rw [st], by rw [st]; exact h3, f3⟩
      cases e1 : hb (z.2 2 c) (j : Int) with
      | false =>
        have hfc : fgC s z.2 c (j : Int) = false := by unfold fgC; rw [e1]; rfl
        rw [if_neg (show ¬ (false = true) by decide)]
        by_cases w : w32 (z.2 0 0 - M3 (cr + 5) (10 * c + (j : Int))) < s 0 3
        · rw [if_pos w]; exact same hfc
        · rw [if_neg w]; exact same hfc
      | true =>
        have em := h3.me c0 c1 (show 0 ≤ (j : Int) by omega) (show (j : Int) < s 0 0 by omega) e1
        have bm := h3.ld.me c (j : Int) c0 c1 (by omega) (by omega) e1
        have bd := h3.ld.day
        rw [em, w32_s (by omega) (by omega), if_pos (show true = true from rfl)]
        by_cases w : z.2 0 0 - z.2 4 (10 * c + (j : Int)) < s 0 3
        · have hfc : fgC s z.2 c (j : Int) = false := by unfold fgC; rw [decide_eq_false (show ¬ s 0 3 ≤ z.2 0 0 - z.2 4 (10 * c + (j : Int)) by omega), Bool.and_false, Bool.and_false]
          rw [if_pos w]; exact same hfc
        · rw [if_neg w]
          by_cases y : (j : Int) = z.2 1 c
          · have hfc : fgC s z.2 c (j : Int) = false := by unfold fgC; rw [decide_eq_true y.symm]; simp
            rw [if_pos y]; exact same hfc
          · have hfc : fgC s z.2 c (j : Int) = true := by unfold fgC; rw [e1, decide_eq_false (fun t => y t.symm), decide_eq_true (show s 0 3 ≤ z.2 0 0 - z.2 4 (10 * c + (j : Int)) by omega)]; rfl
            have kl := ms_lt (h3.ld.kn c c0 c1) (show (s 0 0).toNat ≤ 31 by omega)
            have g1 : cfr cr so (up_ M3 (cr + 3) c (clb (z.2 2 c) j)) M3 := fun a i x1 x2 x3 x4 => up_of (by omega)
            rw [if_neg y, lcr1_2 h3.lay hcr, kcr3 hcr, ga_t c0 (by omega), h3.kn c0 c1, clb_n kl.1 kl.2 (by omega) (by omega), bd_1, w32_s (v := z.1 + 1) (by omega) (by omega)]
            rw [hfc, if_pos rfl] at st
            have cl := CL_clr (c := c) h3.cl (show 0 ≤ (j : Int) by omega)
            rw [Int.add_assoc] at cl
            exact ⟨_, rfl, by simp, by rw [st], by rw [st]; exact CC_of h3 g1 (LdOK_clr h3.ld c0 c1 (by omega) (fun t => y t.symm)) cl, cfr_tr f3 g1⟩
    · have ej : (s 0 0).toNat = j := by omega
      refine Or.inr ⟨((fgI s c (0, d) j).1, M3), ?_, ?_⟩
      · rw [u3_1]
        unfold fX0_forget_L4
        rw [kcr0 hcr, gd_t rfl, h3.ref, kso0 hso, gd_t rfl, lso0_0 h3.lay hso, kso1 hso, gd_t (by decide), h3.n0, if_neg (by omega)]
      · rw [ej]; exact ⟨rfl, h3, f3⟩
theorem passC_n {M : AwM} {cr so n w v : Int} {s d : AwM} (h : CC M cr so s d) (v0 : 0 ≤ v) (v1 : v ≤ 100000) (hfa : 0 < s 0 3) : ∃ M', lp (u3 (fX0_passDays_L38 SH cr n w)) FU (v, 0, M) = some (v + (fgO s (0, d) (s 0 1).toNat).1, M') ∧ CC M' cr so s (fgO s (0, d) (s 0 1).toNat).2 ∧ cfr cr so M' M := by
  have hp := h.ok.p
  have hc := h.ok.c
  have ho := h.ok
  have hcr := h.hcr
  have hso := h.hso
  have key := lp_rel (body := u3 (fX0_passDays_L38 SH cr n w)) (P := fun j (t : Int × Int × AwM) => t.2.1 = (j : Int) ∧ t.1 = v + (fgO s (0, d) j).1 ∧ CC t.2.2 cr so s (fgO s (0, d) j).2 ∧ cfr cr so t.2.2 M) (X := fun r : Int × AwM => r.1 = v + (fgO s (0, d) (s 0 1).toNat).1 ∧ CC r.2 cr so s (fgO s (0, d) (s 0 1).toNat).2 ∧ cfr cr so r.2 M) (n := (s 0 1).toNat) ?_ FU (v, 0, M) (FU_gt (by omega)) ⟨rfl, by show v = v + 0; omega, h, cfr_rf⟩
  · obtain ⟨⟨r, M'⟩, e, e1, h1, f1⟩ := key
    change r = _ at e1
    subst e1
    exact ⟨M', e, h1, f1⟩
  · rintro j ⟨v2, i, M3⟩ hj ⟨hi, hv, h3, f3⟩
    change i = (j : Int) at hi
    change v2 = _ at hv
    change CC M3 cr so s _ at h3
    subst hi
    subst hv
    have b := fgO_b (s := s) (x := (0, d)) ho j
    change 0 ≤ _ ∧ _ ≤ 0 + 10 * (j : Int) at b
    by_cases hjn : j < (s 0 1).toNat
    · refine Or.inl ⟨hjn, ?_⟩
      obtain ⟨M4, e4, h4, f4⟩ := forget_n h3 (c := (j : Int)) (by omega) (by omega)
      have bb := fgI_b (s := s) (c := (j : Int)) (x := (0, (fgO s (0, d) j).2)) (s 0 0).toNat
      change 0 ≤ _ ∧ _ ≤ 0 + (((s 0 0).toNat : Nat) : Int) at bb
      have st : fgO s (0, d) (j + 1) = ((fgO s (0, d) j).1 + (fgI s (j : Int) (0, (fgO s (0, d) j).2) (s 0 0).toNat).1, (fgI s (j : Int) (0, (fgO s (0, d) j).2) (s 0 0).toNat).2) := fgI_at _ _
      rw [u3_1]
      unfold fX0_passDays_L38
      rw [kcr0 hcr, gd_t rfl, coins_n h3.cw, h3.n1, pb_1, u1_1, if_pos (by omega), h3.ref, kso0 hso, gd_t rfl, h3.n3, if_pos hfa, e4, pb_1, u2_1, w32_s (v := (j : Int) + 1) (by omega) (by omega), w32_s (by omega) (by omega)]
      refine ⟨_, rfl, by simp, by rw [st]; exact Int.add_assoc _ _ _, by rw [st]; exact h4, cfr_tr f3 f4⟩
    · have ej : (s 0 1).toNat = j := by omega
      refine Or.inr ⟨(v + (fgO s (0, d) j).1, M3), ?_, ?_⟩
      · rw [u3_1]
        unfold fX0_passDays_L38
        rw [kcr0 hcr, gd_t rfl, coins_n h3.cw, h3.n1, pb_1, u1_1, if_neg (by omega)]
      · rw [ej]; exact ⟨rfl, h3, f3⟩
theorem passC0_n {M : AwM} {cr so n w v : Int} {s d : AwM} (h : CC M cr so s d) (hfa : s 0 3 = 0) : lp (u3 (fX0_passDays_L38 SH cr n w)) FU (v, 0, M) = some (v, M) := by
  have hc := h.ok.c
  refine lp_st (n := 99999) ?_
  rw [u3_1]
  unfold fX0_passDays_L38
  rw [kcr0 h.hcr, gd_t rfl, coins_n h.cw, h.n1, pb_1, u1_1]
  by_cases g : 0 < s 0 1
  · rw [if_pos g, h.ref, kso0 h.hso, gd_t rfl, h.n3, if_neg (by omega)]
  · rw [if_neg g]
theorem dysA_d {s d : AwM} (hs : ∀ e, (dayA s e).2 0 0 = e 0 0 + 1) : ∀ k : Nat, (dysA s d k).2 0 0 = d 0 0 + k
  | 0 => by show d 0 0 = d 0 0 + ((0 : Nat) : Int); omega
  | k + 1 => by
    have := dysA_d (d := d) hs k
    unfold dysA
    show (dayA s (dysA s d k).2).2 0 0 = _
    rw [hs, this]
    omega
theorem fgI_0 {s : AwM} {c : Int} {x : Int × AwM} : ∀ p : Nat, (fgI s c x p).2 0 0 = x.2 0 0
  | 0 => rfl
  | p + 1 => by
    have := fgI_0 (s := s) (c := c) (x := x) p
    unfold fgI
    split
    · exact (clr_n (c := c) (p := (p : Int)) (by decide)).trans this
    · exact this
theorem fgO_0 {s : AwM} {x : Int × AwM} : ∀ c : Nat, (fgO s x c).2 0 0 = x.2 0 0
  | 0 => rfl
  | c + 1 => by
    unfold fgO
    rw [fgI_0]
    exact fgO_0 c
theorem dayA_0 {s : AwM} (d : AwM) : (dayA s d).2 0 0 = d 0 0 + 1 := by
  unfold dayA
  split
  · exact up_at (M := d) (a := 0) (i := 0)
  · rw [fgO_0]; exact up_at (M := d) (a := 0) (i := 0)
theorem passDays_n {M : AwM} {cr so n : Int} {s d : AwM} (h : CC M cr so s d) (n0 : 0 ≤ n) (n1 : n ≤ 100) (hd : d 0 0 + n ≤ 999) : ∃ M', fX0_passDays SH M cr n = some ((dysA s d n.toNat).1, M') ∧ CC M' cr so s (dysA s d n.toNat).2 ∧ cfr cr so M' M := by
  have ho := h.ok
  have hcr := h.hcr
  have hso := h.hso
  have hfa := ho.fa
  have key := lp_rel (body := u3 (fX0_passDays_L4 SH cr n)) (P := fun j (t : Int × Int × AwM) => t.2.1 = (j : Int) ∧ t.1 = (dysA s d j).1 ∧ CC t.2.2 cr so s (dysA s d j).2 ∧ cfr cr so t.2.2 M) (X := fun r : Int × AwM => r.1 = (dysA s d n.toNat).1 ∧ CC r.2 cr so s (dysA s d n.toNat).2 ∧ cfr cr so r.2 M) (n := n.toNat) ?_ FU (0, 0, M) (FU_gt (by omega)) ⟨rfl, rfl, h, cfr_rf⟩
  · obtain ⟨⟨r, M'⟩, e, e1, h1, f1⟩ := key
    change r = _ at e1
    subst e1
    refine ⟨M', ?_, h1, f1⟩
    unfold fX0_passDays
    rw [e, pb_1, u2_1]
  · rintro j ⟨v, i, M3⟩ hj ⟨hi, hv, h3, f3⟩
    change i = (j : Int) at hi
    change v = _ at hv
    change CC M3 cr so s _ at h3
    subst hi
    subst hv
    have b := dysA_b (d := d) ho j
    have dd := dysA_d (d := d) (fun e => dayA_0 (s := s) e) j
    have hdj := h3.ld.day
    by_cases hjn : j < n.toNat
    · refine Or.inl ⟨hjn, ?_⟩
      have f5 : cfr cr so (up_ M3 (cr + 1) 0 ((dysA s d j).2 0 0 + 1)) M3 := fun a i x1 x2 x3 x4 => if_neg x4
      have h5 : CC (up_ M3 (cr + 1) 0 ((dysA s d j).2 0 0 + 1)) cr so s (dyn (dysA s d j).2) := CC_of h3 f5 (LdOK_dyn h3.ld (by omega)) (CL_dyn h3.cl)
      rw [u3_1]
      unfold fX0_passDays_L4
      rw [if_pos (by omega), kcr0 hcr, gd_t rfl, lcr0_0 h3.lay hcr, kcr1 hcr, gd_t rfl, h3.day, if_pos (by omega), w32_s (v := (dysA s d j).2 0 0 + 1) (by omega) (by omega), bd_1, w32_s (v := (j : Int) + 1) (by omega) (by omega)]
      by_cases hz : s 0 3 = 0
      · have st : dysA s d (j + 1) = ((dysA s d j).1 + 0, dyn (dysA s d j).2) := by
          show ((dysA s d j).1 + (dayA s (dysA s d j).2).1, (dayA s (dysA s d j).2).2) = _
          unfold dayA
          rw [if_pos hz]
        rw [passC0_n h5 hz, pb_1, u2_1]
        exact ⟨_, rfl, by simp, by rw [st]; exact (Int.add_zero _).symm, by rw [st]; exact h5, cfr_tr f3 f5⟩
      · have st : dysA s d (j + 1) = ((dysA s d j).1 + (fgO s (0, dyn (dysA s d j).2) (s 0 1).toNat).1, (fgO s (0, dyn (dysA s d j).2) (s 0 1).toNat).2) := by
          show ((dysA s d j).1 + (dayA s (dysA s d j).2).1, (dayA s (dysA s d j).2).2) = _
          unfold dayA
          rw [if_neg hz]
        obtain ⟨M6, e6, h6, f6⟩ := passC_n (n := n) (w := (j : Int)) (v := (dysA s d j).1) h5 (by omega) (by omega) (by omega)
        rw [e6, pb_1, u2_1]
        exact ⟨_, rfl, by simp, by rw [st], by rw [st]; exact h6, cfr_tr f3 (cfr_tr f5 f6)⟩
    · have ej : n.toNat = j := by omega
      refine Or.inr ⟨((dysA s d j).1, M3), ?_, ?_⟩
      · rw [u3_1]
        unfold fX0_passDays_L4
        rw [if_neg (by omega)]
      · rw [ej]; exact ⟨rfl, h3, f3⟩
end PDAY
