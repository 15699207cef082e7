/-! useless alike -/
section PUSEL
def uP (s d : AwM) : Int := usP (d 1) (d 2) (s 0 1).toNat (s 0 0).toNat
theorem uP_ms {s d : AwM} (ho : SoOK s) : ms 10 (uP s d) := ms_up (accB_ms _ _) (by have := ho.p; omega)
theorem uP_n {M : AwM} {cr so : Int} {s d : AwM} (h : CC M cr so s d) : fX0_uselessPurses SH M cr = some (uP s d) := by
  have c := h.ok.c
  have p := h.ok.p
  rw [purses_n h.cw, h.n1, h.n0]
  exact congrArg some (usP_congr _ _ (fun i a b => h.ho a (by omega)) (fun i a b => h.kn a (by omega)))
def ulA (s d : AwM) (p : Int) : Bool := ulS (d 1) (d 2) p (s 0 1).toNat
theorem ulA_n {M : AwM} {b L p : Int} {s d : AwM} (h : MM M b L s d) : fX9_isUseless SH M 167 L p = some (bi (ulA s d p)) := by
  have c := h.ok.c
  rw [museless_n h.mw (fun i a z => by rw [h.n1] at z; rw [h.kn a z, h.ho a z]; exact h.ld.kh i a z), h.n1]
  unfold ulA
  rw [ulS_congr (H' := d 1) (K' := d 2) (w := p) _ (fun i a z => h.ho a (by omega)) (fun i a z => h.kn a (by omega))]
theorem uP_hb {s d : AwM} {p : Int} (p0 : 0 ≤ p) : hb (uP s d) p = (decide (p < ((s 0 0).toNat : Int)) && ulA s d p) := accB_hb _ p0 _
def lowC (m : Nat) : Bool := match fJ6_numberOfTrailingZeros_0f7a4 [] (fun _ _ => 0) (m : Int) with
  | none => false
  | some x => decide (0 ≤ x ∧ x < 10) && (hb (m : Int) x && (List.range 10).all fun q => decide (x ≤ (q : Int)) || !hb (m : Int) (q : Int))
theorem low_all : (List.range 1024).all (fun m => decide (m = 0) || lowC m) = true := by decide +kernel
theorem ntz_n {sh : AwS} {M : AwM} {m : Int} (h : ms 10 m) (hm : m ≠ 0) : ∃ x, fJ6_numberOfTrailingZeros_0f7a4 sh M m = some x ∧ (0 ≤ x ∧ x < 10) ∧ hb m x = true ∧ ∀ q : Int, 0 ≤ q → q < x → hb m q = false := by
  obtain ⟨a, rfl, ha⟩ := ms_n.mp h
  have := List.all_eq_true.mp low_all a (List.mem_range.mpr (by omega))
  rw [Bool.or_eq_true, decide_eq_true_iff] at this
  rcases this with z | z
  · omega
  · have e : ∀ x, fJ6_numberOfTrailingZeros_0f7a4 sh M (a : Int) = some x ↔ fJ6_numberOfTrailingZeros_0f7a4 [] (fun _ _ => 0) (a : Int) = some x := fun x => Iff.rfl
    unfold lowC at z
    cases hx : fJ6_numberOfTrailingZeros_0f7a4 [] (fun _ _ => 0) (a : Int) with
    | none => rw [hx] at z; cases z
    | some x =>
      rw [hx] at z
      simp only [Bool.and_eq_true, decide_eq_true_eq, List.all_eq_true, List.mem_range, Bool.or_eq_true, Bool.not_eq_true'] at z
      obtain ⟨z1, z2, z3⟩ := z
      refine ⟨x, (e x).mpr hx, z1, z2, fun q q0 q1 => ?_⟩
      have := z3 q.toNat (by omega)
      rw [show ((q.toNat : Nat) : Int) = q by omega] at this
      rcases this with w | w
      · omega
      · exact w
/-- the first day ahead with a useless purse -/
def uslS (s d : AwM) : Nat → Nat → Option Nat
  | 0, _ => none
  | f + 1, k => if 60 < k ∨ 999 < d 0 0 + (k : Int) then none else if uP s (dysA s d k).2 = 0 then uslS s d f (k + 1) else some k
theorem sel_r {A B C : Type} {f : A → C} {g : B → C} {b : B} : Sum.elim f g (.inr b) = g b := rfl
theorem sel_l {A B C : Type} {f : A → C} {g : B → C} {a : A} : Sum.elim f g (.inl a) = f a := rfl
theorem usl_s {s d : AwM} {f k : Nat} : uslS s d (f + 1) k = if 60 < k ∨ 999 < d 0 0 + (k : Int) then none else if uP s (dysA s d k).2 = 0 then uslS s d f (k + 1) else some k := rfl
theorem dysA_s {s d : AwM} {k : Nat} : (dysA s d (k + 1)).2 = (dayA s (dysA s d k).2).2 := rfl
theorem useC_n {M s d : AwM} {n : Int} {R : Int → AwM} {mi : AwM} {v : Int} (h : CR M s d n R mi) (c : CC M 160 (M 1 3) s d) : ∃ r, lp (u2 (fX8_useless_L19 SH 1 v)) FU (0, M) = some r ∧ ((∃ M', r = .inl M' ∧ uslS s d 62 0 = none ∧ CR M' s d n R mi ∧ hif M' M) ∨ (∃ k M', r = .inr (uP s (dysA s d k).2, M') ∧ uslS s d 62 0 = some k ∧ uP s (dysA s d k).2 ≠ 0 ∧ CR M' s d n R mi ∧ CC M' 160 (M' 1 3) s (dysA s d k).2 ∧ hif M' M)) := by
  have hdd := h.cc.ld.day
  refine lp_rel (body := u2 (fX8_useless_L19 SH 1 v)) (P := fun j (t : Int × AwM) => t.1 = (j : Int) ∧ uslS s d (62 - j) j = uslS s d 62 0 ∧ d 0 0 + (j - 1 : Int) ≤ 999 ∧ CR t.2 s d n R mi ∧ CC t.2 160 (t.2 1 3) s (dysA s d (j - 1)).2 ∧ hif t.2 M) (X := _) (n := 61) ?_ FU (0, M) (FU_gt (by omega)) ⟨rfl, rfl, by show d 0 0 + (((0 : Nat) : Int) - 1) ≤ 999; omega, h, c, fun _ _ _ => rfl⟩
  rintro j ⟨i, M3⟩ hj ⟨hi, hu, hd1, h3, c3, f3⟩
  change i = (j : Int) at hi
  change CR M3 s d n R mi at h3
  change CC M3 160 (M3 1 3) s _ at c3
  change hif M3 M at f3
  subst hi
  have l := h3.lay
  have ef : 62 - j = (61 - j) + 1 := by omega
  rw [ef, usl_s] at hu
  rw [u2_1]
  unfold fX8_useless_L19
  by_cases a : 60 < (j : Int)
  · rw [if_pos a]
    rw [if_pos (Or.inl (by omega))] at hu
    exact Or.inr ⟨_, rfl, Or.inl ⟨M3, rfl, hu.symm, h3, f3⟩⟩
  rw [if_neg a, kd1, gd_t rfl, ly1_4 l, kd153, gd_t rfl, ly153_0 l, kd154, gd_t rfl, show M3 154 0 = d 0 0 from h3.cc.day, w32_s (v := d 0 0 + (j : Int)) (by omega) (by omega)]
  by_cases b : 999 < d 0 0 + (j : Int)
  · rw [if_pos b]
    rw [if_pos (Or.inr b)] at hu
    exact Or.inr ⟨_, rfl, Or.inl ⟨M3, rfl, hu.symm, h3, f3⟩⟩
  rw [if_neg (show ¬ (60 < j ∨ 999 < d 0 0 + (j : Int)) by omega)] at hu
  rw [if_neg b, ly1_5 l, kd160, gd_t rfl, w32_s (v := (j : Int) + 1) (by omega) (by omega)]
  by_cases z : 0 < (j : Int)
  · have dd := dysA_d (d := d) (fun e => dayA_0 (s := s) e) (j - 1)
    obtain ⟨M4, e4, c4, f4⟩ := passDays_n c3 (n := 1) (by decide) (by decide) (by omega)
    rw [show (1 : Int).toNat = 1 from rfl, dys1] at e4 c4
    obtain ⟨h4, g4⟩ := CR_t h3 c4.lay f4
    have ej : (dysA s d j).2 = (dayA s (dysA s d (j - 1)).2).2 := by
      have : j = (j - 1) + 1 := by omega
      rw [this]; rfl
    rw [← ej, ← g4] at c4
    have f5 := hif_tr f3 (cfr_hi (Or.inr rfl) h3.cc.hso f4)
    rw [if_pos z, e4, pb_1, u2_1, ly1_5 h4.lay, kd160, gd_t rfl, uP_n c4, pb_1, u1_1]
    by_cases y : uP s (dysA s d j).2 = 0
    · rw [if_pos y] at hu ⊢
      rw [show 61 - j = 62 - (j + 1) by omega] at hu
      exact Or.inl ⟨by omega, _, rfl, by simp, hu, by simp; omega, h4, c4, f5⟩
    · rw [if_neg y] at hu ⊢
      exact Or.inr ⟨_, rfl, Or.inr ⟨j, M4, rfl, hu.symm, y, h4, c4, f5⟩⟩
  · have ej : j = 0 := by omega
    subst ej
    rw [if_neg z, uP_n c3, pb_1, u1_1]
    by_cases y : uP s (dysA s d 0).2 = 0
    · rw [if_pos y] at hu
      rw [if_pos (show uP s (dysA s d (0 - 1)).2 = 0 from y)]
      exact Or.inl ⟨by omega, _, rfl, rfl, hu, by show d 0 0 + (((0 + 1 : Nat) : Int) - 1) ≤ 999; omega, h3, c3, f3⟩
    · rw [if_neg y] at hu
      rw [if_neg (show ¬ uP s (dysA s d (0 - 1)).2 = 0 from y)]
      exact Or.inr ⟨_, rfl, Or.inr ⟨0, M3, rfl, hu.symm, y, h3, c3, f3⟩⟩
theorem useI_n {M s d : AwM} {b v k : Int} (h : MM M b 1 s d) : ∃ r, lp (u1 (fX9_useless_L29 SH M 167 v k)) FU 0 = some r ∧ ((r = .inl () ∧ uP s d = 0) ∨ (∃ p : Int, r = .inr p ∧ (0 ≤ p ∧ p < s 0 0) ∧ hb (uP s d) p = true ∧ ∀ q : Int, 0 ≤ q → q < p → hb (uP s d) q = false)) := by
  have hp := h.ok.p
  have hbb := h.b01
  refine lp_rel (body := u1 (fX9_useless_L29 SH M 167 v k)) (P := fun j (t : Int) => t = (j : Int) ∧ ∀ q : Int, 0 ≤ q → q < j → hb (uP s d) q = false) (X := _) (n := (s 0 0).toNat) ?_ FU 0 (FU_gt (by omega)) ⟨rfl, fun q x y => absurd x (by omega)⟩
  rintro j t hj ⟨rfl, hq⟩
  rw [u1_1]
  unfold fX9_useless_L29
  rw [kd167, gd_t rfl, ly167_14 h.lay, kd169, h.bk, ga_t (by omega) (by omega), h.n0]
  by_cases hjn : j < (s 0 0).toNat
  · have e : hb (uP s d) (j : Int) = ulA s d (j : Int) := by rw [uP_hb (by omega), decide_eq_true (by omega), Bool.true_and]
    rw [if_pos (by omega), ulA_n h, pb_1, u1_1, bi_if, w32_s (v := (j : Int) + 1) (by omega) (by omega)]
    by_cases z : ulA s d (j : Int) = true
    · rw [if_pos z]
      exact Or.inr ⟨_, rfl, Or.inr ⟨(j : Int), rfl, ⟨by omega, by omega⟩, e.trans z, hq⟩⟩
    · rw [if_neg z]
      refine Or.inl ⟨hjn, _, rfl, by simp, fun q q0 q1 => ?_⟩
      by_cases w : q = j
      · rw [w, e]; exact Bool.eq_false_iff.mpr z
      · exact hq q q0 (by omega)
  · refine Or.inr ⟨_, by rw [if_neg (by omega)], Or.inl ⟨rfl, ?_⟩⟩
    refine ms_ext (uP_ms h.ok) (ms_0 10) (fun q q0 q1 => ?_)
    rw [hb_0]
    by_cases w : q < (j : Int)
    · exact hq q q0 w
    · rw [uP_hb q0, decide_eq_false (by omega), Bool.false_and]
theorem useM_n {M s d : AwM} {n : Int} {R : Int → AwM} {mi : AwM} {v : Int} (h : MR M s d n R mi) (c : MM M (M 167 13) 1 s d) : ∃ r, lp (u2 (fX9_useless_L19 SH 167 v)) FU (0, M) = some r ∧ ((∃ M', r = .inl M' ∧ uslS s d 62 0 = none ∧ MR M' s d n R mi ∧ lof M' M) ∨ (∃ k p M', r = .inr (p, M') ∧ uslS s d 62 0 = some k ∧ ((0 ≤ p ∧ p < s 0 0) ∧ hb (uP s (dysA s d k).2) p = true ∧ ∀ q : Int, 0 ≤ q → q < p → hb (uP s (dysA s d k).2) q = false) ∧ MR M' s d n R mi ∧ MM M' (M' 167 13) 1 s (dysA s d k).2 ∧ lof M' M)) := by
  have hdd := h.mm.ld.day
  refine lp_rel (body := u2 (fX9_useless_L19 SH 167 v)) (P := fun j (t : Int × AwM) => t.1 = (j : Int) ∧ uslS s d (62 - j) j = uslS s d 62 0 ∧ (j : Int) + d 0 0 ≤ 1000 ∧ MM t.2 (t.2 167 13) 1 s (dysA s d j).2 ∧ MR t.2 s d n R mi ∧ lof t.2 M) (X := _) (n := 61) ?_ FU (0, M) (FU_gt (by omega)) ⟨rfl, rfl, by show ((0 : Nat) : Int) + d 0 0 ≤ 1000; omega, c, h, fun _ _ _ => rfl⟩
  rintro j ⟨i, M3⟩ hj ⟨hi, hu, hd1, c3, h3, f3⟩
  change i = (j : Int) at hi
  change MR M3 s d n R mi at h3
  change MM M3 (M3 167 13) 1 s (dysA s d j).2 at c3
  change lof M3 M at f3
  subst hi
  have l := h3.lay
  have ef : 62 - j = (61 - j) + 1 := by omega
  rw [ef, usl_s] at hu
  rw [u2_1]
  unfold fX9_useless_L19
  rw [kd167, gd_t rfl, ahead_n h3.mm h3.mm.day rfl, pb_1, u1_1, bi_if]
  by_cases a : 60 < j ∨ 999 < d 0 0 + (j : Int)
  · rw [if_neg (by rw [Bool.and_eq_true, decide_eq_true_iff, decide_eq_true_iff]; omega)]
    rw [if_pos a] at hu
    exact Or.inr ⟨_, rfl, Or.inl ⟨M3, rfl, hu.symm, h3, f3⟩⟩
  · rw [if_neg a] at hu
    obtain ⟨r, e, hr⟩ := useI_n (v := v) (k := (j : Int)) c3
    rw [if_pos (by rw [Bool.and_eq_true, decide_eq_true_iff, decide_eq_true_iff]; omega), e, pb_1, w32_s (v := (j : Int) + 1) (by omega) (by omega)]
    have dd := dysA_d (d := d) (fun e => dayA_0 (s := s) e) j
    rcases hr with ⟨rfl, z⟩ | ⟨p, rfl, hp, hp2, hp3⟩
    · rw [if_pos z] at hu
      show (_ ∧ ∃ s', pb (fX9_dayGoes SH M3 167 1) _ = _ ∧ _) ∨ _
      obtain ⟨M4, e4, c4, f4⟩ := dayGoes_n c3 (by omega)
      obtain ⟨h4, g4⟩ := MR_t h3 f4
      rw [← g4] at c4
      rw [show 61 - j = 62 - (j + 1) by omega] at hu
      exact Or.inl ⟨by omega, _, by rw [e4, pb_1, u2_1], by simp, hu, by simp; omega, c4, h4, lof_tr f3 (mfr_lo f4)⟩
    · have hne : ¬ uP s (dysA s d j).2 = 0 := fun z => by rw [z, hb_0] at hp2; cases hp2
      rw [if_neg hne] at hu
      exact Or.inr ⟨_, rfl, Or.inr ⟨j, p, M3, rfl, hu.symm, ⟨hp, hp2, hp3⟩, h3, c3, f3⟩⟩
theorem useless_b {s d : AwM} {n : Int} {R : Int → AwM} {mi : AwM} {v : Int} : BSt (fun M => fX8_useless SH M 1 v) (fun M => fX9_useless SH M 167 v) s d n R mi := by
  have key : ∃ r : Int, (∀ M, CR M s d n R mi → ∃ M', fX8_useless SH M 1 v = some (r, M') ∧ CR M' s d n R mi ∧ hif M' M) ∧ (∀ M, MR M s d n R mi → ∃ M', fX9_useless SH M 167 v = some (r, M') ∧ MR M' s d n R mi ∧ lof M' M) := by
    cases hu : uslS s d 62 0 with
    | none =>
      refine ⟨-1, fun M h => ?_, fun M h => ?_⟩
      · obtain ⟨M1, e1, c1, h1, f1, g1⟩ := trial_n h
        rw [← g1] at c1
        obtain ⟨r, e2, hr⟩ := useC_n (v := v) h1 c1
        rcases hr with ⟨M2, rfl, -, h2, f2⟩ | ⟨k, M2, rfl, hk, -⟩
        · refine ⟨M2, ?_, h2, hif_tr f1 f2⟩
          unfold fX8_useless
          rw [kd1, gd_t rfl, ly1_5 h.lay, kd160, gd_t rfl, ly1_4 h.lay, kd153, gd_t rfl, ly160_0 h.lay, kd161, gd_t rfl, ly153_0 h.lay, e1, pb_1, u1_1, e2, pb_1]
          rfl
        · rw [hu] at hk; cases hk
      · by_cases hv : 0 ≤ v ∧ v ≤ 1
        · obtain ⟨M1, e1, c1, h1, f1, g1⟩ := mtrial_n h
          rw [← g1] at c1
          obtain ⟨r, e2, hr⟩ := useM_n (v := v) h1 c1
          rcases hr with ⟨M2, rfl, -, h2, f2⟩ | ⟨k, p, M2, rfl, hk, -⟩
          · refine ⟨M2, ?_, h2, lof_tr f1 f2⟩
            unfold fX9_useless
            rw [isr_n, pb_1, u1_1, bi_if, if_pos (decide_eq_true hv), kd167, gd_t rfl, e1, pb_1, u1_1, e2, pb_1]
            rfl
          · rw [hu] at hk; cases hk
        · refine ⟨M, ?_, h, fun _ _ _ => rfl⟩
          unfold fX9_useless
          rw [isr_n, pb_1, u1_1, bi_if, if_neg (by rw [decide_eq_false hv]; decide)]
    | some k =>
      by_cases v0 : v = 0
      · refine ⟨(dysA s d k).2 0 0, fun M h => ?_, fun M h => ?_⟩
        · obtain ⟨M1, e1, c1, h1, f1, g1⟩ := trial_n h
          rw [← g1] at c1
          obtain ⟨r, e2, hr⟩ := useC_n (v := v) h1 c1
          rcases hr with ⟨M2, rfl, hk, -⟩ | ⟨k', M2, rfl, hk, -, h2, c2, f2⟩
          · rw [hu] at hk; cases hk
          · rw [hu] at hk
            have ek := Option.some.inj hk
            subst ek
            refine ⟨M2, ?_, h2, hif_tr f1 f2⟩
            unfold fX8_useless
            rw [kd1, gd_t rfl, ly1_5 h.lay, kd160, gd_t rfl, ly1_4 h.lay, kd153, gd_t rfl, ly160_0 h.lay, kd161, gd_t rfl, ly153_0 h.lay, e1, pb_1, u1_1, e2, pb_1, sel_r, u2_1]
            rw [if_pos v0, ly1_5 h2.lay, kd160, gd_t rfl, ly160_0 h2.lay, kd161, gd_t rfl, show M2 161 0 = (dysA s d k).2 0 0 from c2.day]
        · obtain ⟨M1, e1, c1, h1, f1, g1⟩ := mtrial_n h
          rw [← g1] at c1
          obtain ⟨r, e2, hr⟩ := useM_n (v := v) h1 c1
          rcases hr with ⟨M2, rfl, hk, -⟩ | ⟨k', p, M2, rfl, hk, -, h2, c2, f2⟩
          · rw [hu] at hk; cases hk
          · rw [hu] at hk
            have ek := Option.some.inj hk
            subst ek
            refine ⟨M2, ?_, h2, lof_tr f1 f2⟩
            unfold fX9_useless
            rw [isr_n, pb_1, u1_1, bi_if, if_pos (decide_eq_true ⟨by omega, by omega⟩), kd167, gd_t rfl, e1, pb_1, u1_1, e2, pb_1, sel_r, u2_1]
            rw [if_pos v0, ly167_48 h2.lay, kd197, gd_t (by decide), show M2 197 1 = (dysA s d k).2 0 0 from c2.day]
      · by_cases v1 : v = 1
        · have hx : ∀ {M : AwM}, CR M s d n R mi ∨ MR M s d n R mi → uP s (dysA s d k).2 ≠ 0 → ∃ x, (∀ M : AwM, fJ6_numberOfTrailingZeros_0f7a4 SH M (uP s (dysA s d k).2) = some x) ∧ (0 ≤ x ∧ x < 10) ∧ hb (uP s (dysA s d k).2) x = true ∧ ∀ q : Int, 0 ≤ q → q < x → hb (uP s (dysA s d k).2) q = false := fun {M} hh hne => by
            have ho : SoOK s := by rcases hh with z | z; exact z.cc.ok; exact z.mm.ok
            obtain ⟨x, e, a, b, c⟩ := ntz_n (sh := SH) (M := M) (uP_ms (d := (dysA s d k).2) ho) hne
            exact ⟨x, fun _ => e, a, b, c⟩
          by_cases hne : uP s (dysA s d k).2 = 0
          · refine ⟨0, fun M h => ?_, fun M h => ?_⟩
            · obtain ⟨M1, e1, c1, h1, f1, g1⟩ := trial_n h
              rw [← g1] at c1
              obtain ⟨r, e2, hr⟩ := useC_n (v := v) h1 c1
              rcases hr with ⟨M2, rfl, hk, -⟩ | ⟨k', M2, rfl, hk, ne, h2, c2, f2⟩
              · rw [hu] at hk; cases hk
              · rw [hu] at hk
                have ek := Option.some.inj hk
                subst ek
                exact absurd hne ne
            · obtain ⟨M1, e1, c1, h1, f1, g1⟩ := mtrial_n h
              rw [← g1] at c1
              obtain ⟨r, e2, hr⟩ := useM_n (v := v) h1 c1
              rcases hr with ⟨M2, rfl, hk, -⟩ | ⟨k', p, M2, rfl, hk, hp, -⟩
              · rw [hu] at hk; cases hk
              · rw [hu] at hk
                have ek := Option.some.inj hk
                subst ek
                have := hp.2.1
                rw [hne, hb_0] at this
                cases this
          · by_cases hex : ∃ M, CR M s d n R mi ∨ MR M s d n R mi
            · obtain ⟨M0, hM0⟩ := hex
              obtain ⟨x, ex, hx1, hx2, hx3⟩ := hx hM0 hne
              refine ⟨x, fun M h => ?_, fun M h => ?_⟩
              · obtain ⟨M1, e1, c1, h1, f1, g1⟩ := trial_n h
                rw [← g1] at c1
                obtain ⟨r, e2, hr⟩ := useC_n (v := v) h1 c1
                rcases hr with ⟨M2, rfl, hk, -⟩ | ⟨k', M2, rfl, hk, ne, h2, c2, f2⟩
                · rw [hu] at hk; cases hk
                · rw [hu] at hk
                  have ek := Option.some.inj hk
                  subst ek
                  refine ⟨M2, ?_, h2, hif_tr f1 f2⟩
                  unfold fX8_useless
                  rw [kd1, gd_t rfl, ly1_5 h.lay, kd160, gd_t rfl, ly1_4 h.lay, kd153, gd_t rfl, ly160_0 h.lay, kd161, gd_t rfl, ly153_0 h.lay, e1, pb_1, u1_1, e2, pb_1, sel_r, u2_1]
                  rw [if_neg v0, if_pos v1, ex, pb_1, u1_1]
              · obtain ⟨M1, e1, c1, h1, f1, g1⟩ := mtrial_n h
                rw [← g1] at c1
                obtain ⟨r, e2, hr⟩ := useM_n (v := v) h1 c1
                rcases hr with ⟨M2, rfl, hk, -⟩ | ⟨k', p, M2, rfl, hk, ⟨hp1, hp2, hp3⟩, h2, c2, f2⟩
                · rw [hu] at hk; cases hk
                · rw [hu] at hk
                  have ek := Option.some.inj hk
                  subst ek
                  have epx : p = x := by
                    by_cases a : p < x
                    · have := hx3 p hp1.1 a
                      rw [hp2] at this; cases this
                    · by_cases b : x < p
                      · have := hp3 x hx1.1 b
                        rw [hx2] at this; cases this
                      · omega
                  refine ⟨M2, ?_, h2, lof_tr f1 f2⟩
                  unfold fX9_useless
                  rw [isr_n, pb_1, u1_1, bi_if, if_pos (decide_eq_true ⟨by omega, by omega⟩), kd167, gd_t rfl, e1, pb_1, u1_1, e2, pb_1, sel_r, u2_1]
                  rw [if_neg v0, epx]
            · exact ⟨0, fun M h => absurd ⟨M, Or.inl h⟩ hex, fun M h => absurd ⟨M, Or.inr h⟩ hex⟩
        · refine ⟨-1, fun M h => ?_, fun M h => ⟨M, ?_, h, fun _ _ _ => rfl⟩⟩
          · obtain ⟨M1, e1, c1, h1, f1, g1⟩ := trial_n h
            rw [← g1] at c1
            obtain ⟨r, e2, hr⟩ := useC_n (v := v) h1 c1
            rcases hr with ⟨M2, rfl, hk, -⟩ | ⟨k', M2, rfl, hk, -, h2, c2, f2⟩
            · rw [hu] at hk; cases hk
            · refine ⟨M2, ?_, h2, hif_tr f1 f2⟩
              unfold fX8_useless
              rw [kd1, gd_t rfl, ly1_5 h.lay, kd160, gd_t rfl, ly1_4 h.lay, kd153, gd_t rfl, ly160_0 h.lay, kd161, gd_t rfl, ly153_0 h.lay, e1, pb_1, u1_1, e2, pb_1, sel_r, u2_1]
              rw [if_neg v0, if_neg v1]
          · unfold fX9_useless
            rw [isr_n, pb_1, u1_1, bi_if, if_neg (by rw [decide_eq_true_iff]; omega)]
  obtain ⟨r, hC, hM⟩ := key
  exact ⟨r, s, d, n, R, mi, hC, hM⟩
end PUSEL
