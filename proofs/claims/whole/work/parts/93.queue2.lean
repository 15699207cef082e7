/-! the search's queue: the model; the pays of both -/
section PQU2
def acM (x : Int × Int × Int × Int) : Int := if x.2.2.1 = -1 then 100000000 else x.2.2.2
def fmM (x : Int × Int × Int × Int) : Int := if x.2.2.1 = -1 then -1 else cdM x.2.2.1 (if x.2.2.2 < 10 then x.2.1 else clb x.2.1 (x.2.2.2 - 10))
def MQu (M : AwM) (P : Int) (l : List (Int × Int × Int × Int)) : Prop :=
  M 167 66 = (l.length : Int) ∧ (∀ (k : Nat) x, l[k]? = some x → M 205 (k : Int) = cdM x.1 x.2.1) ∧ (∀ x ∈ l, M 204 (cdM x.1 x.2.1) = acM x ∧ M 203 (cdM x.1 x.2.1) = fmM x) ∧ (∀ w m : Int, 0 ≤ w → w < P → ms P.toNat m → inQ l w m = false → M 204 (cdM w m) = -1)
def mwf (M' M : AwM) : Prop := ∀ a i : Int, ¬ (203 ≤ a ∧ a ≤ 205) → ¬ (a = 167 ∧ i = 66) → M' a i = M a i
theorem mwf_rf {M : AwM} : mwf M M := fun _ _ _ _ => rfl
theorem mwf_tr {M M1 M2 : AwM} (h : mwf M1 M) (h' : mwf M2 M1) : mwf M2 M := fun a i p q => (h' a i p q).trans (h a i p q)
theorem lay_wf : layT.all (fun q => decide (¬ (129 ≤ q.1 ∧ q.1 ≤ 133) ∧ ¬ (q.1 = 128 ∧ (q.2.1 = 2 ∨ q.2.1 = 5 ∨ q.2.1 = 7)) ∧ ¬ (203 ≤ q.1 ∧ q.1 ≤ 205) ∧ ¬ (q.1 = 167 ∧ q.2.1 = 66))) = true := by decide +kernel
theorem LAY_wf {M M' : AwM} (h : LAY M) (f : wfr M' M) : LAY M' := LAY_fq h (fun q hq => by
  have t := of_decide_eq_true (List.all_eq_true.mp lay_wf q hq)
  exact f _ _ (by omega) (by omega))
theorem LAY_mw {M M' : AwM} (h : LAY M) (f : mwf M' M) : LAY M' := LAY_fq h (fun q hq => by
  have t := of_decide_eq_true (List.all_eq_true.mp lay_wf q hq)
  exact f _ _ t.2.2.1 t.2.2.2)
theorem MM_mw {M M' : AwM} {b L : Int} {s d : AwM} (h : MM M b L s d) (f : mwf M' M) : MM M' b L s d :=
  MM_fr h (LAY_mw h.lay f) (f _ _ (by omega) (by omega)) (fun a i _ _ => f a i (by omega) (by omega)) (fun a i _ _ => f a i (by omega) (by omega))
theorem mreach_n {M : AwM} {P : Int} {l : List (Int × Int × Int × Int)} (hl : LAY M) (hP : 0 ≤ P ∧ P ≤ 10) (hq : QOK P l) (h : MQu M P l) {x : Int × Int × Int × Int} (hx : NdOK P x) : ∃ M', fX9_reaches SH M 167 x.1 x.2.1 (fmM x) (acM x) = some M' ∧ MQu M' P (rchQ l x) ∧ mwf M' M := by
  obtain ⟨h2, hk, hi, hz'⟩ := h
  have b := nd_b hP hx
  have hx1 := hx.1
  have ec : w32 (w32 (1024 * x.1) + x.2.1) = cdM x.1 x.2.1 := by
    rw [w32_s (v := 1024 * x.1) (by omega) (by omega), w32_s (by omega) (by omega)]; rfl
  have hh : ∀ y, NdOK P y → acM y ≠ -1 := fun y hy => by
    unfold acM
    rcases hy.2.2 with e | e
    · rw [if_pos e]; decide
    · rw [if_neg (by omega)]; omega
  unfold fX9_reaches
  rw [kd167, gd_t rfl, ec, ly167_64 hl, kd204, ga_t b.1 b.2.1]
  unfold rchQ
  by_cases e : inQ l x.1 x.2.1 = true
  · obtain ⟨y, ym, y1, y2⟩ := inQ_t.mp e
    have := (hi y ym).1
    rw [y1, y2] at this
    rw [if_neg (by rw [this]; exact hh y (hq.1 y ym)), if_pos e]
    exact ⟨M, rfl, ⟨h2, hk, hi, hz'⟩, mwf_rf⟩
  · have e' : inQ l x.1 x.2.1 = false := by cases q : inQ l x.1 x.2.1; rfl; exact absurd q e
    have len := (QOK_rch hP hq hx).2 e'
    rw [if_pos (hz' _ _ hx.1.1 hx.1.2 hx.2.1 e'), bd_1, up_of (show (167 : Int) ≠ 204 by decide), ly167_63 hl, kd203, ga_t b.1 b.2.1, bd_1]
    rw [up_of (show (167 : Int) ≠ 203 by decide), up_of (show (167 : Int) ≠ 204 by decide), up_of (show (167 : Int) ≠ 203 by decide), up_of (show (167 : Int) ≠ 204 by decide), ly167_65 hl, kd205, h2, ga_t (by omega) (by omega), bd_1, up_of (show (167 : Int) ≠ 205 by decide), up_of (show (167 : Int) ≠ 203 by decide), up_of (show (167 : Int) ≠ 204 by decide), h2, w32_s (v := (l.length : Int) + 1) (by omega) (by omega), bd_1, if_neg e]
    refine ⟨_, rfl, ⟨?_, fun k y hy => ?_, fun y hy => ?_, fun w m w0 w1 hm hn => ?_⟩, fun a i p q => ?_⟩
    · rw [up_at, List.length_append]; simp
    · rw [up_of (by decide)]
      by_cases ek : k = l.length
      · subst ek
        rw [up_at]
        rw [List.getElem?_append_right (Nat.le_refl _)] at hy
        simp at hy
        rw [← hy]
      · have kl : k < l.length := by
          have := (List.getElem?_eq_some_iff.mp hy).1
          rw [List.length_append] at this
          simp at this
          omega
        rw [up_oi (by omega), up_of (by decide), up_of (by decide)]
        rw [List.getElem?_append_left kl] at hy
        exact hk k y hy
    · rw [up_of (show (204 : Int) ≠ 167 by decide), up_of (show (204 : Int) ≠ 205 by decide), up_of (show (204 : Int) ≠ 203 by decide), up_of (show (203 : Int) ≠ 167 by decide), up_of (show (203 : Int) ≠ 205 by decide)]
      rcases List.mem_append.mp hy with a | a
      · have ya := hq.1 y a
        have ne : cdM y.1 y.2.1 ≠ cdM x.1 x.2.1 := fun z => e (inQ_t.mpr ⟨y, a, (cdM_i hP ya hx).mp z⟩)
        rw [up_oi ne, up_oi ne, up_of (show (203 : Int) ≠ 204 by decide)]
        exact hi y a
      · rw [List.mem_singleton.mp a, up_at, up_at]
        exact ⟨rfl, rfl⟩
    · have hn' : inQ l w m = false ∧ ¬ (x.1 = w ∧ x.2.1 = m) := by
        unfold inQ at hn ⊢
        rw [List.any_append, Bool.or_eq_false_iff] at hn
        refine ⟨hn.1, fun z => ?_⟩
        have := hn.2
        simp [z.1, z.2] at this
      rw [up_of (show (204 : Int) ≠ 167 by decide), up_of (show (204 : Int) ≠ 205 by decide), up_of (show (204 : Int) ≠ 203 by decide), up_oi (fun z => hn'.2 (by
        have := (cdM_i hP (x := (w, m, -1, 0)) (y := x) ⟨⟨w0, w1⟩, hm, Or.inl rfl⟩ hx).mp z
        exact ⟨this.1.symm, this.2.symm⟩))]
      exact hz' w m w0 w1 hm hn'.1
    · rw [up_nn (fun z => q z), up_of (by omega), up_of (by omega), up_of (by omega)]
/-- the pays from a state, upward -/
def payQ (l : List (Int × Int × Int × Int)) (w m : Int) : Nat → List (Int × Int × Int × Int)
  | 0 => l
  | t + 1 => if ¬ (t : Int) = w ∧ hb m (t : Int) = true then rchQ (payQ l w m t) ((t : Int), m, w, (t : Int)) else payQ l w m t
theorem pay_nd {P w m : Int} (hP : 0 ≤ P ∧ P ≤ 10) (hw : 0 ≤ w ∧ w < P) (hm : ms P.toNat m) {t : Nat} (ht : (t : Int) < P) : NdOK P ((t : Int), m, w, (t : Int)) := ⟨⟨by omega, ht⟩, hm, Or.inr ⟨hw, by show (0 : Int) ≤ (t : Int); omega, by show (t : Int) < 20; omega⟩⟩
theorem payQ_ok {P w m : Int} (hP : 0 ≤ P ∧ P ≤ 10) (hw : 0 ≤ w ∧ w < P) (hm : ms P.toNat m) {l : List (Int × Int × Int × Int)} (h : QOK P l) : ∀ t : Nat, (t : Int) ≤ P → QOK P (payQ l w m t)
  | 0, _ => h
  | t + 1, ht => by
    have ih := payQ_ok hP hw hm h t (by omega)
    unfold payQ
    by_cases c : ¬ (t : Int) = w ∧ hb m (t : Int) = true
    · rw [if_pos c]; exact (QOK_rch hP ih (pay_nd hP hw hm (by omega))).1
    · rw [if_neg c]; exact ih
theorem payC_n {M : AwM} {P w m : Int} {l : List (Int × Int × Int × Int)} (hl : LAY M) (hP : 0 ≤ P ∧ P ≤ 10) (hq : QOK P l) (h : CQ M P l) (hw : 0 ≤ w ∧ w < P) (hm : ms P.toNat m) : ∃ M', lp (u2 (fX7_payFrom_L32 SH 128 w m)) FU (0, M) = some M' ∧ CQ M' P (payQ l w m P.toNat) ∧ wfr M' M := by
  refine lp_rel (body := u2 (fX7_payFrom_L32 SH 128 w m)) (P := fun j (t : Int × AwM) => t.1 = (j : Int) ∧ CQ t.2 P (payQ l w m j) ∧ wfr t.2 M) (X := fun r : AwM => CQ r P (payQ l w m P.toNat) ∧ wfr r M) (n := P.toNat) ?_ FU (0, M) (FU_gt (by omega)) ⟨rfl, h, wfr_rf⟩
  rintro j ⟨i, M3⟩ hj ⟨hi, h3, f3⟩
  change i = (j : Int) at hi
  change CQ M3 P _ at h3
  change wfr M3 M at f3
  subst hi
  have l3 := LAY_wf hl f3
  rw [u2_1]
  unfold fX7_payFrom_L32
  rw [kd128, gd_t rfl, h3.1]
  by_cases hjn : j < P.toNat
  · refine Or.inl ⟨hjn, ?_⟩
    rw [if_pos (by omega), w32_s (v := (j : Int) + 1) (by omega) (by omega)]
    by_cases c1 : (j : Int) = w
    · have e : payQ l w m (j + 1) = payQ l w m j := if_neg (fun z => z.1 c1)
      rw [if_pos c1]
      exact ⟨_, rfl, by simp, by rw [e]; exact h3, f3⟩
    · rw [if_neg c1, isIn_n (ms_up hm (show P.toNat ≤ 10 by omega)) (by decide), pb_1, u1_1, bi_if, hz_p (by omega)]
      by_cases c2 : hb m (j : Int) = true
      · have e : payQ l w m (j + 1) = rchQ (payQ l w m j) ((j : Int), m, w, (j : Int)) := if_pos ⟨c1, c2⟩
        have nd := pay_nd hP hw hm (t := j) (by omega)
        obtain ⟨M4, e4, h4, f4⟩ := reach_n l3 hP (payQ_ok hP hw hm hq j (by omega)) h3 nd
        have eh : w32 (w32 (1 + (j : Int)) + w32 (20 * w)) = hmC ((j : Int), m, w, (j : Int)) := by
          rw [w32_s (v := 1 + (j : Int)) (by omega) (by omega), w32_s (v := 20 * w) (by omega) (by omega), w32_s (by omega) (by omega)]
          unfold hmC
          rw [if_neg (show ¬ w = -1 by omega)]
        rw [if_pos c2, eh]
        refine ⟨((j : Int) + 1, M4), ?_, by simp, by rw [e]; exact h4, wfr_tr f3 f4⟩
        rw [show fX7_reach SH M3 128 (j : Int) m (hmC ((j : Int), m, w, (j : Int))) = some M4 from e4, pb_1, u1_1]
      · have e : payQ l w m (j + 1) = payQ l w m j := if_neg (fun z => c2 z.2)
        rw [if_neg c2]
        exact ⟨_, rfl, by simp, by rw [e]; exact h3, f3⟩
  · have ej : P.toNat = j := by omega
    exact Or.inr ⟨M3, by rw [if_neg (by omega)], by rw [ej]; exact h3, f3⟩
theorem payM_n {M : AwM} {b : Int} {s d : AwM} (g : MM M b 0 s d) {c w m z : Int} {l : List (Int × Int × Int × Int)} (hq : QOK (s 0 0) l) (h : MQu M (s 0 0) l) (hw : 0 ≤ w ∧ w < s 0 0) (hm : ms (s 0 0).toNat m) : ∃ M', lp (u2 (fX9_goesOn__L35 SH 167 c (cdM w m) w m z)) FU (0, M) = some M' ∧ MQu M' (s 0 0) (payQ l w m (s 0 0).toNat) ∧ mwf M' M := by
  have hP := g.ok.p
  have hbb := g.b01
  refine lp_rel (body := u2 (fX9_goesOn__L35 SH 167 c (cdM w m) w m z)) (P := fun j (t : Int × AwM) => t.1 = (j : Int) ∧ MQu t.2 (s 0 0) (payQ l w m j) ∧ mwf t.2 M) (X := fun r : AwM => MQu r (s 0 0) (payQ l w m (s 0 0).toNat) ∧ mwf r M) (n := (s 0 0).toNat) ?_ FU (0, M) (FU_gt (by omega)) ⟨rfl, h, mwf_rf⟩
  rintro j ⟨i, M3⟩ hj ⟨hi, h3, f3⟩
  change i = (j : Int) at hi
  change MQu M3 _ _ at h3
  change mwf M3 M at f3
  subst hi
  have g3 := MM_mw g f3
  rw [u2_1]
  unfold fX9_goesOn__L35
  rw [kd167, gd_t rfl, ly167_14 g3.lay, kd169, g3.bk, ga_t (by omega) (by omega), g3.n0]
  by_cases hjn : j < (s 0 0).toNat
  · refine Or.inl ⟨hjn, ?_⟩
    rw [if_pos (by omega), w32_s (v := (j : Int) + 1) (by omega) (by omega)]
    by_cases c1 : (j : Int) = w
    · have e : payQ l w m (j + 1) = payQ l w m j := if_neg (fun z => z.1 c1)
      rw [if_pos c1]
      exact ⟨_, rfl, by simp, by rw [e]; exact h3, f3⟩
    · rw [if_neg c1, has2_n (ms_up hm (show (s 0 0).toNat ≤ 10 by omega)) (by decide) (by omega) (by omega), pb_1, u1_1, bi_if, hz_p (by omega)]
      by_cases c2 : hb m (j : Int) = true
      · have e : payQ l w m (j + 1) = rchQ (payQ l w m j) ((j : Int), m, w, (j : Int)) := if_pos ⟨c1, c2⟩
        have nd := pay_nd hP hw hm (t := j) (by omega)
        obtain ⟨M4, e4, h4, f4⟩ := mreach_n g3.lay hP (payQ_ok hP hw hm hq j (by omega)) h3 nd
        have ef : fmM ((j : Int), m, w, (j : Int)) = cdM w m := by
          unfold fmM
          rw [if_neg (show ¬ w = -1 by omega)]
          show cdM w (if (j : Int) < 10 then m else _) = _
          rw [if_pos (by omega)]
        have ea : acM ((j : Int), m, w, (j : Int)) = (j : Int) := by
          unfold acM
          rw [if_neg (show ¬ w = -1 by omega)]
        rw [ef, ea] at e4
        rw [if_pos c2]
        refine ⟨((j : Int) + 1, M4), ?_, by simp, by rw [e]; exact h4, mwf_tr f3 f4⟩
        rw [show fX9_reaches SH M3 167 (j : Int) m (cdM w m) (j : Int) = some M4 from e4, pb_1, u1_1]
      · have e : payQ l w m (j + 1) = payQ l w m j := if_neg (fun z => c2 z.2)
        rw [if_neg c2]
        exact ⟨_, rfl, by simp, by rw [e]; exact h3, f3⟩
  · have ej : (s 0 0).toNat = j := by omega
    exact Or.inr ⟨M3, by rw [if_neg (by omega)], by rw [ej]; exact h3, f3⟩
end PQU2
