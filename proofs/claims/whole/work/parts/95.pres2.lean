/-! the presents of the search, the model; a state gone on from, both -/
section PPR2
theorem clb_stb {m k : Int} {n : Nat} (h : ms n m) (k0 : 0 ≤ k) (k1 : k < n) (hf : hb m k = false) : clb (stb m k) k = m :=
  ms_ext (ms_clb (ms_stb h k0 k1)) h (fun q q0 q1 => by
    rw [hb_clb k0 q0, hb_stb k0 q0]
    by_cases e : k = q
    · rw [← e, hf, decide_eq_true rfl]; rfl
    · rw [decide_eq_false e]; simp)
def mw2 (M' M : AwM) : Prop := ∀ a i : Int, ¬ (203 ≤ a ∧ a ≤ 205) → ¬ (a = 167 ∧ i = 66) → a ≠ 202 → ¬ (a = 167 ∧ 57 ≤ i ∧ i ≤ 62) → M' a i = M a i
theorem mw2_rf {M : AwM} : mw2 M M := fun _ _ _ _ _ _ => rfl
theorem mw2_tr {M M1 M2 : AwM} (h : mw2 M1 M) (h' : mw2 M2 M1) : mw2 M2 M := fun a i p q r t => (h' a i p q r t).trans (h a i p q r t)
theorem mwf_2 {M M' : AwM} (h : mwf M' M) : mw2 M' M := fun a i p q _ _ => h a i p q
theorem msc_2 {M M' : AwM} (h : msc M' M) : mw2 M' M := fun a i _ _ r t => h a i r t
theorem LAY_m2 {M M' : AwM} (h : LAY M) (f : mw2 M' M) : LAY M' := LAY_fq h (fun q hq => by
  have t := of_decide_eq_true (List.all_eq_true.mp lay_wf q hq)
  have u := of_decide_eq_true (List.all_eq_true.mp lay_sc q hq)
  exact f _ _ t.2.2.1 t.2.2.2 u.1 u.2)
theorem MM_m2 {M M' : AwM} {b L : Int} {s d : AwM} (h : MM M b L s d) (f : mw2 M' M) : MM M' b L s d :=
  MM_fr h (LAY_m2 h.lay f) (f _ _ (by omega) (by omega) (by omega) (by omega)) (fun a i _ _ => f a i (by omega) (by omega) (by omega) (by omega)) (fun a i _ _ => f a i (by omega) (by omega) (by omega) (by omega))
theorem MQu_fr {M M' : AwM} {P : Int} {l : List (Int × Int × Int × Int)} (h : MQu M P l) (h6 : M' 167 66 = M 167 66) (hf : ∀ a i : Int, 203 ≤ a → a ≤ 205 → M' a i = M a i) : MQu M' P l := by
  obtain ⟨h2, hk, hi, hz'⟩ := h
  exact ⟨h6.trans h2, fun k x hx => (hf _ _ (by omega) (by omega)).trans (hk k x hx), fun x hx => ⟨(hf _ _ (by omega) (by omega)).trans (hi x hx).1, (hf _ _ (by omega) (by omega)).trans (hi x hx).2⟩, fun w m a b c e => (hf _ _ (by omega) (by omega)).trans (hz' w m a b c e)⟩
theorem preM_n {M : AwM} {b : Int} {s d : AwM} (g : MM M b 0 s d) {c w m : Int} {l : List (Int × Int × Int × Int)} (c0 : 0 ≤ c) (c1 : c < s 0 1) (hq : QOK (s 0 0) l) (h : MQu M (s 0 0) l) (hw : 0 ≤ w ∧ w < s 0 0) (hm : ms (s 0 0).toNat m) (hwm : hb m w = true) : ∃ M', lp (u2 (fX9_goesOn__L85 SH 167 c (cdM w m) w m (cnH s d c w))) FU (0, M) = some M' ∧ MQu M' (s 0 0) (preQ l s d c w m (s 0 0).toNat) ∧ mw2 M' M := by
  have hP := g.ok.p
  have hc := g.ok.c
  have hbb := g.b01
  have m10 := ms_up hm (show (s 0 0).toNat ≤ 10 by omega)
  have m12 := ms_up hm (show (s 0 0).toNat ≤ 12 by omega)
  have ml := ms_lt m10 (by decide)
  have p1 := pc_1 m12 hw.1 (by omega) hwm
  have p10 := pc10 m10
  have cn := (cnH_n (d := d) g.ok (w := w) c0 c1).2
  have sn10 : ms 10 (d 3 c) := ms_up (g.ld.sn c c0 c1) (by omega)
  refine lp_rel (body := u2 (fX9_goesOn__L85 SH 167 c (cdM w m) w m (cnH s d c w))) (P := fun j (t : Int × AwM) => t.1 = (j : Int) ∧ MQu t.2 (s 0 0) (preQ l s d c w m j) ∧ mw2 t.2 M) (X := fun r : AwM => MQu r (s 0 0) (preQ l s d c w m (s 0 0).toNat) ∧ mw2 r M) (n := (s 0 0).toNat) ?_ FU (0, M) (FU_gt (by omega)) ⟨rfl, h, mw2_rf⟩
  rintro j ⟨i, M3⟩ hj ⟨hi, h3, f3⟩
  change i = (j : Int) at hi
  change MQu M3 _ _ at h3
  change mw2 M3 M at f3
  subst hi
  have g3 := MM_m2 g f3
  have l3 := g3.lay
  have oh := or_hb (k := (j : Int)) m10 sn10 (by decide)
  have es : M3 200 c = d 3 c := by have := g3.sn c0 c1; rwa [show 12 * (0 : Int) + c = c by omega] at this
  rw [u2_1]
  unfold fX9_goesOn__L85
  rw [kd167, gd_t rfl, ly167_14 l3, kd169, g3.bk, ga_t (by omega) (by omega), g3.n0]
  by_cases hjn : j < (s 0 0).toNat
  · refine Or.inl ⟨hjn, ?_⟩
    rw [if_pos (by omega), w32_s (v := (j : Int) + 1) (by omega) (by omega), ly167_51 l3, kd200, ga_t c0 (by omega), es, has2_n oh.1 (by decide) (by omega) (by omega), pb_1, u1_1, bi_if, hz_p (by omega), oh.2]
    by_cases c1' : (hb m (j : Int) || hb (d 3 c) (j : Int)) = true
    · have e : preQ l s d c w m (j + 1) = preQ l s d c w m j := if_neg (fun z => by rw [c1'] at z; exact absurd z.1 (by decide))
      rw [if_pos c1']
      exact ⟨_, rfl, by simp, by rw [e]; exact h3, f3⟩
    · have cf : (hb m (j : Int) || hb (d 3 c) (j : Int)) = false := by cases q : (hb m (j : Int) || hb (d 3 c) (j : Int)); rfl; exact absurd q c1'
      obtain ⟨M4, e4, f4⟩ := mholds_n g3 (k := pc m) (n := cnH s d c w) c0 c1 hw.1 hw.2 (show 0 ≤ (j : Int) by omega) (show (j : Int) < s 0 0 by omega) (by omega) cn
      have h4 := MQu_fr h3 (f4 _ _ (by decide) (by omega)) (fun a i x y => f4 a i (by omega) (by omega))
      have g4 := MM_m2 g3 (msc_2 f4)
      rw [if_neg c1', bits_n m12, pb_1, u1_1, ly167_48 l3, kd197, ga_t (by decide) (by decide), g3.day, e4, pb_1, u2_1, bi_if]
      by_cases c2 : tst s d c w (j : Int) (pc m) (cnH s d c w) = true
      · have e : preQ l s d c w m (j + 1) = rchQ (preQ l s d c w m j) (w, stb m (j : Int), w, 10 + (j : Int)) := if_pos ⟨cf, c2⟩
        have nd := pre_nd hP hw hm (k := j) (by omega)
        obtain ⟨M5, e5, h5, f5⟩ := mreach_n g4.lay hP (preQ_ok (c := c) (s := s) (d := d) hP hw hm hq j (by omega)) h4 nd
        have ef : fmM (w, stb m (j : Int), w, 10 + (j : Int)) = cdM w m := by
          unfold fmM
          rw [if_neg (show ¬ w = -1 by omega)]
          show cdM w (if 10 + (j : Int) < 10 then _ else clb (stb m (j : Int)) (10 + (j : Int) - 10)) = _
          rw [if_neg (by omega), show 10 + (j : Int) - 10 = (j : Int) by omega, clb_stb hm (by omega) (by omega) (Bool.or_eq_false_iff.mp cf).1]
        have ea : acM (w, stb m (j : Int), w, 10 + (j : Int)) = 10 + (j : Int) := by
          unfold acM
          rw [if_neg (show ¬ w = -1 by omega)]
        rw [ef, ea] at e5
        rw [if_pos c2, stb_n ml.1 ml.2 (by omega) (by omega), w32_s (v := 10 + (j : Int)) (by omega) (by omega)]
        refine ⟨((j : Int) + 1, M5), ?_, by simp, by rw [e]; exact h5, mw2_tr (mw2_tr f3 (msc_2 f4)) (mwf_2 f5)⟩
        rw [show fX9_reaches SH M4 167 w (stb m (j : Int)) (cdM w m) (10 + (j : Int)) = some M5 from e5, pb_1, u1_1]
      · have e : preQ l s d c w m (j + 1) = preQ l s d c w m j := if_neg (fun z => c2 z.2)
        rw [if_neg c2]
        exact ⟨_, rfl, by simp, by rw [e]; exact h4, mw2_tr f3 (msc_2 f4)⟩
  · have ej : (s 0 0).toNat = j := by omega
    exact Or.inr ⟨M3, by rw [if_neg (by omega)], by rw [ej]; exact h3, f3⟩
/-- gone on from a state -/
def goQ (l : List (Int × Int × Int × Int)) (s d : AwM) (c w m : Int) : List (Int × Int × Int × Int) := preQ (payQ l w m (s 0 0).toNat) s d c w m (s 0 0).toNat
theorem cdM_d {w m : Int} (w0 : 0 ≤ w) (m0 : 0 ≤ m) (m1 : m < 1024) : (cdM w m).tdiv 1024 = w ∧ (cdM w m).tmod 1024 = m := by
  have h0 : 0 ≤ cdM w m := by unfold cdM; omega
  rw [Int.tdiv_eq_ediv_of_nonneg h0, Int.tmod_eq_emod_of_nonneg h0]
  unfold cdM
  omega
theorem goM_n {M : AwM} {b : Int} {s d : AwM} (g : MM M b 0 s d) {c w m : Int} {l : List (Int × Int × Int × Int)} (c0 : 0 ≤ c) (c1 : c < s 0 1) (hq : QOK (s 0 0) l) (h : MQu M (s 0 0) l) (hw : 0 ≤ w ∧ w < s 0 0) (hm : ms (s 0 0).toNat m) (hwm : hb m w = true) : ∃ M', fX9_goesOn_ SH M 167 c (cdM w m) = some M' ∧ MQu M' (s 0 0) (goQ l s d c w m) ∧ mw2 M' M := by
  have hP := g.ok.p
  have hc := g.ok.c
  have m10 := ms_up hm (show (s 0 0).toNat ≤ 10 by omega)
  have ml := (nd_b hP (x := (w, m, -1, 0)) ⟨hw, hm, Or.inl rfl⟩).2.2
  have cn := (cnH_n (d := d) g.ok (w := w) c0 c1).2
  have hm12 := hld_ms (d := d) g.ok (w := w)
  have hlt := ms_lt hm12 (by decide)
  have cb := pc_b (clb (hld s d w) c)
  obtain ⟨t1, t2⟩ := cdM_d hw.1 ml.1 ml.2
  obtain ⟨M1, e1, h1, f1⟩ := payM_n g (c := c) (z := cnH s d c w) hq h hw hm
  have g1 := MM_mw g f1
  obtain ⟨M2, e2, h2, f2⟩ := preM_n g1 c0 c1 (payQ_ok hP hw hm hq (s 0 0).toNat (by omega)) h1 hw hm hwm
  refine ⟨M2, ?_, h2, mw2_tr (mwf_2 f1) f2⟩
  unfold fX9_goesOn_
  rw [kd167, gd_t rfl, t1, t2, w32_s (v := w) (by omega) (by omega), mhld_n g, pb_1, u1_1, clb_n hlt.1 hlt.2 c0 (by omega), bits_n (ms_clb hm12), pb_1, u1_1, show w32 (pc (clb (hld s d w) c) + 1) = cnH s d c w from w32_s (by omega) (by omega), e1, pb_1, u1_1, e2, pb_1, u1_1]
end PPR2
