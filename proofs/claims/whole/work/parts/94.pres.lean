/-! the presents of the search, the class -/
section PPRE
theorem pc10_all : (List.range 1024).all (fun m => decide (pcN m ≤ 10)) = true := by decide +kernel
theorem pc10 {m : Int} (h : ms 10 m) : pc m ≤ 10 := by
  obtain ⟨a, rfl, ha⟩ := ms_n.mp h
  have := of_decide_eq_true (List.all_eq_true.mp pc10_all a (List.mem_range.mpr (by omega)))
  unfold pc
  rw [Int.toNat_natCast]
  omega
theorem pc_1 {m w : Int} (h : ms 12 m) (w0 : 0 ≤ w) (w1 : w < 12) (hw : hb m w = true) : 1 ≤ pc m := by
  have a := (cut1 h w0 w1 hw).1
  have b := (pc_b (clb m w)).1
  omega
/-- how many someone would hold with the coin -/
def cnH (s d : AwM) (c w : Int) : Int := pc (clb (hld s d w) c) + 1
theorem hld_hb {s d : AwM} {c w : Int} (c0 : 0 ≤ c) (c1 : c < s 0 1) : hb (hld s d w) c = decide (d 1 c = w) := by
  unfold hld
  rw [accB_hb _ c0, decide_eq_true (show c < ((s 0 1).toNat : Int) by omega), Bool.true_and]
theorem cnH_n {s d : AwM} (ho : SoOK s) {c w : Int} (c0 : 0 ≤ c) (c1 : c < s 0 1) : cnH s d c w = pc (hld s d w) + (if w = d 1 c then 0 else 1) ∧ 0 ≤ cnH s d c w ∧ cnH s d c w ≤ 12 := by
  have hc := ho.c
  have hm := hld_ms (d := d) ho (w := w)
  have e := hld_hb (d := d) (w := w) c0 c1
  have hm' : ms 12 (clb (hld s d w) c) := ms_clb hm
  have b0 := pc_b (clb (hld s d w) c)
  have hf : hb (clb (hld s d w) c) c = false := by rw [hb_clb c0 c0, decide_eq_true rfl]; simp
  have up := (put1 hm' c0 (by omega) hf).1
  have b1 := pc_b (stb (clb (hld s d w) c) c)
  unfold cnH
  refine ⟨?_, by omega, by omega⟩
  by_cases z : w = d 1 c
  · rw [if_pos z, (cut1 hm c0 (by omega) (by rw [e]; exact decide_eq_true z.symm)).1]
    omega
  · rw [if_neg z]
    have : clb (hld s d w) c = hld s d w := ms_ext hm' hm (fun q q0 _ => by
      rw [hb_clb c0 q0]
      by_cases y : c = q
      · rw [← y, e, decide_eq_false (fun x => z x.symm)]; rfl
      · rw [decide_eq_false y]; simp)
    rw [this]
/-- what the search writes, with the test's scratch -/
def wf2 (so : Int) (M' M : AwM) : Prop := ∀ a i : Int, ¬ (129 ≤ a ∧ a ≤ 133) → ¬ (a = 128 ∧ (i = 2 ∨ i = 5 ∨ i = 7)) → a ≠ 159 → a ≠ so + 12 → a ≠ so + 15 → M' a i = M a i
theorem wf2_rf {so : Int} {M : AwM} : wf2 so M M := fun _ _ _ _ _ _ _ => rfl
theorem wf2_tr {so : Int} {M M1 M2 : AwM} (h : wf2 so M1 M) (h' : wf2 so M2 M1) : wf2 so M2 M := fun a i p q r t u => (h' a i p q r t u).trans (h a i p q r t u)
theorem wfr_2 {so : Int} {M M' : AwM} (h : wfr M' M) : wf2 so M' M := fun a i p q _ _ _ => h a i (by omega) (by omega)
theorem csc_2 {so : Int} {M M' : AwM} (h : csc 153 so M' M) : wf2 so M' M := fun a i _ _ r t u => h a i r t u
theorem lay_wg : layT.all (fun q => decide (q.1 ≠ 159 ∧ q.1 ≠ 22 ∧ q.1 ≠ 149 ∧ q.1 ≠ 25 ∧ q.1 ≠ 152)) = true := by decide +kernel
theorem LAY_w2 {so : Int} (hso : so = 10 ∨ so = 137) {M M' : AwM} (h : LAY M) (f : wf2 so M' M) : LAY M' := LAY_fq h (fun q hq => by
  have t := of_decide_eq_true (List.all_eq_true.mp lay_wf q hq)
  have u := of_decide_eq_true (List.all_eq_true.mp lay_wg q hq)
  exact f _ _ t.1 t.2.1 u.1 (by omega) (by omega))
theorem CC_w2 {so : Int} {M M' s d : AwM} (h : CC M 153 so s d) (f : wf2 so M' M) : CC M' 153 so s d := by
  have hso := h.hso
  exact CC_fr h (LAY_w2 hso h.lay f) (f _ _ (by omega) (by omega) (by omega) (by omega) (by omega)) (fun a i _ _ _ => f a i (by omega) (by omega) (by omega) (by omega) (by omega)) (fun a i _ _ => f a i (by omega) (by omega) (by omega) (by omega) (by omega))
theorem CQ_fr {M M' : AwM} {P : Int} {l : List (Int × Int × Int × Int)} (h : CQ M P l) (hf : ∀ a i : Int, 128 ≤ a → a ≤ 130 → M' a i = M a i) : CQ M' P l := by
  obtain ⟨h5, h2, hk, hi, hz'⟩ := h
  exact ⟨(hf _ _ (by omega) (by omega)).trans h5, (hf _ _ (by omega) (by omega)).trans h2, fun k x hx => (hf _ _ (by omega) (by omega)).trans (hk k x hx), fun x hx => (hf _ _ (by omega) (by omega)).trans (hi x hx), fun w m a b c e => (hf _ _ (by omega) (by omega)).trans (hz' w m a b c e)⟩
/-- the tests that are kept -/
def MEM (M s d : AwM) (c : Int) : Prop := (∀ w : Int, 0 ≤ w → w < s 0 0 → M 132 w = cnH s d c w) ∧ ∀ w k b : Int, 0 ≤ w → w < s 0 0 → 0 ≤ k → k < s 0 0 → 1 ≤ b → b ≤ 10 → M 131 (100 * w + 10 * k + b - 1) = 0 ∨ M 131 (100 * w + 10 * k + b - 1) = if tst s d c w k b (cnH s d c w) = true then 1 else 2
theorem MEM_fr {M M' s d : AwM} {c : Int} (h : MEM M s d c) (hf : ∀ a i : Int, 131 ≤ a → a ≤ 132 → M' a i = M a i) : MEM M' s d c :=
  ⟨fun w a b => (hf _ _ (by omega) (by omega)).trans (h.1 w a b), fun w k b x1 x2 x3 x4 x5 x6 => by rw [hf _ _ (by omega) (by omega)]; exact h.2 w k b x1 x2 x3 x4 x5 x6⟩
theorem memo_n {M : AwM} {so : Int} {s d : AwM} (h : CC M 153 so s d) {c w k b : Int} (c0 : 0 ≤ c) (c1 : c < s 0 1) (w0 : 0 ≤ w) (w1 : w < s 0 0) (k0 : 0 ≤ k) (k1 : k < s 0 0) (b0 : 1 ≤ b) (b1 : b ≤ 10) (hm : MEM M s d c) : ∃ M', fX7_testHolds SH M 128 153 c w k b = some (bi (tst s d c w k b (cnH s d c w)), M') ∧ MEM M' s d c ∧ wf2 so M' M ∧ ∀ a i : Int, 128 ≤ a → a ≤ 130 → M' a i = M a i := by
  have hp := h.ok.p
  have hso := h.hso
  have l := h.lay
  have cn := (cnH_n (d := d) h.ok (w := w) c0 c1).2
  have ei : w32 (w32 (w32 (w32 (w32 (w * 10) + k) * 10) + b) - 1) = 100 * w + 10 * k + b - 1 := by
    rw [w32_s (v := w * 10) (by omega) (by omega), w32_s (v := w * 10 + k) (by omega) (by omega), w32_s (v := (w * 10 + k) * 10) (by omega) (by omega), w32_s (v := (w * 10 + k) * 10 + b) (by omega) (by omega), w32_s (by omega) (by omega)]
    omega
  unfold fX7_testHolds
  rw [bd_1, ei, if_neg (by omega), kd128, gd_t rfl, ly128_3 l, kd131, gd_t (by decide), if_pos (by omega), ga_t (by omega) (by omega)]
  by_cases z : M 131 (100 * w + 10 * k + b - 1) = 0
  · obtain ⟨M4, e4, f4⟩ := testWould_n h (k := b) (n := cnH s d c w) c0 c1 w0 w1 k0 k1 (by omega) cn
    rw [if_pos z, ly128_4 l, kd132, ga_t w0 (by omega), kd153, gd_t rfl, hm.1 w w0 w1, e4, pb_1, u2_1, bi_if]
    have fm : ∀ (a i : Int), 128 ≤ a → a ≤ 132 → M4 a i = M a i := fun a i x y => f4 a i (by omega) (by omega) (by omega)
    have done : ∀ v : Int, v = (if tst s d c w k b (cnH s d c w) = true then 1 else 2) → MEM (up_ M4 131 (100 * w + 10 * k + b - 1) v) s d c ∧ wf2 so (up_ M4 131 (100 * w + 10 * k + b - 1) v) M ∧ ∀ a i : Int, 128 ≤ a → a ≤ 130 → up_ M4 131 (100 * w + 10 * k + b - 1) v a i = M a i := fun v hv => by
      refine ⟨⟨fun w' x y => ?_, fun w' k' b' x1 x2 x3 x4 x5 x6 => ?_⟩, fun a i p q r t u => ?_, fun a i x y => ?_⟩
      · rw [up_of (show (132 : Int) ≠ 131 by decide), fm _ _ (by omega) (by omega)]; exact hm.1 w' x y
      · by_cases e : 100 * w' + 10 * k' + b' - 1 = 100 * w + 10 * k + b - 1
        · have e1 : w' = w ∧ k' = k ∧ b' = b := by omega
          obtain ⟨rfl, rfl, rfl⟩ := e1
          rw [up_at, hv]
          exact Or.inr rfl
        · rw [up_oi e, fm _ _ (by omega) (by omega)]
          exact hm.2 w' k' b' x1 x2 x3 x4 x5 x6
      · rw [up_of (by omega)]; exact f4 a i (by omega) t u
      · rw [up_of (by omega)]; exact fm a i (by omega) (by omega)
    by_cases t : tst s d c w k b (cnH s d c w) = true
    · have dn := done 1 (by rw [if_pos t])
      rw [if_pos t]
      rw [bd_1, up_of (show (128 : Int) ≠ 131 by decide), fm 128 3 (by omega) (by omega), ly128_3 l, kd131, ga_t (by omega) (by omega), up_at, if_pos rfl, t]
      exact ⟨_, rfl, dn⟩
    · have dn := done 2 (by rw [if_neg t])
      have tf : tst s d c w k b (cnH s d c w) = false := by cases q : tst s d c w k b (cnH s d c w); rfl; exact absurd q t
      rw [if_neg t]
      rw [bd_1, up_of (show (128 : Int) ≠ 131 by decide), fm 128 3 (by omega) (by omega), ly128_3 l, kd131, ga_t (by omega) (by omega), up_at, if_neg (by decide), tf]
      exact ⟨_, rfl, dn⟩
  · rw [if_neg z]
    rcases hm.2 w k b w0 w1 k0 k1 b0 b1 with e | e
    · exact absurd e z
    · rw [e]
      refine ⟨M, ?_, hm, wf2_rf, fun _ _ _ _ => rfl⟩
      cases tst s d c w k b (cnH s d c w)
      · rfl
      · rfl
/-- the presents from a state, upward -/
def preQ (l : List (Int × Int × Int × Int)) (s d : AwM) (c w m : Int) : Nat → List (Int × Int × Int × Int)
  | 0 => l
  | k + 1 => if (hb m (k : Int) || hb (d 3 c) (k : Int)) = false ∧ tst s d c w (k : Int) (pc m) (cnH s d c w) = true then rchQ (preQ l s d c w m k) (w, stb m (k : Int), w, 10 + (k : Int)) else preQ l s d c w m k
theorem pre_nd {P w m : Int} (hP : 0 ≤ P ∧ P ≤ 10) (hw : 0 ≤ w ∧ w < P) (hm : ms P.toNat m) {k : Nat} (hk : (k : Int) < P) : NdOK P (w, stb m (k : Int), w, 10 + (k : Int)) := ⟨hw, ms_stb hm (by omega) (by omega), Or.inr ⟨hw, by show (0 : Int) ≤ 10 + (k : Int); omega, by show 10 + (k : Int) < 20; omega⟩⟩
theorem preQ_ok {P w m c : Int} {s d : AwM} (hP : 0 ≤ P ∧ P ≤ 10) (hw : 0 ≤ w ∧ w < P) (hm : ms P.toNat m) {l : List (Int × Int × Int × Int)} (h : QOK P l) : ∀ t : Nat, (t : Int) ≤ P → QOK P (preQ l s d c w m t)
  | 0, _ => h
  | t + 1, ht => by
    have ih := preQ_ok (c := c) (s := s) (d := d) hP hw hm h t (by omega)
    unfold preQ
    by_cases z : (hb m (t : Int) || hb (d 3 c) (t : Int)) = false ∧ tst s d c w (t : Int) (pc m) (cnH s d c w) = true
    · rw [if_pos z]; exact (QOK_rch hP ih (pre_nd hP hw hm (by omega))).1
    · rw [if_neg z]; exact ih
theorem preC_n {M : AwM} {so : Int} {s d : AwM} (g : CC M 153 so s d) {c w m : Int} {l : List (Int × Int × Int × Int)} (c0 : 0 ≤ c) (c1 : c < s 0 1) (hq : QOK (s 0 0) l) (h : CQ M (s 0 0) l) (hM : MEM M s d c) (hw : 0 ≤ w ∧ w < s 0 0) (hm : ms (s 0 0).toNat m) (hwm : hb m w = true) : ∃ M', lp (u2 (fX7_presentFrom_L37 SH 128 153 c w m (or_ m (d 3 c)))) FU (0, M) = some M' ∧ CQ M' (s 0 0) (preQ l s d c w m (s 0 0).toNat) ∧ MEM M' s d c ∧ wf2 so M' M := by
  have hP := g.ok.p
  have hso := g.hso
  have m10 := ms_up hm (show (s 0 0).toNat ≤ 10 by omega)
  have m12 := ms_up hm (show (s 0 0).toNat ≤ 12 by omega)
  have ml := ms_lt m10 (by decide)
  have p1 := pc_1 m12 hw.1 (by omega) hwm
  have p10 := pc10 m10
  have sn10 : ms 10 (d 3 c) := ms_up (g.ld.sn c c0 c1) (by omega)
  refine lp_rel (body := u2 (fX7_presentFrom_L37 SH 128 153 c w m (or_ m (d 3 c)))) (P := fun j (t : Int × AwM) => t.1 = (j : Int) ∧ CQ t.2 (s 0 0) (preQ l s d c w m j) ∧ MEM t.2 s d c ∧ wf2 so t.2 M) (X := fun r : AwM => CQ r (s 0 0) (preQ l s d c w m (s 0 0).toNat) ∧ MEM r s d c ∧ wf2 so r M) (n := (s 0 0).toNat) ?_ FU (0, M) (FU_gt (by omega)) ⟨rfl, h, hM, wf2_rf⟩
  rintro j ⟨i, M3⟩ hj ⟨hi, h3, hM3, f3⟩
  change i = (j : Int) at hi
  change CQ M3 _ _ at h3
  change MEM M3 s d c at hM3
  change wf2 so M3 M at f3
  subst hi
  have g3 := CC_w2 g f3
  have oh := or_hb (k := (j : Int)) m10 sn10 (by decide)
  rw [u2_1]
  unfold fX7_presentFrom_L37
  rw [kd128, gd_t rfl, h3.1]
  by_cases hjn : j < (s 0 0).toNat
  · refine Or.inl ⟨hjn, ?_⟩
    rw [if_pos (by omega), w32_s (v := (j : Int) + 1) (by omega) (by omega), isIn_n oh.1 (by decide), pb_1, u1_1, bi_if, hz_p (by omega), oh.2]
    by_cases c1' : (hb m (j : Int) || hb (d 3 c) (j : Int)) = true
    · have e : preQ l s d c w m (j + 1) = preQ l s d c w m j := if_neg (fun z => by rw [c1'] at z; exact absurd z.1 (by decide))
      rw [if_pos c1']
      exact ⟨_, rfl, by simp, by rw [e]; exact h3, hM3, f3⟩
    · have cf : (hb m (j : Int) || hb (d 3 c) (j : Int)) = false := by cases q : (hb m (j : Int) || hb (d 3 c) (j : Int)); rfl; exact absurd q c1'
      obtain ⟨M4, e4, hM4, f4, q4⟩ := memo_n g3 (k := (j : Int)) c0 c1 hw.1 hw.2 (by omega) (by omega) p1 p10 hM3
      have h4 := CQ_fr h3 q4
      have g4 := CC_w2 g3 f4
      rw [if_neg c1', bc_n m12, pb_1, u1_1, e4, pb_1, u2_1, bi_if]
      by_cases c2 : tst s d c w (j : Int) (pc m) (cnH s d c w) = true
      · have e : preQ l s d c w m (j + 1) = rchQ (preQ l s d c w m j) (w, stb m (j : Int), w, 10 + (j : Int)) := if_pos ⟨cf, c2⟩
        have nd := pre_nd hP hw hm (k := j) (by omega)
        obtain ⟨M5, e5, h5, f5⟩ := reach_n g4.lay hP (preQ_ok (c := c) (s := s) (d := d) hP hw hm hq j (by omega)) h4 nd
        have eh : w32 (w32 (11 + (j : Int)) + w32 (20 * w)) = hmC (w, stb m (j : Int), w, 10 + (j : Int)) := by
          rw [w32_s (v := 11 + (j : Int)) (by omega) (by omega), w32_s (v := 20 * w) (by omega) (by omega), w32_s (by omega) (by omega)]
          unfold hmC
          rw [if_neg (show ¬ w = -1 by omega)]
          show _ = 1 + (10 + (j : Int)) + 20 * w
          omega
        rw [if_pos c2, stb_n ml.1 ml.2 (by omega) (by omega), eh]
        refine ⟨((j : Int) + 1, M5), ?_, by simp, by rw [e]; exact h5, MEM_fr hM4 (fun a i x y => f5 a i (by omega) (by omega)), wf2_tr (wf2_tr f3 f4) (wfr_2 f5)⟩
        rw [show fX7_reach SH M4 128 w (stb m (j : Int)) (hmC (w, stb m (j : Int), w, 10 + (j : Int))) = some M5 from e5, pb_1, u1_1]
      · have e : preQ l s d c w m (j + 1) = preQ l s d c w m j := if_neg (fun z => c2 z.2)
        rw [if_neg c2]
        exact ⟨_, rfl, by simp, by rw [e]; exact h4, hM4, wf2_tr f3 f4⟩
  · have ej : (s 0 0).toNat = j := by omega
    exact Or.inr ⟨M3, by rw [if_neg (by omega)], by rw [ej]; exact h3, hM3, f3⟩
end PPRE
