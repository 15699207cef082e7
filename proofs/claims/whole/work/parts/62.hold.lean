/-! whether the TEST holds, both sides -/
section PHOLD
def obL : List Int := [1, 3, 4, 10, 20, 23, 26, 27, 28, 33, 38, 43, 48, 53, 58, 63, 68, 73, 78, 83, 88, 93, 98, 103, 108, 113, 118, 123, 128, 137, 147, 150, 153, 154, 160, 161, 167]
theorem lay_ob : layT.all (fun q => obL.contains q.1) = true := by decide +kernel
theorem LAY_fr {M M' : AwM} (h : LAY M) (hf : ∀ a i, a ∈ obL → M' a i = M a i) : LAY M' := by
  intro q hq
  rw [hf q.1 q.2.1 (by simpa using List.all_eq_true.mp lay_ob q hq)]
  exact h q hq
theorem LAY_fq {M M' : AwM} (h : LAY M) (hf : ∀ q ∈ layT, M' q.1 q.2.1 = M q.1 q.2.1) : LAY M' := by
  intro q hq
  rw [hf q hq]
  exact h q hq
theorem ob_ne {a x : Int} (ha : a ∈ obL) (hx : x ∉ obL) : a ≠ x := fun e => hx (e ▸ ha)
theorem nob_c6 {cr : Int} (h : cr = 153 ∨ cr = 160) : cr + 6 ∉ obL := by rcases h with rfl | rfl <;> decide
theorem nob_s12 {so : Int} (h : so = 10 ∨ so = 137) : so + 12 ∉ obL := by rcases h with rfl | rfl <;> decide
theorem nob_s15 {so : Int} (h : so = 10 ∨ so = 137) : so + 15 ∉ obL := by rcases h with rfl | rfl <;> decide
theorem CC_fr {M M' : AwM} {cr so : Int} {s d : AwM} (h : CC M cr so s d) (hl : LAY M') (h1 : M' cr 1 = M cr 1) (hs : ∀ a i, so ≤ a → a ≤ so + 14 → a ≠ so + 12 → M' a i = M a i) (hc : ∀ a i, cr + 1 ≤ a → a ≤ cr + 5 → M' a i = M a i) : CC M' cr so s d := by
  obtain ⟨a1, a2, a3, a4, a5, a6, ⟨⟨s1, s2, s3, s4, s5⟩, s6, s7, s8, s9, s10, ⟨s11, s12⟩, s13, s14⟩, c1, c2, c3, c4, c5⟩ := h
  refine ⟨hl, a2, a3, h1.trans a4, a5, a6, ⟨⟨?_, ?_, ?_, ?_, ?_⟩, ?_, ?_, ?_, ?_, ?_, ⟨?_, ?_⟩, ?_, ?_⟩, ?_, ?_, ?_, ?_, ?_⟩
  · rw [hs _ _ (by omega) (by omega) (by omega)]; exact s1
  · rw [hs _ _ (by omega) (by omega) (by omega)]; exact s2
  · rw [hs _ _ (by omega) (by omega) (by omega)]; exact s3
  · rw [hs _ _ (by omega) (by omega) (by omega)]; exact s4
  · rw [hs _ _ (by omega) (by omega) (by omega)]; exact s5
  · intro p p0 p1; rw [hs _ _ (by omega) (by omega) (by omega)]; exact s6 p p0 p1
  · intro p p0 p1; rw [hs _ _ (by omega) (by omega) (by omega)]; exact s7 p p0 p1
  · intro p p0 p1; rw [hs _ _ (by omega) (by omega) (by omega)]; exact s8 p p0 p1
  · intro p p0 p1; rw [hs _ _ (by omega) (by omega) (by omega)]; exact s9 p p0 p1
  · intro k w k0 k1 w0 w1; rw [hs _ _ (by omega) (by omega) (by omega)]; exact s10 k w k0 k1 w0 w1
  · rw [hs _ _ (by omega) (by omega) (by omega)]; exact s11
  · intro p p0 p1; rw [hs _ _ (by omega) (by omega) (by omega)]; exact s12 p p0 p1
  · rw [hs _ _ (by omega) (by omega) (by omega)]; exact s13
  · intro p p0 p1; rw [hs _ _ (by omega) (by omega) (by omega)]; exact s14 p p0 p1
  · rw [hc _ _ (by omega) (by omega)]; exact c1
  · intro p p0 p1; rw [hc _ _ (by omega) (by omega)]; exact c2 p p0 p1
  · intro p p0 p1; rw [hc _ _ (by omega) (by omega)]; exact c3 p p0 p1
  · intro p p0 p1; rw [hc _ _ (by omega) (by omega)]; exact c4 p p0 p1
  · intro c p p0 p1 p2 p3 p4; rw [hc _ _ (by omega) (by omega)]; exact c5 c p p0 p1 p2 p3 p4
theorem CC_sc {M M' : AwM} {cr so : Int} {s d : AwM} (h : CC M cr so s d) (hf : ∀ a i, a ≠ cr + 6 → a ≠ so + 12 → a ≠ so + 15 → M' a i = M a i) : CC M' cr so s d := by
  have hcr := h.hcr
  have hso := h.hso
  exact CC_fr h (LAY_fr h.lay (fun a i ha => hf a i (ob_ne ha (nob_c6 hcr)) (ob_ne ha (nob_s12 hso)) (ob_ne ha (nob_s15 hso)))) (hf _ _ (by omega) (by omega) (by omega)) (fun a i _ _ _ => hf a i (by omega) (by omega) (by omega)) (fun a i _ _ => hf a i (by omega) (by omega) (by omega))
theorem MM_fr {M M' : AwM} {b L : Int} {s d : AwM} (h : MM M b L s d) (hl : LAY M') (h13 : M' 167 13 = M 167 13) (hp : ∀ a i, 169 ≤ a → a ≤ 189 → M' a i = M a i) (hq : ∀ a i, 197 ≤ a → a ≤ 201 → M' a i = M a i) : MM M' b L s d := by
  obtain ⟨a1, a2, a3, a4, a5, a6, ⟨⟨s1, s2, s3, s4, s5⟩, s6, s7, s8, s9, s10, s11, s12⟩, c1, c2, c3, c4, c5⟩ := h
  refine ⟨hl, h13.trans a2, a3, a4, a5, a6, ⟨⟨?_, ?_, ?_, ?_, ?_⟩, ?_, ?_, ?_, ?_, ?_, ?_, ?_⟩, ?_, ?_, ?_, ?_, ?_⟩
  · rw [hp _ _ (by omega) (by omega)]; exact s1
  · rw [hp _ _ (by omega) (by omega)]; exact s2
  · rw [hp _ _ (by omega) (by omega)]; exact s3
  · rw [hp _ _ (by omega) (by omega)]; exact s4
  · rw [hp _ _ (by omega) (by omega)]; exact s5
  · intro p p0 p1; rw [hp _ _ (by omega) (by omega)]; exact s6 p p0 p1
  · intro p p0 p1; rw [hp _ _ (by omega) (by omega)]; exact s7 p p0 p1
  · intro p p0 p1; rw [hp _ _ (by omega) (by omega)]; exact s8 p p0 p1
  · intro p p0 p1; rw [hp _ _ (by omega) (by omega)]; exact s9 p p0 p1
  · unfold MF at *
    rw [hp 181 b (by omega) (by omega), hp 182 b (by omega) (by omega)]
    refine ⟨s10.1, fun h0 => ?_⟩
    obtain ⟨u1, u2, u3, u4⟩ := s10.2 h0
    refine ⟨u1, u2, u3, fun i i0 i1 => ?_⟩
    rw [hp 185 _ (by omega) (by omega), hp 186 _ (by omega) (by omega)]
    exact u4 i i0 i1
  · unfold MF at *
    rw [hp 183 b (by omega) (by omega), hp 184 b (by omega) (by omega)]
    refine ⟨s11.1, fun h0 => ?_⟩
    obtain ⟨u1, u2, u3, u4⟩ := s11.2 h0
    refine ⟨u1, u2, u3, fun i i0 i1 => ?_⟩
    rw [hp 185 _ (by omega) (by omega), hp 186 _ (by omega) (by omega)]
    exact u4 i i0 i1
  · intro k w k0 k1 w0 w1
    have := s12 k w k0 k1 w0 w1
    unfold mnm at *
    rw [hp 187 _ (by omega) (by omega), hp 188 _ (by omega) (by omega), hp 189 _ (by omega) (by omega)]
    exact this
  · rw [hq _ _ (by omega) (by omega)]; exact c1
  · intro p p0 p1; rw [hq _ _ (by omega) (by omega)]; exact c2 p p0 p1
  · intro p p0 p1; rw [hq _ _ (by omega) (by omega)]; exact c3 p p0 p1
  · intro p p0 p1; rw [hq _ _ (by omega) (by omega)]; exact c4 p p0 p1
  · intro c p p0 p1 p2 p3 p4; rw [hq _ _ (by omega) (by omega)]; exact c5 c p p0 p1 p2 p3 p4
theorem lay_sc : layT.all (fun q => decide (q.1 ≠ 202 ∧ ¬ (q.1 = 167 ∧ 57 ≤ q.2.1 ∧ q.2.1 ≤ 62))) = true := by decide +kernel
/-- the model's scratch for formulas -/
def msc (M' M : AwM) : Prop := ∀ a i : Int, a ≠ 202 → ¬ (a = 167 ∧ 57 ≤ i ∧ i ≤ 62) → M' a i = M a i
theorem msc_rf {M : AwM} : msc M M := fun _ _ _ _ => rfl
theorem msc_tr {M M1 M2 : AwM} (h : msc M1 M) (h' : msc M2 M1) : msc M2 M := fun a i p q => (h' a i p q).trans (h a i p q)
theorem msc_up {M : AwM} {i v : Int} (h0 : 57 ≤ i) (h1 : i ≤ 62) : msc (up_ M 167 i v) M := fun a j p q => if_neg (fun z => q ⟨z.1, by omega, by omega⟩)
theorem MM_sc {M M' : AwM} {b L : Int} {s d : AwM} (h : MM M b L s d) (hf : msc M' M) : MM M' b L s d := by
  refine MM_fr h (LAY_fq h.lay (fun q hq => ?_)) (hf _ _ (by decide) (by decide)) (fun a i _ _ => hf a i (by omega) (by omega)) (fun a i _ _ => hf a i (by omega) (by omega))
  have := of_decide_eq_true (List.all_eq_true.mp lay_sc q hq)
  exact hf _ _ this.1 this.2
/-- the class's scratch for formulas -/
def csc (cr so : Int) (M' M : AwM) : Prop := ∀ a i : Int, a ≠ cr + 6 → a ≠ so + 12 → a ≠ so + 15 → M' a i = M a i
theorem csc_rf {M : AwM} {cr so : Int} : csc cr so M M := fun _ _ _ _ _ => rfl
theorem csc_tr {M M1 M2 : AwM} {cr so : Int} (h : csc cr so M1 M) (h' : csc cr so M2 M1) : csc cr so M2 M := fun a i p q r => (h' a i p q r).trans (h a i p q r)
/-- whether the TEST would hold -/
def tst (s d : AwM) (c q p k n : Int) : Bool := decide (s 6 (-1) = 0) || !decide (fvl (s 6) (fcts (s 2 c) (s 1 q) (s 1 p) k (d 0 0) n) = 0)
theorem isTold_n {M : AwM} {fo : Int} (hfo : fo = 20 ∨ fo = 23 ∨ fo = 147 ∨ fo = 150) : fX1_isTold SH M fo = some (bi (decide (0 < M fo 1))) := by
  unfold fX1_isTold
  rw [kfo0 hfo, gd_t rfl]
  by_cases h : 0 < M fo 1
  · rw [if_pos h, decide_eq_true h]; rfl
  · rw [if_neg h, decide_eq_false h]; rfl
theorem fcts_b {a b c k e n : Int} (ha : 0 ≤ a ∧ a ≤ 99) (hb : 0 ≤ b ∧ b ≤ 9) (hc : 0 ≤ c ∧ c ≤ 9) (hk : 0 ≤ k ∧ k ≤ 12) (he : 0 ≤ e ∧ e ≤ 1000) (hn : 0 ≤ n ∧ n ≤ 12) (z : Int) : rng (fcts a b c k e n z) := by
  unfold fcts rng
  (repeat' split) <;> omega
theorem testWould_n {M : AwM} {cr so : Int} {s d : AwM} (h : CC M cr so s d) {c q p k n : Int} (c0 : 0 ≤ c) (c1 : c < s 0 1) (q0 : 0 ≤ q) (q1 : q < s 0 0) (p0 : 0 ≤ p) (p1 : p < s 0 0) (hk : 0 ≤ k ∧ k ≤ 12) (hn : 0 ≤ n ∧ n ≤ 12) : ∃ M', fX0_testWouldHold SH M cr c q p k n = some (bi (tst s d c q p k n), M') ∧ csc cr so M' M := by
  have hcr := h.hcr
  have hso := h.hso
  have l := h.lay
  have hc := h.ok.c
  have hf := h.ok.f6
  have fz := h.f6.1
  unfold fX0_testWouldHold
  rw [kcr0 hcr, gd_t rfl, h.ref, kso0 hso, gd_t rfl, lso0_9 l hso, kso10 hso, gd_t rfl, isTold_n (by omega), pb_1, u1_1, fz]
  by_cases z : 0 < s 6 (-1)
  · obtain ⟨M9, e9, f9, v9⟩ := putFacts_n h (w := s 2 c) (k := k) (n := n) q0 q1 p0 p1
    have h9 : CC M9 cr so s d := CC_sc h (fun a i x y w => f9 a i x)
    have fa : ∀ y : Int, 0 ≤ y → y < 6 → rng (M9 (cr + 6) y) := fun y y0 y1 => by
      rw [v9 y y0 y1]
      exact fcts_b (by have := h.ok.wo c c0 c1; omega) (h.ok.ra q q0 q1) (h.ok.ra p p0 p1) hk h.ld.day hn y
    obtain ⟨M', e', f', ty⟩ := value_n (M := M9) (fo := so + 10) (cr := cr) (f := s 6) (b := true) h9.lay (by omega) hcr hf z h9.f6.1 (fun i i0 i1 => by rw [show so + 10 + 1 = so + 11 by omega]; exact h9.f6.2 i i0 i1) fa
    have ev : fvl (s 6) (M9 (cr + 6)) = fvl (s 6) (fcts (s 2 c) (s 1 q) (s 1 p) k (d 0 0) n) := fvl_congr v9
    rw [ev] at e'
    refine ⟨M', ?_, fun a i x y w => (f' a i (by omega)).trans (f9 a i x)⟩
    rw [decide_eq_true z, if_neg (by decide), lso0_3 l hso, kso4 hso, ga_t c0 (by omega), h.wo c0 c1, e9, pb_1, u1_1, h9.ref, kso0 hso, gd_t rfl, lso0_9 h9.lay hso, kso10 hso, gd_t rfl, lcr0_2 h9.lay hcr, e', pb_1, u2_1]
    unfold tst
    rw [decide_eq_false (show ¬ s 6 (-1) = 0 by omega)]
    by_cases w : fvl (s 6) (fcts (s 2 c) (s 1 q) (s 1 p) k (d 0 0) n) = 0
    · rw [if_pos w, decide_eq_true w]; rfl
    · rw [if_neg w, decide_eq_false w]; rfl
  · refine ⟨M, ?_, csc_rf⟩
    rw [decide_eq_false z, if_pos (by decide)]
    unfold tst
    rw [decide_eq_true (show s 6 (-1) = 0 by have := hf.1; omega)]
    rfl
theorem mholds_n {M : AwM} {b L : Int} {s d : AwM} (h : MM M b L s d) {c q p k n : Int} (c0 : 0 ≤ c) (c1 : c < s 0 1) (q0 : 0 ≤ q) (q1 : q < s 0 0) (p0 : 0 ≤ p) (p1 : p < s 0 0) (hk : 0 ≤ k ∧ k ≤ 12) (hn : 0 ≤ n ∧ n ≤ 12) : ∃ M', fX9_holdsTest SH M 167 c q p k n (d 0 0) = some (bi (tst s d c q p k n), M') ∧ msc M' M := by
  have hb := h.b01
  have l := h.lay
  have hc := h.ok.c
  have hp := h.ok.p
  have hf := h.ok.f6
  have hm := h.f6
  unfold fX9_holdsTest
  rw [kd167, gd_t rfl, ly167_26 l, kd181, h.bk, ga_t (by omega) (by omega)]
  by_cases z : 0 < s 6 (-1)
  · have z1 := hm.2 z
    have h1 : MM (up_ M 167 57 (s 2 c)) b L s d := MM_sc h (msc_up (by decide) (by decide))
    have h2 : MM (up_ (up_ M 167 57 (s 2 c)) 167 58 (s 1 q)) b L s d := MM_sc h1 (msc_up (by decide) (by decide))
    have h3 : MM (up_ (up_ (up_ M 167 57 (s 2 c)) 167 58 (s 1 q)) 167 59 (s 1 p)) b L s d := MM_sc h2 (msc_up (by decide) (by decide))
    have h4 : MM (up_ (up_ (up_ (up_ M 167 57 (s 2 c)) 167 58 (s 1 q)) 167 59 (s 1 p)) 167 60 k) b L s d := MM_sc h3 (msc_up (by decide) (by decide))
    have h5 : MM (up_ (up_ (up_ (up_ (up_ M 167 57 (s 2 c)) 167 58 (s 1 q)) 167 59 (s 1 p)) 167 60 k) 167 61 (d 0 0)) b L s d := MM_sc h4 (msc_up (by decide) (by decide))
    have h6 : MM (up_ (up_ (up_ (up_ (up_ (up_ M 167 57 (s 2 c)) 167 58 (s 1 q)) 167 59 (s 1 p)) 167 60 k) 167 61 (d 0 0)) 167 62 n) b L s d := MM_sc h5 (msc_up (by decide) (by decide))
    have m6 : msc (up_ (up_ (up_ (up_ (up_ (up_ M 167 57 (s 2 c)) 167 58 (s 1 q)) 167 59 (s 1 p)) 167 60 k) 167 61 (d 0 0)) 167 62 n) M := msc_tr (msc_tr (msc_tr (msc_tr (msc_tr (msc_up (by decide) (by decide)) (msc_up (by decide) (by decide))) (msc_up (by decide) (by decide))) (msc_up (by decide) (by decide))) (msc_up (by decide) (by decide))) (msc_up (by decide) (by decide))
    have v6 : ∀ y : Int, 0 ≤ y → y < 6 → mfa (up_ (up_ (up_ (up_ (up_ (up_ M 167 57 (s 2 c)) 167 58 (s 1 q)) 167 59 (s 1 p)) 167 60 k) 167 61 (d 0 0)) 167 62 n) y = fcts (s 2 c) (s 1 q) (s 1 p) k (d 0 0) n y := by
      intro y y0 y1
      have : y = 0 ∨ y = 1 ∨ y = 2 ∨ y = 3 ∨ y = 4 ∨ y = 5 := by omega
      rcases this with rfl | rfl | rfl | rfl | rfl | rfl <;> rfl
    rw [if_neg (by omega), mworthOf_n h.mw c0 (by omega), pb_1, u1_1, h.wo c0 c1, bd_1, rankOf_n h1.mw q0 (by omega), pb_1, u1_1, h1.ra q0 q1, bd_1, rankOf_n h2.mw p0 (by omega), pb_1, u1_1, h2.ra p0 p1, bd_1, bd_1, bd_1, bd_1]
    generalize up_ (up_ (up_ (up_ (up_ (up_ M 167 57 (s 2 c)) 167 58 (s 1 q)) 167 59 (s 1 p)) 167 60 k) 167 61 (d 0 0)) 167 62 n = M6 at *
    have fa : ∀ y : Int, 0 ≤ y → y < 6 → rng (M6 167 (57 + y)) := fun y y0 y1 => by
      rw [show M6 167 (57 + y) = mfa M6 y from rfl, v6 y y0 y1]
      exact fcts_b (by have := h.ok.wo c c0 c1; omega) (h.ok.ra q q0 q1) (h.ok.ra p p0 p1) hk h.ld.day hn y
    obtain ⟨M', e', f', ty⟩ := reckons_n (M := M6) (bk := b) (fr := 181) (bh := 182) (f := s 6) (tb := true) h6.lay h6.bk hb hf z h6.f6 fa
    have ev : fvl (s 6) (mfa M6) = fvl (s 6) (fcts (s 2 c) (s 1 q) (s 1 p) k (d 0 0) n) := fvl_congr v6
    rw [ev] at e' ty
    refine ⟨M', ?_, fun a i x y => (f' a i x).trans (m6 a i x y)⟩
    rw [h6.bk, ly167_26 h6.lay, kd181, ga_t (by omega) (by omega), ly167_27 h6.lay, kd182, ga_t (by omega) (by omega), e', pb_1, u2_1]
    unfold tst
    rw [decide_eq_false (show ¬ s 6 (-1) = 0 by omega)]
    rcases typ_t.mp ty with w | w
    · rw [w]; rfl
    · rw [w]; rfl
  · refine ⟨M, ?_, msc_rf⟩
    have e0 : s 6 (-1) = 0 := by have := hf.1; omega
    rw [if_pos (hm.1 e0)]
    unfold tst
    rw [decide_eq_true e0]
    rfl
end PHOLD
