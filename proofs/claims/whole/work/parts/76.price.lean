/-! may, goods, spend alike; reads from the whole relation -/
section PPRICE
theorem relR_of {M s d : AwM} {n : Int} {R : Int → AwM} {mi : AwM} (h : CR M s d n R mi) (g : MR M s d n R mi) : RelR M (M 1 3) (M 167 13) ∧ RelT M 153 (M 167 13) 0 := by
  have hc := h.cc
  have hm := g.mm
  have c := hc.ok.c
  have p := hc.ok.p
  refine ⟨⟨hc.cw, hm.mw, ⟨hc.n0.trans hm.n0.symm, hc.n1.trans hm.n1.symm, hc.n2.trans hm.n2.symm, fun i a b => ?_, fun i a b => ?_, hc.n3.trans hm.n3.symm, hc.n4.trans hm.n4.symm⟩, ⟨hc.day.trans hm.day.symm, fun i a b => ?_, fun i a b => ?_, fun i a b => ?_, fun i a b => ?_⟩, rfl, h.hi.2.1.trans g.hi.2.1.symm, h.mi.2.2.2.2.2.2.2.2.1.trans g.mi.2.2.2.2.2.2.2.2.1.symm, ?_, h.mi.2.2.1.trans g.mi.2.2.1.symm, h.mi.2.2.2.1.trans g.mi.2.2.2.1.symm⟩, fun i q a b x y z => ?_⟩
  · rw [hm.n1] at b; exact (hc.wo a b).trans (hm.wo a b).symm
  · rw [hm.n0] at b; exact (hc.ra a b).trans (hm.ra a b).symm
  · rw [hm.n1] at b; exact (hc.ho a b).trans (hm.ho a b).symm
  · rw [hm.n1] at b; exact (hc.kn a b).trans (hm.kn a b).symm
  · rw [hm.n1] at b; exact (hc.sn a b).trans (hm.sn a b).symm
  · rw [hm.n1] at b; rw [hm.kn a b, hm.ho a b]; exact hc.ld.kh i a b
  · have := g.mk.2.2.2.2
    rw [g.mi.2.2.2.2.2.2.2.2.1]
    exact ⟨by omega, by omega⟩
  · rw [hm.n1] at b
    rw [hm.n0] at y
    rw [hm.kn a b] at z
    rw [show i * 10 + q = 10 * i + q by omega]
    exact (hc.me a b x y z).trans (hm.me a b x y z).symm
theorem isTh_n {M : AwM} {cr so k v : Int} {s d : AwM} (h : CC M cr so s d) (k0 : 0 ≤ k) (k1 : k < 3) : fX5_isThere SH M so k v = some (bi (decide (0 ≤ v ∧ v < s 0 k))) := by
  rw [isThere_n h.cw k0 k1]
  have : k = 0 ∨ k = 1 ∨ k = 2 := by omega
  rcases this with rfl | rfl | rfl
  · rw [h.n0]
  · rw [h.n1]
  · rw [h.n2]
theorem mware_n {M s d : AwM} {b L : Int} {g : Int} (h : MM M b L s d) : fX9_isWare SH M 167 g = some (bi (decide (0 ≤ g ∧ g < s 0 2))) := by
  rw [isWare_n h.mw, h.n2]
def spA (s d : AwM) (p o : Int) : Int := wts s (an_ (hld s d p) (kng s d o))
theorem hk_ms {s d : AwM} (h : SoOK s) {p o : Int} : ms 12 (an_ (hld s d p) (kng s d o)) := (ms_and (by decide) (hld_ms h) (ms_lt (kng_ms h) (by decide)).1).1
theorem spA_n {M : AwM} {cr so : Int} {s d : AwM} (h : CC M cr so s d) {p o : Int} : fX0_canSpend SH M cr p o = some (spA s d p o) := by
  unfold fX0_canSpend
  rw [kcr0 h.hcr, gd_t rfl, hld_n h, pb_1, u1_1, kng_n h, pb_1, u1_1, h.ref, kso0 h.hso, gd_t rfl, wts_n h (hk_ms h.ok), pb_1, u1_1]
  rfl
theorem mspA_n {M : AwM} {b : Int} {s d : AwM} (h : MM M b 0 s d) {p o : Int} (o0 : 0 ≤ o) (o1 : o < 32) : fX9_spends SH M 167 p o = some (spA s d p o) := by
  unfold fX9_spends
  rw [kd167, gd_t rfl, mhld_n h, pb_1, u1_1, mkng_n h o0 o1, pb_1, u1_1, mwts_n h (hk_ms h.ok), pb_1, u1_1]
  rfl
def atw (s : AwM) (p o : Int) : Bool := decide (0 ≤ p ∧ p < s 0 0) && (decide (0 ≤ o ∧ o < s 0 0) && !decide (p = o))
theorem atw_n {M s d : AwM} {n : Int} {R : Int → AwM} {mi : AwM} {c p : Int} (h : CR M s d n R mi) : fX8_areTwo SH M 1 c p = some (bi (atw s c p)) := by
  rw [areTwo_n h.cc.cw rfl, h.cc.n0]; rfl
theorem atw_t {s : AwM} {p o : Int} (h : atw s p o = true) : (0 ≤ p ∧ p < s 0 0) ∧ (0 ≤ o ∧ o < s 0 0) ∧ p ≠ o := by
  unfold atw at h
  rw [Bool.and_eq_true, Bool.and_eq_true, decide_eq_true_iff, decide_eq_true_iff, Bool.not_eq_true', decide_eq_false_iff_not] at h
  exact h
theorem spend_e {M s d : AwM} {n : Int} {R : Int → AwM} {mi : AwM} {p o : Int} (h : CR M s d n R mi) (g : MR M s d n R mi) : ∃ r, fX8_spend SH M 1 p o = some r ∧ fX9_spend SH M 167 p o = some r := by
  have hp := h.cc.ok.p
  unfold fX8_spend fX9_spend
  rw [kd1, gd_t rfl, atw_n h, pb_1, u1_1, bi_if, kd167, gd_t rfl, (mis_n (c := 0) (p := p) g.mm).2, pb_1, u1_1, bi_if, (mis_n (c := 0) (p := o) g.mm).2, pb_1, u1_1, bi_if]
  by_cases a : 0 ≤ p ∧ p < s 0 0
  · by_cases b : 0 ≤ o ∧ o < s 0 0
    · by_cases e : p = o
      · exact ⟨-1, by rw [if_neg (by unfold atw; rw [decide_eq_true e]; simp)], by rw [if_pos (decide_eq_true a), if_pos (decide_eq_true b), if_pos e]⟩
      · exact ⟨spA s d p o, by rw [if_pos (by unfold atw; rw [decide_eq_true a, decide_eq_true b, decide_eq_false e]; rfl), ly1_4 h.lay, kd153, gd_t rfl, spA_n h.cc, pb_1, u1_1], by rw [if_pos (decide_eq_true a), if_pos (decide_eq_true b), if_neg e, mspA_n g.mm b.1 (by omega), pb_1, u1_1]⟩
    · exact ⟨-1, by rw [if_neg (by unfold atw; rw [decide_eq_false b]; simp)], by rw [if_pos (decide_eq_true a), if_neg (by rw [decide_eq_false b]; decide)]⟩
  · exact ⟨-1, by rw [if_neg (by unfold atw; rw [decide_eq_false a]; simp)], by rw [if_neg (by rw [decide_eq_false a]; decide)]⟩
def prc (s d : AwM) (g p : Int) : Int := if s 7 (-1) = 0 then s 3 g else max 0 (min 999 (fvl (s 7) (fcts (s 3 g) (s 1 p) (s 1 (s 4 g)) (pc (an_ (hld s d p) (kng s d (s 4 g)))) (d 0 0) (pc (hld s d p)))))
theorem prc_b {s d : AwM} (ho : SoOK s) {g p : Int} (g0 : 0 ≤ g) (g1 : g < s 0 2) : 0 ≤ prc s d g p ∧ prc s d g p ≤ 999 := by
  have := ho.gw g g0 g1
  unfold prc
  split <;> omega
theorem prc_n {M : AwM} {cr so : Int} {s d : AwM} (h : CC M cr so s d) {g p : Int} (g0 : 0 ≤ g) (g1 : g < s 0 2) (p0 : 0 ≤ p) (p1 : p < s 0 0) : ∃ M', fX0_priceFor SH M cr g p = some (prc s d g p, M') ∧ csc cr so M' M := by
  have hcr := h.hcr
  have hso := h.hso
  have l := h.lay
  have hg := h.ok.g
  have hf := h.ok.f7
  have fz := h.f7.1
  obtain ⟨q0, q1⟩ := h.ok.se g g0 g1
  unfold fX0_priceFor
  rw [kcr0 hcr, gd_t rfl, h.ref, kso0 hso, gd_t rfl, lso0_10 l hso, kso13 hso, gd_t rfl, isTold_n (by omega), pb_1, u1_1, fz]
  by_cases z : 0 < s 7 (-1)
  · obtain ⟨M9, e9, f9, v9⟩ := putFacts_n h (w := s 3 g) (q := p) (p := s 4 g) (k := pc (an_ (hld s d p) (kng s d (s 4 g)))) (n := pc (hld s d p)) p0 p1 q0 q1
    have h9 : CC M9 cr so s d := CC_sc h (fun a i x y w => f9 a i x)
    have fa : ∀ y : Int, 0 ≤ y → y < 6 → rng (M9 (cr + 6) y) := fun y y0 y1 => by
      rw [v9 y y0 y1]
      exact fcts_b (by have := h.ok.gw g g0 g1; omega) (h.ok.ra p p0 p1) (h.ok.ra _ q0 q1) (pc_b _) h.ld.day (pc_b _) y
    obtain ⟨M', e', f', ty⟩ := value_n (M := M9) (fo := so + 13) (cr := cr) (f := s 7) (b := false) h9.lay (by omega) hcr hf z h9.f7.1 (fun i i0 i1 => by rw [show so + 13 + 1 = so + 14 by omega]; exact h9.f7.2 i i0 i1) fa
    have ev : fvl (s 7) (M9 (cr + 6)) = fvl (s 7) (fcts (s 3 g) (s 1 p) (s 1 (s 4 g)) (pc (an_ (hld s d p) (kng s d (s 4 g)))) (d 0 0) (pc (hld s d p))) := fvl_congr v9
    rw [ev] at e'
    refine ⟨M', ?_, fun a i x y w => (f' a i (by omega)).trans (f9 a i x)⟩
    rw [decide_eq_true z, if_neg (by decide), lso0_8 l hso, kso9 hso, ga_t g0 (by omega), hld_n h, pb_1, u1_1, h.se g0 g1, kng_n h, pb_1, u1_1, bc_n (hk_ms h.ok), pb_1, u1_1, lso0_7 l hso, kso8 hso, ga_t g0 (by omega), bc_n (hld_ms h.ok), pb_1, u1_1, h.gw g0 g1, e9, pb_1, u1_1, h9.ref, kso0 hso, gd_t rfl, lso0_10 h9.lay hso, kso13 hso, gd_t rfl, lcr0_2 h9.lay hcr, e', pb_1, u2_1, min32_n, pb_1, u1_1, max32_n, pb_1, u1_1]
    unfold prc
    rw [if_neg (show ¬ s 7 (-1) = 0 by omega)]
  · refine ⟨M, ?_, csc_rf⟩
    rw [decide_eq_false z, if_pos (by decide), lso0_7 l hso, kso8 hso, ga_t g0 (by omega), h.gw g0 g1]
    unfold prc
    rw [if_pos (show s 7 (-1) = 0 by have := hf.1; omega)]
theorem mprc_n {M : AwM} {b : Int} {s d : AwM} (h : MM M b 0 s d) {g p : Int} (g0 : 0 ≤ g) (g1 : g < s 0 2) (p0 : 0 ≤ p) (p1 : p < s 0 0) : ∃ M', fX9_priceFor SH M 167 g p = some (prc s d g p, M') ∧ msc M' M := by
  have hbb := h.b01
  have l := h.lay
  have hg := h.ok.g
  have hp := h.ok.p
  have hf := h.ok.f7
  have hm := h.f7
  obtain ⟨q0, q1⟩ := h.ok.se g g0 g1
  unfold fX9_priceFor
  rw [kd167, gd_t rfl, ly167_22 l, kd177, h.bk, w32_s (v := 10 * b) (by omega) (by omega), w32_s (v := 10 * b + g) (by omega) (by omega), ga_t (by omega) (by omega), h.gw g0 g1, bd_1, ly167_28 l, kd183, ga_t (by omega) (by omega), ly167_23 l, kd178, h.se g0 g1]
  by_cases z : 0 < s 7 (-1)
  · have z1 := hm.2 z
    have h1 : MM (up_ M 167 57 (s 3 g)) b 0 s d := MM_sc h (msc_up (by decide) (by decide))
    have h2 : MM (up_ (up_ M 167 57 (s 3 g)) 167 58 (s 1 p)) b 0 s d := MM_sc h1 (msc_up (by decide) (by decide))
    have h3 : MM (up_ (up_ (up_ M 167 57 (s 3 g)) 167 58 (s 1 p)) 167 59 (s 1 (s 4 g))) b 0 s d := MM_sc h2 (msc_up (by decide) (by decide))
    have h4 : MM (up_ (up_ (up_ (up_ M 167 57 (s 3 g)) 167 58 (s 1 p)) 167 59 (s 1 (s 4 g))) 167 60 (pc (an_ (hld s d p) (kng s d (s 4 g))))) b 0 s d := MM_sc h3 (msc_up (by decide) (by decide))
    have h5 : MM (up_ (up_ (up_ (up_ (up_ M 167 57 (s 3 g)) 167 58 (s 1 p)) 167 59 (s 1 (s 4 g))) 167 60 (pc (an_ (hld s d p) (kng s d (s 4 g))))) 167 61 (d 0 0)) b 0 s d := MM_sc h4 (msc_up (by decide) (by decide))
    have h6 : MM (up_ (up_ (up_ (up_ (up_ (up_ M 167 57 (s 3 g)) 167 58 (s 1 p)) 167 59 (s 1 (s 4 g))) 167 60 (pc (an_ (hld s d p) (kng s d (s 4 g))))) 167 61 (d 0 0)) 167 62 (pc (hld s d p))) b 0 s d := MM_sc h5 (msc_up (by decide) (by decide))
    have m6 : msc (up_ (up_ (up_ (up_ (up_ (up_ M 167 57 (s 3 g)) 167 58 (s 1 p)) 167 59 (s 1 (s 4 g))) 167 60 (pc (an_ (hld s d p) (kng s d (s 4 g))))) 167 61 (d 0 0)) 167 62 (pc (hld s d p))) M := msc_tr (msc_tr (msc_tr (msc_tr (msc_tr (msc_up (by decide) (by decide)) (msc_up (by decide) (by decide))) (msc_up (by decide) (by decide))) (msc_up (by decide) (by decide))) (msc_up (by decide) (by decide))) (msc_up (by decide) (by decide))
    have v6 : ∀ y : Int, 0 ≤ y → y < 6 → mfa (up_ (up_ (up_ (up_ (up_ (up_ M 167 57 (s 3 g)) 167 58 (s 1 p)) 167 59 (s 1 (s 4 g))) 167 60 (pc (an_ (hld s d p) (kng s d (s 4 g))))) 167 61 (d 0 0)) 167 62 (pc (hld s d p))) y = fcts (s 3 g) (s 1 p) (s 1 (s 4 g)) (pc (an_ (hld s d p) (kng s d (s 4 g)))) (d 0 0) (pc (hld s d p)) y := by
      intro y y0 y1
      have : y = 0 ∨ y = 1 ∨ y = 2 ∨ y = 3 ∨ y = 4 ∨ y = 5 := by omega
      rcases this with rfl | rfl | rfl | rfl | rfl | rfl <;> rfl
    rw [if_neg (by omega), ga_t (by omega) (by omega), bd_1, bd_1, rankOf_n h1.mw p0 (by omega), pb_1, u1_1, h1.ra p0 p1, bd_1, rankOf_n h2.mw q0 (by omega), pb_1, u1_1, h2.ra q0 q1, bd_1, mhld_n h3, pb_1, u1_1, mkng_n h3 q0 (by omega), pb_1, u1_1, bits_n (hk_ms h.ok), pb_1, u1_1, bd_1, ly167_48 h4.lay, kd197, gd_t (by decide), h4.day, bd_1, mhld_n h5, pb_1, u1_1, bits_n (hld_ms h.ok), pb_1, u1_1, bd_1]
    generalize up_ (up_ (up_ (up_ (up_ (up_ M 167 57 (s 3 g)) 167 58 (s 1 p)) 167 59 (s 1 (s 4 g))) 167 60 (pc (an_ (hld s d p) (kng s d (s 4 g))))) 167 61 (d 0 0)) 167 62 (pc (hld s d p)) = M6 at *
    have fa : ∀ y : Int, 0 ≤ y → y < 6 → rng (M6 167 (57 + y)) := fun y y0 y1 => by
      rw [show M6 167 (57 + y) = mfa M6 y from rfl, v6 y y0 y1]
      exact fcts_b (by have := h.ok.gw g g0 g1; omega) (h.ok.ra p p0 p1) (h.ok.ra _ q0 q1) (pc_b _) h.ld.day (pc_b _) y
    obtain ⟨M', e', f', ty⟩ := reckons_n (M := M6) (bk := b) (fr := 183) (bh := 184) (f := s 7) (tb := false) h6.lay h6.bk hbb hf z h6.f7 fa
    have ev : fvl (s 7) (mfa M6) = fvl (s 7) (fcts (s 3 g) (s 1 p) (s 1 (s 4 g)) (pc (an_ (hld s d p) (kng s d (s 4 g)))) (d 0 0) (pc (hld s d p))) := fvl_congr v6
    rw [ev] at e' ty
    refine ⟨M', ?_, fun a i x y => (f' a i x).trans (m6 a i x y)⟩
    rw [h6.bk, ly167_28 h6.lay, kd183, ga_t (by omega) (by omega), ly167_29 h6.lay, kd184, ga_t (by omega) (by omega), e', pb_1, u2_1]
    unfold prc
    rw [if_neg (show ¬ s 7 (-1) = 0 by omega)]
    have tr := typ_f.mp ty
    generalize fvl (s 7) (fcts (s 3 g) (s 1 p) (s 1 (s 4 g)) (pc (an_ (hld s d p) (kng s d (s 4 g)))) (d 0 0) (pc (hld s d p))) = w at *
    obtain ⟨t0, t1⟩ := tr
    by_cases a : w < 0
    · rw [if_pos (cmp_lt.mpr a), show max 0 (min 999 w) = 0 by omega]
    · rw [if_neg (fun x => a (cmp_lt.mp x))]
      by_cases c : 999 < w
      · rw [if_pos (cmp_gt.mpr c), show max 0 (min 999 w) = 999 by omega]
      · rw [if_neg (fun x => c (cmp_gt.mp x)), w32_s (by omega) (by omega), show max 0 (min 999 w) = w by omega]
  · refine ⟨M, ?_, msc_rf⟩
    have e0 : s 7 (-1) = 0 := by have := hf.1; omega
    rw [if_pos (hm.1 e0)]
    unfold prc
    rw [if_pos e0]
theorem goods_b {s d : AwM} {n : Int} {R : Int → AwM} {mi : AwM} {g p v : Int} : BSt (fun M => fX8_goods SH M 1 g p v) (fun M => fX9_goods SH M 167 g p v) s d n R mi := by
  by_cases hg : 0 ≤ g ∧ g < s 0 2
  · by_cases hp : 0 ≤ p ∧ p < s 0 0
    · by_cases v2 : v = 2
      · refine ⟨prc s d g p, s, d, n, R, mi, fun M h => ?_, fun M h => ?_⟩
        · obtain ⟨M1, e1, f1⟩ := prc_n h.cc hg.1 hg.2 hp.1 hp.2
          refine ⟨M1, ?_, CR_of h (csc_cf f1) (CC_sc h.cc f1), cfr_hi (Or.inl rfl) h.cc.hso (csc_cf f1)⟩
          show fX8_goods SH M 1 g p v = _
          unfold fX8_goods
          rw [kd1, gd_t rfl, kso0 h.cc.hso, gd_t rfl, isTh_n h.cc (by decide) (by decide), pb_1, u1_1, bi_if, if_pos (decide_eq_true hg), isTh_n h.cc (by decide) (by decide), pb_1, u1_1, bi_if, if_pos (decide_eq_true hp), if_neg (by omega), if_neg (by omega), if_pos v2, ly1_4 h.lay, kd153, gd_t rfl, e1, pb_1, u2_1]
        · obtain ⟨M1, e1, f1⟩ := mprc_n h.mm hg.1 hg.2 hp.1 hp.2
          refine ⟨M1, ?_, MR_of h (msc_mf f1) (MM_sc h.mm f1), mfr_lo (msc_mf (L := 0) f1)⟩
          show fX9_goods SH M 167 g p v = _
          unfold fX9_goods
          rw [kd167, gd_t rfl, mware_n h.mm, pb_1, u1_1, bi_if, if_pos (decide_eq_true hg), (mis_n (c := 0) (p := p) h.mm).2, pb_1, u1_1, bi_if, if_pos (decide_eq_true hp), if_neg (by omega), if_neg (by omega), if_pos v2, e1, pb_1, u2_1]
      · refine ⟨if v = 0 then s 3 g else if v = 1 then s 4 g else -1, s, d, n, R, mi, fun M h => ⟨M, ?_, h, fun _ _ _ => rfl⟩, fun M h => ⟨M, ?_, h, fun _ _ _ => rfl⟩⟩
        · have hg2 := h.cc.ok.g
          show fX8_goods SH M 1 g p v = _
          unfold fX8_goods
          rw [kd1, gd_t rfl, kso0 h.cc.hso, gd_t rfl, isTh_n h.cc (by decide) (by decide), pb_1, u1_1, bi_if, if_pos (decide_eq_true hg), isTh_n h.cc (by decide) (by decide), pb_1, u1_1, bi_if, if_pos (decide_eq_true hp), lso0_7 h.lay h.cc.hso, kso8 h.cc.hso, ga_t hg.1 (by omega), lso0_8 h.lay h.cc.hso, kso9 h.cc.hso, ga_t hg.1 (by omega), h.cc.gw hg.1 hg.2, h.cc.se hg.1 hg.2, if_neg v2]
          by_cases v0 : v = 0
          · rw [if_pos v0, if_pos v0]
          · rw [if_neg v0, if_neg v0]
            by_cases v1 : v = 1
            · rw [if_pos v1, if_pos v1]
            · rw [if_neg v1, if_neg v1]
        · have hg2 := h.mm.ok.g
          have hbb := h.mm.b01
          show fX9_goods SH M 167 g p v = _
          unfold fX9_goods
          rw [kd167, gd_t rfl, mware_n h.mm, pb_1, u1_1, bi_if, if_pos (decide_eq_true hg), (mis_n (c := 0) (p := p) h.mm).2, pb_1, u1_1, bi_if, if_pos (decide_eq_true hp), if_neg v2, ly167_22 h.lay, kd177, ly167_23 h.lay, kd178, w32_s (v := 10 * M 167 13) (by omega) (by omega), w32_s (v := 10 * M 167 13 + g) (by omega) (by omega), ga_t (by omega) (by omega), ga_t (by omega) (by omega), h.mm.gw hg.1 hg.2, h.mm.se hg.1 hg.2]
          by_cases v0 : v = 0
          · rw [if_pos v0, if_pos v0]
          · rw [if_neg v0, if_neg v0]
            by_cases v1 : v = 1
            · rw [if_pos v1, if_pos v1]
            · rw [if_neg v1, if_neg v1]
    · refine ⟨-1, s, d, n, R, mi, fun M h => ⟨M, ?_, h, fun _ _ _ => rfl⟩, fun M h => ⟨M, ?_, h, fun _ _ _ => rfl⟩⟩
      · show fX8_goods SH M 1 g p v = _
        unfold fX8_goods
        rw [kd1, gd_t rfl, kso0 h.cc.hso, gd_t rfl, isTh_n h.cc (by decide) (by decide), pb_1, u1_1, bi_if, if_pos (decide_eq_true hg), isTh_n h.cc (by decide) (by decide), pb_1, u1_1, bi_if, if_neg (by rw [decide_eq_false hp]; decide)]
      · show fX9_goods SH M 167 g p v = _
        unfold fX9_goods
        rw [kd167, gd_t rfl, mware_n h.mm, pb_1, u1_1, bi_if, if_pos (decide_eq_true hg), (mis_n (c := 0) (p := p) h.mm).2, pb_1, u1_1, bi_if, if_neg (by rw [decide_eq_false hp]; decide)]
  · refine ⟨-1, s, d, n, R, mi, fun M h => ⟨M, ?_, h, fun _ _ _ => rfl⟩, fun M h => ⟨M, ?_, h, fun _ _ _ => rfl⟩⟩
    · show fX8_goods SH M 1 g p v = _
      unfold fX8_goods
      rw [kd1, gd_t rfl, kso0 h.cc.hso, gd_t rfl, isTh_n h.cc (by decide) (by decide), pb_1, u1_1, bi_if, if_neg (by rw [decide_eq_false hg]; decide)]
    · show fX9_goods SH M 167 g p v = _
      unfold fX9_goods
      rw [kd167, gd_t rfl, mware_n h.mm, pb_1, u1_1, bi_if, if_neg (by rw [decide_eq_false hg]; decide)]
theorem may_b {s d : AwM} {n : Int} {R : Int → AwM} {mi : AwM} {c p : Int} : BSt (fun M => fX8_may SH M 1 c p) (fun M => fX9_may SH M 167 c p) s d n R mi := by
  by_cases hc : 0 ≤ c ∧ c < s 0 1
  · by_cases hp : 0 ≤ p ∧ p < s 0 0
    · have ha : ath s c p = true := by unfold ath; rw [decide_eq_true hc, decide_eq_true hp]; rfl
      by_cases hb' : cbp d c p = true
      · refine ⟨bi (tH s d c p), s, d, n, R, mi, fun M h => ?_, fun M h => ?_⟩
        · obtain ⟨M1, e1, f1⟩ := testHolds_n h.cc hc.1 hc.2 hp.1 hp.2
          refine ⟨M1, ?_, CR_of h (csc_cf f1) (CC_sc h.cc f1), cfr_hi (Or.inl rfl) h.cc.hso (csc_cf f1)⟩
          show fX8_may SH M 1 c p = _
          unfold fX8_may
          rw [kd1, gd_t rfl, ath_n h, pb_1, u1_1, bi_if, if_pos ha, ly1_4 h.lay, kd153, gd_t rfl, canBe_n h.cc hc.1 hc.2 hp.1, pb_1, u1_1, bi_if, if_pos hb', e1, pb_1, u2_1]
          cases tH s d c p <;> rfl
        · have hpp := h.mm.ok.p
          obtain ⟨M1, e1, f1⟩ := wouldKnow_n h.mm hc.1 hc.2 hp.1 hp.2
          refine ⟨M1, ?_, MR_of h (msc_mf f1) (MM_sc h.mm f1), mfr_lo (msc_mf (L := 0) f1)⟩
          show fX9_may SH M 167 c p = _
          unfold fX9_may
          rw [kd167, gd_t rfl, (mis_n (p := p) h.mm).1, pb_1, u1_1, bi_if, if_pos (decide_eq_true hc), (mis_n (c := c) h.mm).2, pb_1, u1_1, bi_if, if_pos (decide_eq_true hp), canP_n h.mm hc.1 hc.2 hp.1 (by omega), pb_1, u1_1, bi_if, if_pos hb', e1, pb_1, u2_1]
          cases tH s d c p <;> rfl
      · refine ⟨-1, s, d, n, R, mi, fun M h => ⟨M, ?_, h, fun _ _ _ => rfl⟩, fun M h => ⟨M, ?_, h, fun _ _ _ => rfl⟩⟩
        · show fX8_may SH M 1 c p = _
          unfold fX8_may
          rw [kd1, gd_t rfl, ath_n h, pb_1, u1_1, bi_if, if_pos ha, ly1_4 h.lay, kd153, gd_t rfl, canBe_n h.cc hc.1 hc.2 hp.1, pb_1, u1_1, bi_if, if_neg hb']
        · have hpp := h.mm.ok.p
          show fX9_may SH M 167 c p = _
          unfold fX9_may
          rw [kd167, gd_t rfl, (mis_n (p := p) h.mm).1, pb_1, u1_1, bi_if, if_pos (decide_eq_true hc), (mis_n (c := c) h.mm).2, pb_1, u1_1, bi_if, if_pos (decide_eq_true hp), canP_n h.mm hc.1 hc.2 hp.1 (by omega), pb_1, u1_1, bi_if, if_neg hb']
    · refine ⟨-1, s, d, n, R, mi, fun M h => ⟨M, ?_, h, fun _ _ _ => rfl⟩, fun M h => ⟨M, ?_, h, fun _ _ _ => rfl⟩⟩
      · show fX8_may SH M 1 c p = _
        unfold fX8_may
        rw [kd1, gd_t rfl, ath_n h, pb_1, u1_1, bi_if, if_neg (by unfold ath; rw [decide_eq_false hp]; simp)]
      · show fX9_may SH M 167 c p = _
        unfold fX9_may
        rw [kd167, gd_t rfl, (mis_n (p := p) h.mm).1, pb_1, u1_1, bi_if, if_pos (decide_eq_true hc), (mis_n (c := c) h.mm).2, pb_1, u1_1, bi_if, if_neg (by rw [decide_eq_false hp]; decide)]
  · refine ⟨-1, s, d, n, R, mi, fun M h => ⟨M, ?_, h, fun _ _ _ => rfl⟩, fun M h => ⟨M, ?_, h, fun _ _ _ => rfl⟩⟩
    · show fX8_may SH M 1 c p = _
      unfold fX8_may
      rw [kd1, gd_t rfl, ath_n h, pb_1, u1_1, bi_if, if_neg (by unfold ath; rw [decide_eq_false hc]; simp)]
    · show fX9_may SH M 167 c p = _
      unfold fX9_may
      rw [kd167, gd_t rfl, (mis_n (p := p) h.mm).1, pb_1, u1_1, bi_if, if_neg (by rw [decide_eq_false hc]; decide)]
end PPRICE
