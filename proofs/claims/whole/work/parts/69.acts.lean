/-! refuse, present, pay, undo, seed, end: both sides alike -/
section PACTS
def rfu (mi : AwM) (k : Int) : AwM := up_ mi 19 k (w32 (mi 19 k + 1))
def fmi (M' M : AwM) : Prop := ∀ a i : Int, (a = 1 → i = 3) → a ≠ 2 → (a = 3 → i ≤ 2) → ¬ (134 ≤ a ∧ a ≤ 136) → ¬ (a = 4 ∨ (6 ≤ a ∧ a ≤ 9)) → ¬ (128 ≤ a ∧ a ≤ 133) → M' a i = M a i
def fmm (M' M : AwM) : Prop := ∀ a i : Int, (a = 167 → i = 13 ∨ i = 53 ∨ i = 54) → a ≠ 168 → a ≠ 196 → ¬ (202 ≤ a) → M' a i = M a i
theorem CR_mi {M M' s d : AwM} {n : Int} {R : Int → AwM} {mi mi' : AwM} (h : CR M s d n R mi) (hl : LAY M') (hf : fmi M' M) (hm : MiOK mi') (hc : CMi M' mi') : CR M' s d n R mi' := by
  have hso := h.cc.hso
  have e3 : M' 1 3 = M 1 3 := hf _ _ (by omega) (by omega) (by omega) (by omega) (by omega) (by omega)
  refine ⟨?_, ?_, ?_, own_fr h.ow (fun i => hf _ _ (by omega) (by omega) (by omega) (by omega) (by omega) (by omega)), CHi_fr h.hi (fun i _ => hf _ _ (by omega) (by omega) (by omega) (by omega) (by omega) (by omega)) (fun a i _ _ => hf _ _ (by omega) (by omega) (by omega) (by omega) (by omega) (by omega)), hm, hc⟩
  · rw [e3]; exact CC_fr h.cc hl (hf _ _ (by omega) (by omega) (by omega) (by omega) (by omega) (by omega)) (fun a i _ _ _ => hf a i (by omega) (by omega) (by omega) (by omega) (by omega) (by omega)) (fun a i _ _ => hf a i (by omega) (by omega) (by omega) (by omega) (by omega) (by omega))
  · rw [e3, hf _ _ (by omega) (by omega) (by omega) (by omega) (by omega) (by omega)]; exact h.tr
  · rw [e3, hf _ _ (by omega) (by omega) (by omega) (by omega) (by omega) (by omega)]; exact h.dr
theorem MR_mi {M M' s d : AwM} {n : Int} {R : Int → AwM} {mi mi' : AwM} (h : MR M s d n R mi) (hl : LAY M') (hf : fmm M' M) (hm : MiOK mi') (hc : MMi M' mi') : MR M' s d n R mi' := by
  have e3 : M' 167 13 = M 167 13 := hf _ _ (by omega) (by omega) (by omega) (by omega)
  refine ⟨?_, MHi_fr h.hi h.mm.ok (hf _ _ (by omega) (by omega) (by omega) (by omega)) (hf _ _ (by omega) (by omega) (by omega) (by omega)) (fun i _ => hf _ _ (by omega) (by omega) (by omega) (by omega)) (fun a i _ _ _ => hf _ _ (by omega) (by omega) (by omega) (by omega)) (fun i _ => hf _ _ (by omega) (by omega) (by omega) (by omega)), hm, hc⟩
  rw [e3]; exact MM_fr h.mm hl e3 (fun a i _ _ => hf a i (by omega) (by omega) (by omega) (by omega)) (fun a i _ _ => hf a i (by omega) (by omega) (by omega) (by omega))
theorem MiOK_up {mi : AwM} {a i v : Int} (h : MiOK mi) (ha : a = 15 ∨ a = 19) : MiOK (up_ mi a i v) := by
  unfold MiOK at *
  simp (disch := omega) only [up_of]
  exact h
theorem refC {M s d : AwM} {n : Int} {R : Int → AwM} {mi : AwM} {k : Int} (h : CR M s d n R mi) (k0 : 0 ≤ k) (k1 : k < 6) : ∃ M', fX8_refuse SH M 1 k = some (-1, M') ∧ CR M' s d n R (rfu mi k) ∧ hif M' M := by
  refine ⟨_, refuse_n h.lay k0 k1, CR_mi h (LAY_ua h.lay (by decide)) (fun a i _ _ _ x _ _ => up_of (by omega)) (MiOK_up h.mk (Or.inr rfl)) ?_, fun a i x => up_of (by omega)⟩
  obtain ⟨a1, a2, a3, a4, a5, a6, a7, a8, a9, a10⟩ := h.mi
  unfold rfu CMi
  simp (disch := omega) only [up_of]
  refine ⟨a1, a2, a3, a4, a5, a6, a7, a8, a9, fun i x y => ?_⟩
  by_cases g : i = k
  · rw [g, up_at, up_at, a10 k k0 k1]
  · rw [up_oi g, up_oi g]; exact a10 i x y
theorem refM {M s d : AwM} {n : Int} {R : Int → AwM} {mi : AwM} {k : Int} (h : MR M s d n R mi) (k0 : 0 ≤ k) (k1 : k < 6) : ∃ M', fX9_refuses SH M 167 k = some (-1, M') ∧ MR M' s d n R (rfu mi k) ∧ lof M' M := by
  refine ⟨_, mrefuse_n h.lay k0 k1, MR_mi h (LAY_ua h.lay (by decide)) (fun a i _ _ x _ => up_of (by omega)) (MiOK_up h.mk (Or.inr rfl)) ?_, fun a i x => up_of (by omega)⟩
  obtain ⟨a1, a2, a3, a4, a5, a6, a7, a8, a9, a10⟩ := h.mi
  unfold rfu MMi
  simp (disch := omega) only [up_of]
  refine ⟨a1, a2, a3, a4, a5, a6, a7, a8, a9, fun i x y => ?_⟩
  by_cases g : i = k
  · rw [g, up_at, up_at, a10 k k0 k1]
  · rw [up_oi g, up_oi g]; exact a10 i x y
def ath (s : AwM) (c p : Int) : Bool := decide (0 ≤ c ∧ c < s 0 1) && decide (0 ≤ p ∧ p < s 0 0)
theorem ath_t {s : AwM} {c p : Int} (h : ath s c p = true) : (0 ≤ c ∧ c < s 0 1) ∧ (0 ≤ p ∧ p < s 0 0) := by
  unfold ath at h
  rw [Bool.and_eq_true, decide_eq_true_iff, decide_eq_true_iff] at h
  exact h
theorem ath_n {M s d : AwM} {n : Int} {R : Int → AwM} {mi : AwM} {c p : Int} (h : CR M s d n R mi) : fX8_areThere SH M 1 c p = some (bi (ath s c p)) := by
  rw [areThere_n h.cc.cw rfl, h.cc.n0, h.cc.n1]; rfl
/-- a method of both, alike -/
def BSt (f g : AwM → Option (Int × AwM)) (s d : AwM) (n : Int) (R : Int → AwM) (mi : AwM) : Prop :=
  ∃ r s' d' n' R' mi', CSt f s d n R mi r s' d' n' R' mi' ∧ MSt g s d n R mi r s' d' n' R' mi'
theorem bi_if {b : Bool} {α : Type} {t u : α} : (if bi b = 0 then t else u) = if b = true then u else t := by cases b <;> rfl
/-- the model's look at a coin and a person -/
theorem mis_n {M s d : AwM} {b L : Int} {c p : Int} (h : MM M b L s d) : fX9_isCoin SH M 167 c = some (bi (decide (0 ≤ c ∧ c < s 0 1))) ∧ fX9_isPerson SH M 167 p = some (bi (decide (0 ≤ p ∧ p < s 0 0))) := by
  rw [isCoin_n h.mw, isPerson_n h.mw, h.n0, h.n1]
  exact ⟨rfl, rfl⟩
theorem present_b {s d : AwM} {n : Int} {R : Int → AwM} {mi : AwM} {c p : Int} : BSt (fun M => fX8_present SH M 1 c p) (fun M => fX9_present SH M 167 c p) s d n R mi := by
  by_cases ha : ath s c p = true
  · obtain ⟨⟨c0, c1⟩, p0, p1⟩ := ath_t ha
    by_cases hb' : cbp d c p = true
    · refine ⟨bi (tH s d c p), s, pre s d c p, min 20 (n + 1), kpR d R, mi, fun M h => ?_, fun M h => ?_⟩
      · have l := h.lay
        obtain ⟨M1, e1, h1, f1, g1⟩ := keep_n h
        obtain ⟨M2, e2, h2, f2⟩ := presentTo_n h1.cc c0 c1 p0 p1 hb'
        refine ⟨M2, ?_, CR_of h1 f2 h2, hif_tr f1 (cfr_hi (Or.inl rfl) h1.cc.hso f2)⟩
        show fX8_present SH M 1 c p = _
        unfold fX8_present
        rw [kd1, gd_t rfl, ath_n h, pb_1, u1_1, ha, bi_if, if_pos rfl, ly1_4 l, kd153, gd_t rfl, canBe_n h.cc c0 c1 p0, pb_1, u1_1, hb', bi_if, if_pos rfl, ly1_6 l, kd26, gd_t rfl, ly153_0 l, e1, pb_1, u1_1, ly1_4 h1.lay, kd153, gd_t rfl, e2, pb_1, u2_1]
        cases tH s d c p <;> rfl
      · have l := h.lay
        have hp := h.mm.ok.p
        obtain ⟨M1, e1, h1, f1⟩ := mkeep_n h
        obtain ⟨M2, e2, h2, f2⟩ := presents_n h1.mm c0 c1 p0 p1 hb'
        refine ⟨M2, ?_, MR_of h1 f2 h2, lof_tr f1 (mfr_lo f2)⟩
        show fX9_present SH M 167 c p = _
        unfold fX9_present
        rw [kd167, gd_t rfl, (mis_n (p := p) h.mm).1, pb_1, u1_1, bi_if, if_pos (decide_eq_true ⟨c0, c1⟩), (mis_n (c := c) h.mm).2, pb_1, u1_1, bi_if, if_pos (decide_eq_true ⟨p0, p1⟩), canP_n h.mm c0 c1 p0 (by omega), pb_1, u1_1, hb', bi_if, if_pos rfl, e1, pb_1, u1_1, e2, pb_1, u2_1]
        cases tH s d c p <;> rfl
    · refine ⟨-1, s, d, n, R, rfu mi 2, fun M h => ?_, fun M h => ?_⟩
      · have l := h.lay
        obtain ⟨M1, e1, h1, f1⟩ := refC h (k := 2) (by decide) (by decide)
        refine ⟨M1, ?_, h1, f1⟩
        show fX8_present SH M 1 c p = _
        unfold fX8_present
        rw [kd1, gd_t rfl, ath_n h, pb_1, u1_1, ha, bi_if, if_pos rfl, ly1_4 l, kd153, gd_t rfl, canBe_n h.cc c0 c1 p0, pb_1, u1_1, bi_if, if_neg hb', e1, pb_1, u2_1]
      · have l := h.lay
        have hp := h.mm.ok.p
        obtain ⟨M1, e1, h1, f1⟩ := refM h (k := 2) (by decide) (by decide)
        refine ⟨M1, ?_, h1, f1⟩
        show fX9_present SH M 167 c p = _
        unfold fX9_present
        rw [kd167, gd_t rfl, (mis_n (p := p) h.mm).1, pb_1, u1_1, bi_if, if_pos (decide_eq_true ⟨c0, c1⟩), (mis_n (c := c) h.mm).2, pb_1, u1_1, bi_if, if_pos (decide_eq_true ⟨p0, p1⟩), canP_n h.mm c0 c1 p0 (by omega), pb_1, u1_1, bi_if, if_neg hb', e1, pb_1, u2_1]
  · refine ⟨-1, s, d, n, R, rfu mi 2, fun M h => ?_, fun M h => ?_⟩
    · obtain ⟨M1, e1, h1, f1⟩ := refC h (k := 2) (by decide) (by decide)
      refine ⟨M1, ?_, h1, f1⟩
      show fX8_present SH M 1 c p = _
      unfold fX8_present
      rw [kd1, gd_t rfl, ath_n h, pb_1, u1_1, bi_if, if_neg ha, e1, pb_1, u2_1]
    · obtain ⟨M1, e1, h1, f1⟩ := refM h (k := 2) (by decide) (by decide)
      refine ⟨M1, ?_, h1, f1⟩
      show fX9_present SH M 167 c p = _
      unfold fX9_present
      rw [kd167, gd_t rfl, (mis_n (p := p) h.mm).1, pb_1, u1_1, bi_if]
      by_cases hc : 0 ≤ c ∧ c < s 0 1
      · rw [if_pos (decide_eq_true hc), (mis_n (c := c) h.mm).2, pb_1, u1_1, bi_if, if_neg (fun z => ha (by unfold ath; rw [decide_eq_true hc, z]; rfl)), e1, pb_1, u2_1]
      · rw [if_neg (by rw [decide_eq_false hc]; decide), e1, pb_1, u2_1]
theorem pay_b {s d : AwM} {n : Int} {R : Int → AwM} {mi : AwM} {c p : Int} : BSt (fun M => fX8_pay SH M 1 c p) (fun M => fX9_pay SH M 167 c p) s d n R mi := by
  have mJ : ∀ M, MR M s d n R mi → ∃ M', fX9_pay_J39 SH M 167 = some (0, M') ∧ MR M' s d n R (rfu mi 2) ∧ lof M' M := fun M h => by
    obtain ⟨M1, e1, h1, f1⟩ := refM h (k := 2) (by decide) (by decide)
    refine ⟨M1, ?_, h1, f1⟩
    unfold fX9_pay_J39
    rw [kd167, gd_t rfl, e1, pb_1, u2_1, if_pos (by decide)]
  by_cases ha : ath s c p = true
  · obtain ⟨⟨c0, c1⟩, p0, p1⟩ := ath_t ha
    by_cases hh : d 1 c = p
    · refine ⟨0, s, d, n, R, rfu mi 2, fun M h => ?_, fun M h => ?_⟩
      · have l := h.lay
        have hc := h.cc.ok.c
        obtain ⟨M1, e1, h1, f1⟩ := refC h (k := 2) (by decide) (by decide)
        refine ⟨M1, ?_, h1, f1⟩
        show fX8_pay SH M 1 c p = _
        unfold fX8_pay
        rw [kd1, gd_t rfl, ath_n h, pb_1, u1_1, ha, bi_if, if_pos rfl, ly1_4 l, kd153, gd_t rfl, ly153_0 l, kd154, gd_t rfl, ly154_1 l, kd155, ga_t c0 (by omega), show M 155 c = d 1 c from h.cc.ho c0 c1, if_pos hh, e1, pb_1, u2_1]
      · have l := h.lay
        have hc := h.mm.ok.c
        have e2 : M 198 c = d 1 c := by have := h.mm.ho c0 c1; rwa [Int.mul_zero, Int.zero_add] at this
        obtain ⟨M1, e1, h1, f1⟩ := mJ M h
        refine ⟨M1, ?_, h1, f1⟩
        show fX9_pay SH M 167 c p = _
        unfold fX9_pay
        rw [kd167, gd_t rfl, (mis_n (p := p) h.mm).1, pb_1, u1_1, bi_if, if_pos (decide_eq_true ⟨c0, c1⟩), (mis_n (c := c) h.mm).2, pb_1, u1_1, bi_if, if_pos (decide_eq_true ⟨p0, p1⟩), ly167_49 l, kd198, ga_t c0 (by omega), if_pos (e2.trans hh), e1]
    · by_cases hk : hb (d 2 c) p = true
      · refine ⟨1, s, pya d c p, min 20 (n + 1), kpR d R, mi, fun M h => ?_, fun M h => ?_⟩
        · have l := h.lay
          have hc := h.cc.ok.c
          obtain ⟨M1, e1, h1, f1, g1⟩ := keep_n h
          obtain ⟨M2, e2, h2, f2⟩ := payTo_n h1.cc c0 c1 p0 p1 hk
          refine ⟨M2, ?_, CR_of h1 f2 h2, hif_tr f1 (cfr_hi (Or.inl rfl) h1.cc.hso f2)⟩
          show fX8_pay SH M 1 c p = _
          unfold fX8_pay
          rw [kd1, gd_t rfl, ath_n h, pb_1, u1_1, ha, bi_if, if_pos rfl, ly1_4 l, kd153, gd_t rfl, ly153_0 l, kd154, gd_t rfl, ly154_1 l, kd155, ga_t c0 (by omega), show M 155 c = d 1 c from h.cc.ho c0 c1, if_neg hh, knows_n h.cc.cw c0 (by rw [h.cc.n1]; exact c1), pb_1, u1_1, h.cc.kn c0 c1, hz_p p0, hk, bi_if, if_pos rfl, ly1_6 l, kd26, gd_t rfl, e1, pb_1, u1_1, ly1_4 h1.lay, kd153, gd_t rfl, e2, pb_1, u1_1]
        · have l := h.lay
          have hc := h.mm.ok.c
          have hp := h.mm.ok.p
          have e2 : M 198 c = d 1 c := by have := h.mm.ho c0 c1; rwa [Int.mul_zero, Int.zero_add] at this
          have e3 : M 199 c = d 2 c := by have := h.mm.kn c0 c1; rwa [Int.mul_zero, Int.zero_add] at this
          obtain ⟨M1, e1, h1, f1⟩ := mkeep_n h
          obtain ⟨M2, e4, h2, f2⟩ := pays_n h1.mm c0 c1 p0 p1 hk
          refine ⟨M2, ?_, MR_of h1 f2 h2, lof_tr f1 (mfr_lo f2)⟩
          show fX9_pay SH M 167 c p = _
          unfold fX9_pay
          rw [kd167, gd_t rfl, (mis_n (p := p) h.mm).1, pb_1, u1_1, bi_if, if_pos (decide_eq_true ⟨c0, c1⟩), (mis_n (c := c) h.mm).2, pb_1, u1_1, bi_if, if_pos (decide_eq_true ⟨p0, p1⟩), ly167_49 l, kd198, ga_t c0 (by omega), if_neg (fun z => hh (e2.symm.trans z)), ly167_50 l, kd199, ga_t c0 (by omega), e3, has2_n (h.mm.ld.kn c c0 c1) (by omega) p0 (by omega), pb_1, u1_1, hz_p p0, hk, bi_if, if_pos rfl, e1, pb_1, u1_1, e4, pb_1, u1_1]
      · refine ⟨0, s, d, n, R, rfu mi 2, fun M h => ?_, fun M h => ?_⟩
        · have l := h.lay
          have hc := h.cc.ok.c
          obtain ⟨M1, e1, h1, f1⟩ := refC h (k := 2) (by decide) (by decide)
          refine ⟨M1, ?_, h1, f1⟩
          show fX8_pay SH M 1 c p = _
          unfold fX8_pay
          rw [kd1, gd_t rfl, ath_n h, pb_1, u1_1, ha, bi_if, if_pos rfl, ly1_4 l, kd153, gd_t rfl, ly153_0 l, kd154, gd_t rfl, ly154_1 l, kd155, ga_t c0 (by omega), show M 155 c = d 1 c from h.cc.ho c0 c1, if_neg hh, knows_n h.cc.cw c0 (by rw [h.cc.n1]; exact c1), pb_1, u1_1, h.cc.kn c0 c1, hz_p p0, bi_if, if_neg hk, e1, pb_1, u2_1]
        · have l := h.lay
          have hc := h.mm.ok.c
          have hp := h.mm.ok.p
          have e2 : M 198 c = d 1 c := by have := h.mm.ho c0 c1; rwa [Int.mul_zero, Int.zero_add] at this
          have e3 : M 199 c = d 2 c := by have := h.mm.kn c0 c1; rwa [Int.mul_zero, Int.zero_add] at this
          obtain ⟨M1, e1, h1, f1⟩ := mJ M h
          refine ⟨M1, ?_, h1, f1⟩
          show fX9_pay SH M 167 c p = _
          unfold fX9_pay
          rw [kd167, gd_t rfl, (mis_n (p := p) h.mm).1, pb_1, u1_1, bi_if, if_pos (decide_eq_true ⟨c0, c1⟩), (mis_n (c := c) h.mm).2, pb_1, u1_1, bi_if, if_pos (decide_eq_true ⟨p0, p1⟩), ly167_49 l, kd198, ga_t c0 (by omega), if_neg (fun z => hh (e2.symm.trans z)), ly167_50 l, kd199, ga_t c0 (by omega), e3, has2_n (h.mm.ld.kn c c0 c1) (by omega) p0 (by omega), pb_1, u1_1, hz_p p0, bi_if, if_neg hk, e1]
  · refine ⟨0, s, d, n, R, rfu mi 2, fun M h => ?_, fun M h => ?_⟩
    · obtain ⟨M1, e1, h1, f1⟩ := refC h (k := 2) (by decide) (by decide)
      refine ⟨M1, ?_, h1, f1⟩
      show fX8_pay SH M 1 c p = _
      unfold fX8_pay
      rw [kd1, gd_t rfl, ath_n h, pb_1, u1_1, bi_if, if_neg ha, e1, pb_1, u2_1]
    · obtain ⟨M1, e1, h1, f1⟩ := mJ M h
      refine ⟨M1, ?_, h1, f1⟩
      show fX9_pay SH M 167 c p = _
      unfold fX9_pay
      rw [kd167, gd_t rfl, (mis_n (p := p) h.mm).1, pb_1, u1_1, bi_if]
      by_cases hc : 0 ≤ c ∧ c < s 0 1
      · rw [if_pos (decide_eq_true hc), (mis_n (c := c) h.mm).2, pb_1, u1_1, bi_if, if_neg (fun z => ha (by unfold ath; rw [decide_eq_true hc, z]; rfl)), e1]
      · rw [if_neg (by rw [decide_eq_false hc]; decide), e1]
theorem undo_b {s d : AwM} {n : Int} {R : Int → AwM} {mi : AwM} : BSt (fun M => fX8_undo SH M 1) (fun M => fX9_undo SH M 167) s d n R mi := by
  by_cases hn : n = 0
  · refine ⟨0, s, d, n, R, rfu mi 4, fun M h => ?_, fun M h => ?_⟩
    · have l := h.lay
      obtain ⟨M1, e1, h1, f1⟩ := refC h (k := 4) (by decide) (by decide)
      refine ⟨M1, ?_, h1, f1⟩
      show fX8_undo SH M 1 = _
      unfold fX8_undo
      rw [kd1, gd_t rfl, ly1_6 l, kd26, gd_t rfl, if_pos (h.hi.2.1.trans hn), e1, pb_1, u2_1]
    · have l := h.lay
      obtain ⟨M1, e1, h1, f1⟩ := refM h (k := 4) (by decide) (by decide)
      refine ⟨M1, ?_, h1, f1⟩
      show fX9_undo SH M 167 = _
      unfold fX9_undo
      rw [kd167, gd_t rfl, if_pos (h.hi.2.1.trans hn), e1, pb_1, u2_1, if_pos (by decide)]
  · refine ⟨1, s, R 0, n - 1, fun j => R (j + 1), mi, fun M h => ?_, fun M h => ?_⟩
    · have l := h.lay
      have hz := h.hi.2.2.1
      obtain ⟨M1, e1, h1, f1⟩ := give_n h (by omega)
      refine ⟨M1, ?_, h1, f1⟩
      show fX8_undo SH M 1 = _
      unfold fX8_undo
      rw [kd1, gd_t rfl, ly1_6 l, kd26, gd_t rfl, if_neg (fun z => hn (h.hi.2.1.symm.trans z)), ly1_4 l, kd153, gd_t rfl, ly153_0 l, e1, pb_1, u1_1]
    · have l := h.lay
      have ho := h.mm.ok
      obtain ⟨⟨x0, x1⟩, y1, ⟨z0, z1⟩, hR⟩ := h.hi
      have fu : ∀ a i, ¬ (a = 167 ∧ i = 54) → up_ M 167 54 (n - 1) a i = M a i := fun a i x => if_neg x
      have lu : LAY (up_ M 167 54 (n - 1)) := LAY_fq l (fun q hq => fu _ _ (by
        have := of_decide_eq_true (List.all_eq_true.mp lay_hm q hq)
        omega))
      obtain ⟨u1, u2⟩ := hR 0 (by omega) (by omega)
      rw [show n - 1 - 0 = n - 1 by omega] at u2
      have u3 : ML (up_ M 167 54 (n - 1)) (2 + (M 167 53 + (n - 1)) % 20) s (R 0) := ML_fr u2 ho (fu _ _ (by omega)) (fun a i _ _ _ _ => fu _ _ (by omega)) (fun i _ _ => fu _ _ (by omega))
      obtain ⟨M6, e6, f6, g6⟩ := copies_n (A := 0) (B := 2 + (M 167 53 + (n - 1)) % 20) lu ho (by decide) (by decide) (by omega) (by omega) (by omega) u3
      have l6 : LAY M6 := LAY_mf lu (mly_mf f6)
      have fM : ∀ a i, ¬ (a = 167 ∧ i = 54) → ¬ (a = 197 ∧ i = 0) → ¬ (198 ≤ a ∧ a ≤ 200 ∧ 12 * 0 ≤ i ∧ i < 12 * 0 + 12) → ¬ (a = 201 ∧ 120 * 0 ≤ i ∧ i < 120 * 0 + 120) → M6 a i = M a i := fun a i x1 x2 x3 x4 => (f6 a i x2 x3 x4).trans (fu a i x1)
      refine ⟨M6, ?_, ⟨?_, ⟨?_, ?_, by omega, ?_⟩, h.mk, MMi_fr h.mi (fun i _ => fM _ _ (by omega) (by omega) (by omega) (by omega)) (fun i => fM _ _ (by omega) (by omega) (by omega) (by omega)) (fun i => fM _ _ (by omega) (by omega) (by omega) (by omega)) (fun i => fM _ _ (by omega) (by omega) (by omega) (by omega)) (fun i => fM _ _ (by omega) (by omega) (by omega) (by omega))⟩, fun a i x => fM _ _ (by omega) (by omega) (by omega) (by omega)⟩
      · show fX9_undo SH M 167 = _
        unfold fX9_undo
        rw [kd167, gd_t rfl, y1, if_neg hn, w32_s (by omega) (by omega), bd_1, up_at, ring_n (up_oi (by decide)) x0 x1 (by omega) (by omega), pb_1, u1_1, e6, pb_1, u1_1]
      · have e3 : M6 167 13 = M 167 13 := fM _ _ (by omega) (by omega) (by omega) (by omega)
        rw [e3]
        exact ⟨l6, e3, h.mm.b01, h.mm.l21, ho, u1, MS_fr h.mm.ms (fun a i _ _ => fM a i (by omega) (by omega) (by omega) (by omega)), g6⟩
      · rw [fM _ _ (by omega) (by omega) (by omega) (by omega)]; omega
      · rw [f6 _ _ (by omega) (by omega) (by omega)]; exact up_at
      · intro j j0 j1
        obtain ⟨v1, v2⟩ := hR (j + 1) (by omega) (by omega)
        refine ⟨v1, ?_⟩
        rw [fM 167 53 (by omega) (by omega) (by omega) (by omega), show n - 1 - 1 - j = n - 1 - (j + 1) by omega]
        exact ML_fr v2 ho (fM _ _ (by omega) (by omega) (by omega) (by omega)) (fun a i _ _ _ _ => fM _ _ (by omega) (by omega) (by omega) (by omega)) (fun i _ _ => fM _ _ (by omega) (by omega) (by omega) (by omega))
end PACTS
