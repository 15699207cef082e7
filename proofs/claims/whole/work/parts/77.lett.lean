/-! letters alike -/
section PLETT
/-- what CR asks of the class's memory beside misc -/
def fg (M' M : AwM) : Prop := ∀ a i : Int, (a = 1 → i = 3) → a ≠ 2 → (a = 3 → i ≤ 2) → ¬ (134 ≤ a ∧ a ≤ 136) → ¬ (a = 4 ∨ (6 ≤ a ∧ a ≤ 9)) → ¬ (128 ≤ a ∧ a ≤ 133) → ¬ (a = 22 ∨ a = 25 ∨ a = 149 ∨ a = 152 ∨ a = 159) → ¬ (161 ≤ a ∧ a ≤ 166) → M' a i = M a i
theorem CR_g {M M' s d : AwM} {n : Int} {R : Int → AwM} {mi mi' : AwM} (h : CR M s d n R mi) (hl : LAY M') (hf : fg M' M) (hm : MiOK mi') (hc : CMi M' mi') : CR M' s d n R mi' := by
  have hso := h.cc.hso
  have e3 : M' 1 3 = M 1 3 := hf _ _ (by omega) (by omega) (by omega) (by omega) (by omega) (by omega) (by omega) (by omega)
  refine ⟨?_, ?_, ?_, own_fr h.ow (fun i => hf _ _ (by omega) (by omega) (by omega) (by omega) (by omega) (by omega) (by omega) (by omega)), CHi_fr h.hi (fun i _ => hf _ _ (by omega) (by omega) (by omega) (by omega) (by omega) (by omega) (by omega) (by omega)) (fun a i _ _ => hf _ _ (by omega) (by omega) (by omega) (by omega) (by omega) (by omega) (by omega) (by omega)), hm, hc⟩
  · rw [e3]; exact CC_fr h.cc hl (hf _ _ (by omega) (by omega) (by omega) (by omega) (by omega) (by omega) (by omega) (by omega)) (fun a i _ _ _ => hf a i (by omega) (by omega) (by omega) (by omega) (by omega) (by omega) (by omega) (by omega)) (fun a i _ _ => hf a i (by omega) (by omega) (by omega) (by omega) (by omega) (by omega) (by omega) (by omega))
  · rw [e3, hf _ _ (by omega) (by omega) (by omega) (by omega) (by omega) (by omega) (by omega) (by omega)]; exact h.tr
  · rw [e3, hf _ _ (by omega) (by omega) (by omega) (by omega) (by omega) (by omega) (by omega) (by omega)]; exact h.dr
/-- what MR asks of the model's memory beside misc -/
def fgm (M' M : AwM) : Prop := ∀ a i : Int, (a = 167 → i = 13 ∨ i = 53 ∨ i = 54) → a ≠ 168 → a ≠ 196 → ¬ (202 ≤ a) → ¬ (a = 197 ∧ i = 1) → ¬ (198 ≤ a ∧ a ≤ 200 ∧ 12 ≤ i ∧ i < 24) → ¬ (a = 201 ∧ 120 ≤ i ∧ i < 240) → M' a i = M a i
theorem MR_g {M M' s d : AwM} {n : Int} {R : Int → AwM} {mi mi' : AwM} (h : MR M s d n R mi) (hl : LAY M') (hf : fgm M' M) (hm : MiOK mi') (hc : MMi M' mi') : MR M' s d n R mi' := by
  have e3 : M' 167 13 = M 167 13 := hf _ _ (by omega) (by omega) (by omega) (by omega) (by omega) (by omega) (by omega)
  refine ⟨?_, MHi_fr h.hi h.mm.ok (hf _ _ (by omega) (by omega) (by omega) (by omega) (by omega) (by omega) (by omega)) (hf _ _ (by omega) (by omega) (by omega) (by omega) (by omega) (by omega) (by omega)) (fun i _ => hf _ _ (by omega) (by omega) (by omega) (by omega) (by omega) (by omega) (by omega)) (fun a i _ _ _ => hf _ _ (by omega) (by omega) (by omega) (by omega) (by omega) (by omega) (by omega)) (fun i _ => hf _ _ (by omega) (by omega) (by omega) (by omega) (by omega) (by omega) (by omega)), hm, hc⟩
  rw [e3]
  exact ⟨hl, e3, h.mm.b01, h.mm.l21, h.mm.ok, h.mm.ld, MS_fr h.mm.ms (fun a i _ _ => hf a i (by omega) (by omega) (by omega) (by omega) (by omega) (by omega) (by omega)), ML_fr h.mm.ml h.mm.ok (hf _ _ (by omega) (by omega) (by omega) (by omega) (by omega) (by omega) (by omega)) (fun a i _ _ _ _ => hf a i (by omega) (by omega) (by omega) (by omega) (by omega) (by omega) (by omega)) (fun i _ _ => hf _ _ (by omega) (by omega) (by omega) (by omega) (by omega) (by omega) (by omega))⟩
theorem an8 {b : Int} (b0 : 0 ≤ b) (b1 : b ≤ 255) : an_ (w8_ b) 255 = b := by
  rw [an255 (w8_in b)]
  unfold w8_
  omega
theorem tapeB_n {M mi : AwM} {L k : Int} (e0 : M 1 0 = 2) (hT : cTp M mi L) (hL : L ≤ 1600) (k0 : 0 ≤ k) (k1 : k < L) : fX8_tapeByte SH M 1 k = some (mi 14 k) := by
  obtain ⟨t1, t2, t3⟩ := hT k k0 k1
  unfold fX8_tapeByte
  rw [if_neg (by omega), if_pos (by omega), kd1, gd_t rfl, e0, kd2, ga_t k0 (by omega), t1, an8 t2 t3]
def okL (s mi : AwM) (L : Int) : Bool := decide (2 ≤ L ∧ L ≤ 40 ∧ L % 2 = 0) && allB (fun k => ath s (mi 14 (2 * k)) (mi 14 (2 * k + 1))) (L / 2).toNat
theorem allB_f {P : Int → Bool} {n : Nat} {k : Int} (k0 : 0 ≤ k) (k1 : k < n) (h : P k = false) : allB P n = false := by
  cases g : allB P n
  · rfl
  · rw [allB_iff.mp g k k0 k1] at h; cases h
theorem tellsL_n {M s d mi : AwM} {L : Int} {so : Int} (h : CC M 153 so s d) (h3 : M 1 3 = so) (hT : cTp M mi L) (L0 : 0 ≤ L) (L1 : L ≤ 1600) : fX8_tellsLetters SH M 1 L = some (bi (okL s mi L)) := by
  unfold fX8_tellsLetters okL
  by_cases a : L < 2
  · rw [if_pos a, decide_eq_false (by omega)]; rfl
  rw [if_neg a]
  by_cases b : 40 < L
  · rw [if_pos b, decide_eq_false (by omega)]; rfl
  rw [if_neg b, Int.tmod_eq_emod_of_nonneg L0]
  by_cases c : L % 2 = 0
  · rw [if_pos c, decide_eq_true (⟨by omega, by omega, c⟩ : 2 ≤ L ∧ L ≤ 40 ∧ L % 2 = 0), Bool.true_and]
    have key := lp_rel (body := u1 (fX8_tellsLetters_L21 SH M 1 L)) (P := fun j (t : Int) => t = 2 * (j : Int) ∧ ∀ k : Int, 0 ≤ k → k < j → ath s (mi 14 (2 * k)) (mi 14 (2 * k + 1)) = true) (X := fun r => (r = .inl () ∧ allB (fun k => ath s (mi 14 (2 * k)) (mi 14 (2 * k + 1))) (L / 2).toNat = true) ∨ (r = .inr () ∧ allB (fun k => ath s (mi 14 (2 * k)) (mi 14 (2 * k + 1))) (L / 2).toNat = false)) (n := (L / 2).toNat) ?_ FU 0 (FU_gt (by omega)) ⟨rfl, fun k x y => absurd x (by omega)⟩
    · obtain ⟨r, e, hr⟩ := key
      rw [e, pb_1]
      rcases hr with ⟨rfl, hr⟩ | ⟨rfl, hr⟩
      · rw [hr]; rfl
      · rw [hr]; rfl
    · rintro j t hj ⟨rfl, hk⟩
      by_cases hjn : j < (L / 2).toNat
      · have e0 := ly1_0 h.lay
        have ea : fX8_areThere SH M 1 (mi 14 (2 * j)) (mi 14 (2 * j + 1)) = some (bi (ath s (mi 14 (2 * j)) (mi 14 (2 * j + 1)))) := by
          rw [areThere_n h.cw h3, h.n0, h.n1]; rfl
        rw [u1_1]
        unfold fX8_tellsLetters_L21
        rw [if_pos (by omega), kd1, gd_t rfl, tapeB_n e0 hT L1 (by omega) (by omega), pb_1, u1_1, w32_s (v := 2 * (j : Int) + 1) (by omega) (by omega), tapeB_n e0 hT L1 (by omega) (by omega), pb_1, u1_1, ea, pb_1, u1_1, bi_if, w32_s (v := 2 * (j : Int) + 2) (by omega) (by omega)]
        by_cases g : ath s (mi 14 (2 * j)) (mi 14 (2 * j + 1)) = true
        · rw [if_pos g]
          refine Or.inl ⟨hjn, _, rfl, by simp; omega, fun k k0 k1 => ?_⟩
          by_cases z : k = j
          · rw [z]; exact g
          · exact hk k k0 (by omega)
        · rw [if_neg g]
          exact Or.inr ⟨_, rfl, Or.inr ⟨rfl, allB_f (k := (j : Int)) (by omega) (by omega) (Bool.eq_false_iff.mpr g)⟩⟩
      · refine Or.inr ⟨_, by rw [u1_1]; unfold fX8_tellsLetters_L21; rw [if_neg (by omega)], Or.inl ⟨rfl, ?_⟩⟩
        exact allB_iff.mpr (fun k k0 k1 => hk k k0 (by omega))
  · rw [if_neg c, decide_eq_false (by omega)]; rfl
theorem okLM_n {M s d mi : AwM} {L b f : Int} (h : MM M b 0 s d) (hT : mTp M mi L) (L0 : 0 ≤ L) (L1 : L ≤ 1600) (hf : f = bi (decide (2 ≤ L ∧ L ≤ 40 ∧ L % 2 = 0))) : lp (u2 (fX9_letters_L34 SH M 167 L)) FU (f, 0) = some (bi (okL s mi L)) := by
  have l := h.lay
  by_cases c : 2 ≤ L ∧ L ≤ 40 ∧ L % 2 = 0
  · unfold okL
    rw [hf, decide_eq_true c, Bool.true_and]
    have key := lp_rel (body := u2 (fX9_letters_L34 SH M 167 L)) (P := fun j (t : Int × Int) => t.2 = 2 * (j : Int) ∧ ((t.1 = 1 ∧ ∀ k : Int, 0 ≤ k → k < j → ath s (mi 14 (2 * k)) (mi 14 (2 * k + 1)) = true) ∨ (t.1 = 0 ∧ allB (fun k => ath s (mi 14 (2 * k)) (mi 14 (2 * k + 1))) (L / 2).toNat = false))) (X := fun r => r = bi (allB (fun k => ath s (mi 14 (2 * k)) (mi 14 (2 * k + 1))) (L / 2).toNat)) (n := (L / 2).toNat) ?_ FU (1, 0) (FU_gt (by omega)) ⟨rfl, Or.inl ⟨rfl, fun k x y => absurd x (by omega)⟩⟩
    · obtain ⟨r, e, hr⟩ := key
      rw [show bi true = 1 from rfl, e, hr]
    · rintro j ⟨f, t⟩ hj ⟨ht, hk⟩
      change t = 2 * (j : Int) at ht
      subst ht
      rcases hk with ⟨hf1, hk⟩ | ⟨hf0, hk⟩
      · change f = 1 at hf1
        subst hf1
        by_cases hjn : j < (L / 2).toNat
        · rw [u2_1]
          unfold fX9_letters_L34
          rw [if_pos (by omega), if_neg (by decide), kd167, gd_t rfl, ly167_0 l, kd168, ga_t (by omega) (by omega), hT _ (by omega) (by omega), (mis_n (p := 0) h).1, pb_1, u1_1, bi_if, w32_s (v := 2 * (j : Int) + 2) (by omega) (by omega), w32_s (v := 2 * (j : Int) + 1) (by omega) (by omega), ga_t (by omega) (by omega), hT _ (by omega) (by omega), (mis_n (c := 0) h).2, pb_1, u1_1, bi_if]
          have fin : ∀ g : Bool, g = ath s (mi 14 (2 * j)) (mi 14 (2 * j + 1)) → (j < (L / 2).toNat ∧ ∃ s', (some (.inl (bi g, 2 * (j : Int) + 2)) : Option ((Int × Int) ⊕ Int)) = some (.inl s') ∧ s'.2 = 2 * ((j + 1 : Nat) : Int) ∧ ((s'.1 = 1 ∧ ∀ k : Int, 0 ≤ k → k < ((j + 1 : Nat) : Int) → ath s (mi 14 (2 * k)) (mi 14 (2 * k + 1)) = true) ∨ (s'.1 = 0 ∧ allB (fun k => ath s (mi 14 (2 * k)) (mi 14 (2 * k + 1))) (L / 2).toNat = false))) := fun g hg => by
            refine ⟨hjn, _, rfl, by simp; omega, ?_⟩
            cases g with
            | true =>
              refine Or.inl ⟨rfl, fun k k0 k1 => ?_⟩
              by_cases z : k = j
              · rw [z]; exact hg.symm
              · exact hk k k0 (by omega)
            | false => exact Or.inr ⟨rfl, allB_f (k := (j : Int)) (by omega) (by omega) hg.symm⟩
          by_cases x : 0 ≤ mi 14 (2 * j) ∧ mi 14 (2 * j) < s 0 1
          · rw [if_pos (decide_eq_true x)]
            by_cases y : 0 ≤ mi 14 (2 * j + 1) ∧ mi 14 (2 * j + 1) < s 0 0
            · rw [if_pos (decide_eq_true y)]
              exact Or.inl (fin true (by unfold ath; rw [decide_eq_true x, decide_eq_true y]; rfl))
            · rw [if_neg (by rw [decide_eq_false y]; decide)]
              exact Or.inl (fin false (by unfold ath; rw [decide_eq_false y]; simp))
          · rw [if_neg (by rw [decide_eq_false x]; decide)]
            exact Or.inl (fin false (by unfold ath; rw [decide_eq_false x]; simp))
        · refine Or.inr ⟨1, by rw [u2_1]; unfold fX9_letters_L34; rw [if_neg (by omega)], ?_⟩
          rw [allB_iff.mpr (fun k k0 k1 => hk k k0 (by omega))]; rfl
      · change f = 0 at hf0
        subst hf0
        refine Or.inr ⟨0, ?_, by rw [hk]; rfl⟩
        rw [u2_1]
        unfold fX9_letters_L34
        by_cases z : 2 * (j : Int) < L
        · rw [if_pos z, if_pos rfl]
        · rw [if_neg z]
  · unfold okL
    rw [hf, decide_eq_false c, Bool.false_and]
    refine lp_st (n := 99999) ?_
    rw [u2_1]
    unfold fX9_letters_L34
    by_cases z : 0 < L
    · rw [if_pos z, if_pos (show bi false = 0 from rfl)]
    · rw [if_neg z]
def lvd (s d : AwM) (c p : Int) : Int := if hb (d 2 c) p = true then 1 else if hb (d 3 c) p = true then 2 else if tH s d c p = true then 0 else 3
theorem lvd_n {M : AwM} {cr so : Int} {s d : AwM} (h : CC M cr so s d) {c p : Int} (c0 : 0 ≤ c) (c1 : c < s 0 1) (p0 : 0 ≤ p) (p1 : p < s 0 0) : ∃ M', fX0_letterVerdict SH M cr c p = some (lvd s d c p, M') ∧ csc cr so M' M := by
  have hc := h.ok.c
  have hp := h.ok.p
  unfold fX0_letterVerdict lvd
  rw [kcr0 h.hcr, gd_t rfl, knows_n h.cw c0 (by rw [h.n1]; exact c1), pb_1, u1_1, h.kn c0 c1, hz_p p0, bi_if]
  by_cases a : hb (d 2 c) p = true
  · rw [if_pos a, if_pos a]; exact ⟨M, rfl, csc_rf⟩
  rw [if_neg a, if_neg a, lcr0_0 h.lay h.hcr, kcr1 h.hcr, gd_t rfl, lcr1_3 h.lay h.hcr, kcr4 h.hcr, ga_t c0 (by omega), h.sn c0 c1, isIn_n (h.ld.sn c c0 c1) (by omega), pb_1, u1_1, hz_p p0, bi_if]
  by_cases b : hb (d 3 c) p = true
  · rw [if_pos b, if_pos b]; exact ⟨M, rfl, csc_rf⟩
  obtain ⟨M1, e1, f1⟩ := testHolds_n h c0 c1 p0 p1
  rw [if_neg b, if_neg b, e1, pb_1, u2_1, bi_if]
  by_cases t : tH s d c p = true
  · rw [if_pos t, if_pos t]; exact ⟨M1, rfl, f1⟩
  · rw [if_neg t, if_neg t]; exact ⟨M1, rfl, f1⟩
/-- how many of the first ones are false -/
def lwr (g : Int → Int) (n : Nat) : Int := accS (fun k => if g k = 0 then 0 else 1) n
theorem lwr_b (g : Int → Int) (n : Nat) : 0 ≤ lwr g n ∧ lwr g n ≤ n := by
  have := accS_b (f := fun k => if g k = 0 then (0 : Int) else 1) (lo := 0) (hi := 1) n (fun c _ _ => by
    by_cases z : g c = 0
    · simp only [if_pos z]; omega
    · simp only [if_neg z]; omega)
  unfold lwr
  omega
theorem lwr_s (g : Int → Int) (n : Nat) : lwr g (n + 1) = lwr g n + (if g n = 0 then 0 else 1) := rfl
def lvA (s d mi : AwM) (k : Int) : Int := lvd s d (mi 14 (2 * k)) (mi 14 (2 * k + 1))
/-- misc behind letters that are told -/
def ltA (mi : AwM) (g : Int → Int) (K : Int) : AwM := fun x i => if x = 14 ∧ i = -1 then 0 else if x = 16 then (if i = -1 then K else g i) else mi x i
theorem MiOK_lt {mi : AwM} {g : Int → Int} {K : Int} (h : MiOK mi) (K0 : 0 ≤ K) (K1 : K ≤ 20) : MiOK (ltA mi g K) := by
  obtain ⟨h1, h2, h3, h4, h5⟩ := h
  have e : ∀ x i, x ≠ 14 → x ≠ 16 → ltA mi g K x i = mi x i := fun x i a b => by unfold ltA; rw [if_neg (by omega), if_neg b]
  refine ⟨⟨?_, ?_⟩, ?_, ⟨?_, ?_⟩, ?_, ?_⟩
  · show (0 : Int) ≤ 0; omega
  · show (0 : Int) ≤ 1600; omega
  · intro i i0 i1
    change i < 0 at i1
    omega
  · show 0 ≤ K; exact K0
  · show K ≤ 20; exact K1
  · rw [e _ _ (by decide) (by decide)]; exact h4
  · rw [e _ _ (by decide) (by decide)]; exact h5
theorem letters_b {s d : AwM} {n : Int} {R : Int → AwM} {mi : AwM} : BSt (fun M => fX8_letters SH M 1) (fun M => fX9_letters SH M 167) s d n R mi := by
  by_cases hk : okL s mi (mi 14 (-1)) = true
  · have hk' := hk
    unfold okL at hk'
    rw [Bool.and_eq_true, decide_eq_true_iff, allB_iff] at hk'
    obtain ⟨⟨L0, L1, L2⟩, hall⟩ := hk'
    refine ⟨lwr (lvA s d mi) (mi 14 (-1) / 2).toNat, s, d, n, R, ltA mi (lvA s d mi) (mi 14 (-1) / 2), fun M h => ?_, fun M h => ?_⟩
    · have l := h.lay
      have hso := h.cc.hso
      have hT : cTp M mi (mi 14 (-1)) := fun i i0 i1 => ⟨h.mi.2.1 i i0 i1, h.mk.2.1 i i0 i1⟩
      have hlen := h.mi.1
      have hL := h.mk.1
      have l2 : LAY (up_ M 1 1 0) := LAY_up l (by decide +kernel)
      have c2 : CC (up_ M 1 1 0) 153 (M 1 3) s d := CC_fr h.cc l2 (up_of (by decide)) (fun a i _ _ _ => up_of (by omega)) (fun a i _ _ => up_of (by omega))
      have T2 : cTp (up_ M 1 1 0) mi (mi 14 (-1)) := fun i i0 i1 => by rw [up_of (by decide)]; exact hT i i0 i1
      generalize hLe : mi 14 (-1) = L at *
      have l7 : LAY (up_ (up_ M 1 1 0) 1 10 (L / 2)) := LAY_up l2 (by decide +kernel)
      have key := lp_rel (body := u3 (fX8_letters_L35 SH 1)) (P := fun j (t : Int × Int × AwM) => t.2.1 = (j : Int) ∧ t.1 = lwr (lvA s d mi) j ∧ (∀ a i, a ≠ 159 → a ≠ M 1 3 + 12 → a ≠ M 1 3 + 15 → a ≠ 135 → t.2.2 a i = up_ (up_ M 1 1 0) 1 10 (L / 2) a i) ∧ ∀ k : Int, 0 ≤ k → k < j → t.2.2 135 k = lvA s d mi k) (X := fun r : Int × AwM => r.1 = lwr (lvA s d mi) (L / 2).toNat ∧ (∀ a i, a ≠ 159 → a ≠ M 1 3 + 12 → a ≠ M 1 3 + 15 → a ≠ 135 → r.2 a i = up_ (up_ M 1 1 0) 1 10 (L / 2) a i) ∧ ∀ k : Int, 0 ≤ k → k < L / 2 → r.2 135 k = lvA s d mi k) (n := (L / 2).toNat) ?_ FU (0, 0, up_ (up_ M 1 1 0) 1 10 (L / 2)) (FU_gt (by omega)) ⟨rfl, rfl, fun _ _ _ _ _ _ => rfl, fun k x y => absurd x (by omega)⟩
      · obtain ⟨⟨r, M2⟩, e2, e3, f2, g2⟩ := key
        change r = _ at e3
        subst e3
        change ∀ a i, a ≠ 159 → a ≠ M 1 3 + 12 → a ≠ M 1 3 + 15 → a ≠ 135 → M2 a i = up_ (up_ M 1 1 0) 1 10 (L / 2) a i at f2
        change ∀ k : Int, 0 ≤ k → k < L / 2 → M2 135 k = lvA s d mi k at g2
        have fM : ∀ a i, a ≠ 159 → a ≠ M 1 3 + 12 → a ≠ M 1 3 + 15 → a ≠ 135 → ¬ (a = 1 ∧ (i = 1 ∨ i = 10)) → M2 a i = M a i := fun a i x1 x2 x3 x4 x5 => by
          rw [f2 a i x1 x2 x3 x4]
          exact (if_neg (by omega)).trans (if_neg (by omega))
        have hl2 : LAY M2 := LAY_fq l7 (fun q hq => by
          have h0 := of_decide_eq_true (List.all_eq_true.mp (lay_cf (Or.inl rfl) hso) q hq)
          have h1 : layT.all (fun q => decide (q.1 ≠ 135)) = true := by decide +kernel
          exact f2 _ _ (by omega) h0.2.1 h0.2.2.1 (of_decide_eq_true (List.all_eq_true.mp h1 q hq)))
        refine ⟨M2, ?_, CR_g h hl2 (fun a i x1 x2 x3 x4 x5 x6 x7 x8 => fM a i (by omega) (by omega) (by omega) (by omega) (by omega)) (MiOK_lt h.mk (by omega) (by omega)) ?_, fun a i x => fM a i (by omega) (by omega) (by omega) (by omega) (by omega)⟩
        · show fX8_letters SH M 1 = _
          unfold fX8_letters
          rw [kd1, gd_t rfl, hlen, bd_1, tellsL_n c2 (up_oi (by decide)) T2 hL.1 hL.2, pb_1, u1_1, hk, bi_if, if_pos rfl, Int.tdiv_eq_ediv_of_nonneg hL.1, w32_s (by omega) (by omega), bd_1, e2, pb_1, u2_1]
        · obtain ⟨a1, a2, a3, a4, a5, a6, a7, a8, a9, a10⟩ := h.mi
          have m : ∀ x i, x ≠ 14 → x ≠ 16 → ltA mi (lvA s d mi) (L / 2) x i = mi x i := fun x i a b => by unfold ltA; rw [if_neg (by omega), if_neg b]
          refine ⟨?_, fun i i0 i1 => ?_, ?_, ?_, ?_, fun i i0 i1 => ?_, ?_, fun i i0 i1 => ?_, ?_, fun i i0 i1 => ?_⟩
          · rw [f2 _ _ (by omega) (by omega) (by omega) (by omega), up_oi (by decide), up_at]; rfl
          · change i < 0 at i1; omega
          · rw [m _ _ (by decide) (by decide), fM _ _ (by omega) (by omega) (by omega) (by omega) (by omega)]; exact a3
          · rw [m _ _ (by decide) (by decide), fM _ _ (by omega) (by omega) (by omega) (by omega) (by omega)]; exact a4
          · rw [f2 _ _ (by omega) (by omega) (by omega) (by omega), up_at]; rfl
          · change i < L / 2 at i1
            rw [g2 i i0 i1]
            show _ = if (16 : Int) = 14 ∧ i = -1 then 0 else if (16 : Int) = 16 then (if i = -1 then L / 2 else lvA s d mi i) else mi 16 i
            rw [if_neg (by omega), if_pos rfl, if_neg (by omega)]
          · rw [m _ _ (by decide) (by decide), fM _ _ (by omega) (by omega) (by omega) (by omega) (by omega)]; exact a7
          · rw [m _ _ (by decide) (by decide)] at i1 ⊢
            rw [fM _ _ (by omega) (by omega) (by omega) (by omega) (by omega)]; exact a8 i i0 i1
          · rw [m _ _ (by decide) (by decide), fM _ _ (by omega) (by omega) (by omega) (by omega) (by omega)]; exact a9
          · rw [m _ _ (by decide) (by decide), fM _ _ (by omega) (by omega) (by omega) (by omega) (by omega)]; exact a10 i i0 i1
      · rintro j ⟨v, i, M3⟩ hj ⟨hi, hv, f3, g3⟩
        change i = (j : Int) at hi
        change v = _ at hv
        change ∀ a i, a ≠ 159 → a ≠ M 1 3 + 12 → a ≠ M 1 3 + 15 → a ≠ 135 → M3 a i = up_ (up_ M 1 1 0) 1 10 (L / 2) a i at f3
        change ∀ k : Int, 0 ≤ k → k < j → M3 135 k = lvA s d mi k at g3
        subst hi
        subst hv
        have fM : ∀ a i, a ≠ 159 → a ≠ M 1 3 + 12 → a ≠ M 1 3 + 15 → a ≠ 135 → ¬ (a = 1 ∧ (i = 1 ∨ i = 10)) → M3 a i = M a i := fun a i x1 x2 x3 x4 x5 => by
          rw [f3 a i x1 x2 x3 x4]
          exact (if_neg (by omega)).trans (if_neg (by omega))
        have l3 : LAY M3 := LAY_fq l7 (fun q hq => by
          have h0 := of_decide_eq_true (List.all_eq_true.mp (lay_cf (Or.inl rfl) hso) q hq)
          have h1 : layT.all (fun q => decide (q.1 ≠ 135)) = true := by decide +kernel
          exact f3 _ _ (by omega) h0.2.1 h0.2.2.1 (of_decide_eq_true (List.all_eq_true.mp h1 q hq)))
        have c3 : CC M3 153 (M 1 3) s d := CC_fr h.cc l3 (fM _ _ (by omega) (by omega) (by omega) (by omega) (by omega)) (fun a i _ _ _ => fM a i (by omega) (by omega) (by omega) (by omega) (by omega)) (fun a i _ _ => fM a i (by omega) (by omega) (by omega) (by omega) (by omega))
        have T3 : cTp M3 mi L := fun i i0 i1 => by rw [fM _ _ (by omega) (by omega) (by omega) (by omega) (by omega)]; exact hT i i0 i1
        have e10 : M3 1 10 = L / 2 := by rw [f3 _ _ (by omega) (by omega) (by omega) (by omega), up_at]
        have bb := lwr_b (lvA s d mi) j
        by_cases hjn : j < (L / 2).toNat
        · have ha := hall (j : Int) (by omega) (by omega)
          obtain ⟨⟨p0, p1⟩, q0, q1⟩ := ath_t ha
          obtain ⟨M4, e4, f4⟩ := lvd_n c3 p0 p1 q0 q1
          have e5 : up_ M4 135 (j : Int) (lvA s d mi j) 1 9 = 135 := by rw [up_of (by decide), f4 _ _ (by omega) (by omega) (by omega)]; exact ly1_9 l3
          refine Or.inl ⟨hjn, ?_⟩
          rw [u3_1]
          unfold fX8_letters_L35
          rw [kd1, gd_t rfl, e10, if_pos (by omega), if_pos (by omega), w32_s (v := 2 * (j : Int)) (by omega) (by omega), w32_s (v := 2 * (j : Int) + 1) (by omega) (by omega), tapeB_n (ly1_0 l3) T3 hL.2 (by omega) (by omega), pb_1, u1_1, tapeB_n (ly1_0 l3) T3 hL.2 (by omega) (by omega), pb_1, u1_1, ly1_4 l3, kd153, gd_t rfl, e4, pb_1, u2_1, ly1_9 l3, kd135, ga_t (by omega) (by omega), bd_1, show lvd s d (mi 14 (2 * (j : Int))) (mi 14 (2 * (j : Int) + 1)) = lvA s d mi j from rfl, e5, kd135, ga_t (by omega) (by omega), up_at, w32_s (v := (j : Int) + 1) (by omega) (by omega), w32_s (v := lwr (lvA s d mi) j + 1) (by omega) (by omega)]
          have ff : ∀ a i, a ≠ 159 → a ≠ M 1 3 + 12 → a ≠ M 1 3 + 15 → a ≠ 135 → up_ M4 135 (j : Int) (lvA s d mi j) a i = up_ (up_ M 1 1 0) 1 10 (L / 2) a i := fun a i x1 x2 x3 x4 => by
            rw [up_of x4, f4 a i (by omega) x2 x3, f3 a i x1 x2 x3 x4]
          have gg : ∀ k : Int, 0 ≤ k → k < ((j + 1 : Nat) : Int) → up_ M4 135 (j : Int) (lvA s d mi j) 135 k = lvA s d mi k := fun k k0 k1 => by
            by_cases z : k = j
            · rw [z, up_at]
            · rw [up_oi z, f4 _ _ (by omega) (by omega) (by omega)]; exact g3 k k0 (by omega)
          by_cases z : lvA s d mi j = 0
          · rw [if_pos z]
            exact ⟨_, rfl, by simp, by rw [lwr_s, if_pos z, Int.add_zero], ff, gg⟩
          · rw [if_neg z]
            exact ⟨_, rfl, by simp, by rw [lwr_s, if_neg z], ff, gg⟩
        · have ej : (L / 2).toNat = j := by omega
          refine Or.inr ⟨(lwr (lvA s d mi) j, M3), ?_, by rw [ej], f3, fun k k0 k1 => g3 k k0 (by omega)⟩
          rw [u3_1]
          unfold fX8_letters_L35
          rw [kd1, gd_t rfl, e10, if_neg (by omega)]
    · have l := h.lay
      have hT : mTp M mi (mi 14 (-1)) := h.mi.2.1
      have hlen := h.mi.1
      have hL := h.mk.1
      have hbb := h.mm.b01
      have hcc := h.mm.ok.c
      have hpp := h.mm.ok.p
      have l2 : LAY (up_ M 167 1 0) := LAY_up l (by decide +kernel)
      have c2 : MM (up_ M 167 1 0) (M 167 13) 0 s d := MM_fr h.mm l2 (up_oi (by decide)) (fun a i _ _ => up_of (by omega)) (fun a i _ _ => up_of (by omega))
      have T2 : mTp (up_ M 167 1 0) mi (mi 14 (-1)) := fun i i0 i1 => by rw [up_of (by decide)]; exact hT i i0 i1
      generalize hLe : mi 14 (-1) = L at *
      have okn := okLM_n (f := 1) c2 T2 hL.1 hL.2 (by rw [decide_eq_true (⟨L0, L1, L2⟩ : 2 ≤ L ∧ L ≤ 40 ∧ L % 2 = 0)]; rfl)
      have l7 : LAY (up_ (up_ M 167 1 0) 167 67 (L / 2)) := LAY_up l2 (by decide +kernel)
      have key := lp_rel (body := u3 (fX9_letters_L105 SH 167)) (P := fun j (t : Int × Int × AwM) => t.2.1 = (j : Int) ∧ t.1 = lwr (lvA s d mi) j ∧ (∀ a i, a ≠ 202 → ¬ (a = 167 ∧ 57 ≤ i ∧ i ≤ 62) → a ≠ 206 → t.2.2 a i = up_ (up_ M 167 1 0) 167 67 (L / 2) a i) ∧ ∀ k : Int, 0 ≤ k → k < j → t.2.2 206 k = lvA s d mi k) (X := fun r : Int × AwM => r.1 = lwr (lvA s d mi) (L / 2).toNat ∧ (∀ a i, a ≠ 202 → ¬ (a = 167 ∧ 57 ≤ i ∧ i ≤ 62) → a ≠ 206 → r.2 a i = up_ (up_ M 167 1 0) 167 67 (L / 2) a i) ∧ ∀ k : Int, 0 ≤ k → k < L / 2 → r.2 206 k = lvA s d mi k) (n := (L / 2).toNat) ?_ FU (0, 0, up_ (up_ M 167 1 0) 167 67 (L / 2)) (FU_gt (by omega)) ⟨rfl, rfl, fun _ _ _ _ _ => rfl, fun k x y => absurd x (by omega)⟩
      · obtain ⟨⟨r, M2⟩, e2, e3, f2, g2⟩ := key
        change r = _ at e3
        subst e3
        change ∀ a i, a ≠ 202 → ¬ (a = 167 ∧ 57 ≤ i ∧ i ≤ 62) → a ≠ 206 → M2 a i = up_ (up_ M 167 1 0) 167 67 (L / 2) a i at f2
        change ∀ k : Int, 0 ≤ k → k < L / 2 → M2 206 k = lvA s d mi k at g2
        have fM : ∀ a i, a ≠ 202 → ¬ (a = 167 ∧ 57 ≤ i ∧ i ≤ 62) → a ≠ 206 → ¬ (a = 167 ∧ (i = 1 ∨ i = 67)) → M2 a i = M a i := fun a i x1 x2 x3 x5 => by
          rw [f2 a i x1 x2 x3]
          exact (if_neg (by omega)).trans (if_neg (by omega))
        have hl2 : LAY M2 := LAY_fq l7 (fun q hq => by
          have h0 := of_decide_eq_true (List.all_eq_true.mp lay_mf q hq)
          exact f2 _ _ h0.1 h0.2.1 (by omega))
        refine ⟨M2, ?_, MR_g h hl2 (fun a i x1 x2 x3 x4 x5 x6 x7 => fM a i (by omega) (by omega) (by omega) (by omega)) (MiOK_lt h.mk (by omega) (by omega)) ?_, fun a i x => fM a i (by omega) (by omega) (by omega) (by omega)⟩
        · show fX9_letters SH M 167 = _
          unfold fX9_letters fX9_letters_J83
          rw [kd167, gd_t rfl, hlen, bd_1, if_pos (by omega), Int.tmod_eq_emod_of_nonneg hL.1, if_pos L2, if_neg (by omega), okn, pb_1, u1_1, hk, bi_if, if_pos rfl, gd_t rfl, Int.tdiv_eq_ediv_of_nonneg hL.1, w32_s (by omega) (by omega), bd_1, e2, pb_1, u2_1]
        · obtain ⟨a1, a2, a3, a4, a5, a6, a7, a8, a9, a10⟩ := h.mi
          have m : ∀ x i, x ≠ 14 → x ≠ 16 → ltA mi (lvA s d mi) (L / 2) x i = mi x i := fun x i a b => by unfold ltA; rw [if_neg (by omega), if_neg b]
          refine ⟨?_, fun i i0 i1 => ?_, ?_, ?_, ?_, fun i i0 i1 => ?_, ?_, fun i i0 i1 => ?_, ?_, fun i i0 i1 => ?_⟩
          · rw [f2 _ _ (by omega) (by omega) (by omega), up_oi (by decide), up_at]; rfl
          · change i < 0 at i1; omega
          · rw [m _ _ (by decide) (by decide), fM _ _ (by omega) (by omega) (by omega) (by omega)]; exact a3
          · rw [m _ _ (by decide) (by decide), fM _ _ (by omega) (by omega) (by omega) (by omega)]; exact a4
          · rw [f2 _ _ (by omega) (by omega) (by omega), up_at]; rfl
          · change i < L / 2 at i1
            rw [g2 i i0 i1]
            show _ = if (16 : Int) = 14 ∧ i = -1 then 0 else if (16 : Int) = 16 then (if i = -1 then L / 2 else lvA s d mi i) else mi 16 i
            rw [if_neg (by omega), if_pos rfl, if_neg (by omega)]
          · rw [m _ _ (by decide) (by decide), fM _ _ (by omega) (by omega) (by omega) (by omega)]; exact a7
          · rw [m _ _ (by decide) (by decide)] at i1 ⊢
            rw [fM _ _ (by omega) (by omega) (by omega) (by omega)]; exact a8 i i0 i1
          · rw [m _ _ (by decide) (by decide), fM _ _ (by omega) (by omega) (by omega) (by omega)]; exact a9
          · rw [m _ _ (by decide) (by decide), fM _ _ (by omega) (by omega) (by omega) (by omega)]; exact a10 i i0 i1
      · rintro j ⟨v, i, M3⟩ hj ⟨hi, hv, f3, g3⟩
        change i = (j : Int) at hi
        change v = _ at hv
        change ∀ a i, a ≠ 202 → ¬ (a = 167 ∧ 57 ≤ i ∧ i ≤ 62) → a ≠ 206 → M3 a i = up_ (up_ M 167 1 0) 167 67 (L / 2) a i at f3
        change ∀ k : Int, 0 ≤ k → k < j → M3 206 k = lvA s d mi k at g3
        subst hi
        subst hv
        have fM : ∀ a i, a ≠ 202 → ¬ (a = 167 ∧ 57 ≤ i ∧ i ≤ 62) → a ≠ 206 → ¬ (a = 167 ∧ (i = 1 ∨ i = 67)) → M3 a i = M a i := fun a i x1 x2 x3 x5 => by
          rw [f3 a i x1 x2 x3]
          exact (if_neg (by omega)).trans (if_neg (by omega))
        have l3 : LAY M3 := LAY_fq l7 (fun q hq => by
          have h0 := of_decide_eq_true (List.all_eq_true.mp lay_mf q hq)
          exact f3 _ _ h0.1 h0.2.1 (by omega))
        have c3 : MM M3 (M 167 13) 0 s d := MM_fr h.mm l3 (fM _ _ (by omega) (by omega) (by omega) (by omega)) (fun a i _ _ => fM a i (by omega) (by omega) (by omega) (by omega)) (fun a i _ _ => fM a i (by omega) (by omega) (by omega) (by omega))
        have T3 : mTp M3 mi L := fun i i0 i1 => by rw [fM _ _ (by omega) (by omega) (by omega) (by omega)]; exact hT i i0 i1
        have e67 : M3 167 67 = L / 2 := by rw [f3 _ _ (by omega) (by omega) (by omega), up_at]
        have bb := lwr_b (lvA s d mi) j
        by_cases hjn : j < (L / 2).toNat
        · have ha := hall (j : Int) (by omega) (by omega)
          obtain ⟨⟨p0, p1⟩, q0, q1⟩ := ath_t ha
          have ek : M3 199 (mi 14 (2 * (j : Int))) = d 2 (mi 14 (2 * (j : Int))) := by have := c3.kn p0 p1; rwa [Int.mul_zero, Int.zero_add] at this
          have es : M3 200 (mi 14 (2 * (j : Int))) = d 3 (mi 14 (2 * (j : Int))) := by have := c3.sn p0 p1; rwa [Int.mul_zero, Int.zero_add] at this
          refine Or.inl ⟨hjn, ?_⟩
          have ff : ∀ M4, (∀ a i, a ≠ 202 → ¬ (a = 167 ∧ 57 ≤ i ∧ i ≤ 62) → M4 a i = M3 a i) → ∀ a i, a ≠ 202 → ¬ (a = 167 ∧ 57 ≤ i ∧ i ≤ 62) → a ≠ 206 → up_ M4 206 (j : Int) (lvA s d mi j) a i = up_ (up_ M 167 1 0) 167 67 (L / 2) a i := fun M4 f4 a i x1 x2 x3 => by
            rw [up_of x3, f4 a i x1 x2, f3 a i x1 x2 x3]
          have gg : ∀ M4, (∀ a i, a ≠ 202 → ¬ (a = 167 ∧ 57 ≤ i ∧ i ≤ 62) → M4 a i = M3 a i) → ∀ k : Int, 0 ≤ k → k < ((j + 1 : Nat) : Int) → up_ M4 206 (j : Int) (lvA s d mi j) 206 k = lvA s d mi k := fun M4 f4 k k0 k1 => by
            by_cases z : k = j
            · rw [z, up_at]
            · rw [up_oi z, f4 _ _ (by omega) (by omega)]; exact g3 k k0 (by omega)
          have fin : ∀ (M4 : AwM) (w : Int), w = lvA s d mi j → (∀ a i, a ≠ 202 → ¬ (a = 167 ∧ 57 ≤ i ∧ i ≤ 62) → M4 a i = M3 a i) → ∃ s', fX9_letters_J199_105 SH M4 167 (lwr (lvA s d mi) j) (j : Int) 206 (j : Int) w = some (.inl s') ∧ (s'.2.1 = ((j + 1 : Nat) : Int) ∧ s'.1 = lwr (lvA s d mi) (j + 1) ∧ (∀ a i, a ≠ 202 → ¬ (a = 167 ∧ 57 ≤ i ∧ i ≤ 62) → a ≠ 206 → s'.2.2 a i = up_ (up_ M 167 1 0) 167 67 (L / 2) a i) ∧ ∀ k : Int, 0 ≤ k → k < ((j + 1 : Nat) : Int) → s'.2.2 206 k = lvA s d mi k) := fun M4 w hw f4 => by
            subst hw
            have e68 : up_ M4 206 (j : Int) (lvA s d mi j) 167 68 = 206 := by rw [up_of (by decide), f4 _ _ (by omega) (by omega)]; exact ly167_68 l3
            have lv0 : lvA s d mi j = 0 ∨ 0 < lvA s d mi j := by unfold lvA lvd; (repeat' split) <;> omega
            unfold fX9_letters_J199_105
            rw [kd206, ga_t (by omega) (by omega), bd_1, kd167, gd_t rfl, e68, kd206, ga_t (by omega) (by omega), up_at, w32_s (v := (j : Int) + 1) (by omega) (by omega), w32_s (v := lwr (lvA s d mi) j + 1) (by omega) (by omega), w32_s (v := lwr (lvA s d mi) j + 0) (by omega) (by omega)]
            by_cases z : lvA s d mi j = 0
            · rw [if_neg (by omega)]
              exact ⟨_, rfl, by simp, by rw [lwr_s, if_pos z], ff M4 f4, gg M4 f4⟩
            · rw [if_pos (by omega)]
              exact ⟨_, rfl, by simp, by rw [lwr_s, if_neg z], ff M4 f4, gg M4 f4⟩
          rw [u3_1]
          unfold fX9_letters_L105
          rw [kd167, gd_t rfl, e67, if_pos (by omega), w32_s (v := 2 * (j : Int)) (by omega) (by omega), w32_s (v := 2 * (j : Int) + 1) (by omega) (by omega), ly167_0 l3, kd168, ga_t (by omega) (by omega), ga_t (by omega) (by omega), T3 _ (by omega) (by omega), T3 _ (by omega) (by omega), ly167_50 l3, kd199, ga_t (by omega) (by omega), ek, has2_n (c3.ld.kn _ p0 p1) (by omega) q0 (by omega), pb_1, u1_1, hz_p q0, bi_if, ly167_51 l3, kd200, ga_t (by omega) (by omega), es, has2_n (c3.ld.sn _ p0 p1) (by omega) q0 (by omega), pb_1, u1_1, hz_p q0, bi_if, ly167_68 l3]
          by_cases x : hb (d 2 (mi 14 (2 * (j : Int)))) (mi 14 (2 * (j : Int) + 1)) = true
          · rw [if_pos x]
            exact fin M3 1 (by unfold lvA lvd; rw [if_pos x]) (fun _ _ _ _ => rfl)
          rw [if_neg x]
          by_cases y : hb (d 3 (mi 14 (2 * (j : Int)))) (mi 14 (2 * (j : Int) + 1)) = true
          · rw [if_pos y]
            exact fin M3 2 (by unfold lvA lvd; rw [if_neg x, if_pos y]) (fun _ _ _ _ => rfl)
          obtain ⟨M4, e4, f4⟩ := wouldKnow_n c3 p0 p1 q0 q1
          rw [if_neg y, e4, pb_1, u2_1, bi_if]
          by_cases t : tH s d (mi 14 (2 * (j : Int))) (mi 14 (2 * (j : Int) + 1)) = true
          · rw [if_pos t]
            exact fin M4 0 (by unfold lvA lvd; rw [if_neg x, if_neg y, if_pos t]) f4
          · rw [if_neg t]
            exact fin M4 3 (by unfold lvA lvd; rw [if_neg x, if_neg y, if_neg t]) f4
        · have ej : (L / 2).toNat = j := by omega
          refine Or.inr ⟨(lwr (lvA s d mi) j, M3), ?_, by rw [ej], f3, fun k k0 k1 => g3 k k0 (by omega)⟩
          rw [u3_1]
          unfold fX9_letters_L105
          rw [kd167, gd_t rfl, e67, if_neg (by omega)]
  · refine ⟨-1, s, d, n, R, rfu (tln mi 0) 5, fun M h => ?_, fun M h => ?_⟩
    · have l := h.lay
      have hT : cTp M mi (mi 14 (-1)) := fun i i0 i1 => ⟨h.mi.2.1 i i0 i1, h.mk.2.1 i i0 i1⟩
      have hlen := h.mi.1
      have hL := h.mk.1
      have h2 : CR (up_ M 1 1 0) s d n R (tln mi 0) := CR_tl (mi := mi) h (fun x i y z => if_neg z) up_at (by decide) (by decide) (fun i i0 i1 => absurd i0 (by omega)) (fun _ _ _ => rfl)
      have c2 : CC (up_ M 1 1 0) 153 (M 1 3) s d := CC_fr h.cc h2.lay (up_of (by decide)) (fun a i _ _ _ => up_of (by have := h.cc.hso; omega)) (fun a i _ _ => up_of (by omega))
      have T2 : cTp (up_ M 1 1 0) mi (mi 14 (-1)) := fun i i0 i1 => by rw [up_of (by decide)]; exact hT i i0 i1
      obtain ⟨M1, e1, h1, f1⟩ := refC h2 (k := 5) (by decide) (by decide)
      refine ⟨M1, ?_, h1, hif_tr (fun a i x => up_of (by omega)) f1⟩
      show fX8_letters SH M 1 = _
      unfold fX8_letters
      rw [kd1, gd_t rfl, hlen, bd_1, tellsL_n c2 (up_oi (by decide)) T2 hL.1 hL.2, pb_1, u1_1, bi_if, if_neg hk, e1, pb_1, u2_1]
    · have l := h.lay
      have hT : mTp M mi (mi 14 (-1)) := h.mi.2.1
      have hlen := h.mi.1
      have hL := h.mk.1
      have h2 : MR (up_ M 167 1 0) s d n R (tln mi 0) := MR_tl (mi := mi) h (fun x i y z => if_neg z) up_at (by decide) (by decide) (fun i i0 i1 => absurd i0 (by omega)) (fun i i0 i1 => absurd i0 (by omega)) (fun _ _ _ => rfl)
      have c2 : MM (up_ M 167 1 0) (M 167 13) 0 s d := MM_fr h.mm h2.lay (up_oi (by decide)) (fun a i _ _ => up_of (by omega)) (fun a i _ _ => up_of (by omega))
      have T2 : mTp (up_ M 167 1 0) mi (mi 14 (-1)) := fun i i0 i1 => by rw [up_of (by decide)]; exact hT i i0 i1
      obtain ⟨M1, e1, h1, f1⟩ := refM h2 (k := 5) (by decide) (by decide)
      refine ⟨M1, ?_, h1, lof_tr (fun a i x => up_of (by omega)) f1⟩
      show fX9_letters SH M 167 = _
      unfold fX9_letters fX9_letters_J83
      rw [kd167, gd_t rfl, hlen, bd_1, gd_t rfl, e1, pb_1, u2_1]
      by_cases a : 0 < mi 14 (-1)
      · rw [if_pos a, Int.tmod_eq_emod_of_nonneg hL.1]
        by_cases b : mi 14 (-1) % 2 = 0
        · rw [if_pos b]
          by_cases c : 40 < mi 14 (-1)
          · rw [if_pos c, okLM_n (f := 0) c2 T2 hL.1 hL.2 (by rw [decide_eq_false (by omega)]; rfl), pb_1, u1_1, bi_if, if_neg hk]
          · rw [if_neg c, okLM_n (f := 1) c2 T2 hL.1 hL.2 (by rw [decide_eq_true (⟨by omega, by omega, b⟩ : 2 ≤ mi 14 (-1) ∧ mi 14 (-1) ≤ 40 ∧ mi 14 (-1) % 2 = 0)]; rfl), pb_1, u1_1, bi_if, if_neg hk]
        · rw [if_neg b, okLM_n (f := 0) c2 T2 hL.1 hL.2 (by rw [decide_eq_false (by omega)]; rfl), pb_1, u1_1, bi_if, if_neg hk]
      · rw [if_neg a, okLM_n (f := 0) c2 T2 hL.1 hL.2 (by rw [decide_eq_false (by omega)]; rfl), pb_1, u1_1, bi_if, if_neg hk]
end PLETT
