/-! the model's day; days alike -/
section PMDAY
theorem mforget_n {M : AwM} {b L c : Int} {s : AwM} {x : Int × AwM} (h : MM M b L s x.2) (c0 : 0 ≤ c) (c1 : c < s 0 1) (x0 : 0 ≤ x.1) (x1 : x.1 ≤ 100000) : ∃ M', lp (u3 (fX9_dayGoes_L52 SH 167 L c (12 * L + c))) FU (x.1, 0, M) = some ((fgI s c x (s 0 0).toNat).1, M') ∧ MM M' b L s (fgI s c x (s 0 0).toNat).2 ∧ mfr L M' M := by
  have hp := h.ok.p
  have hc := h.ok.c
  have hf := h.ok.fa
  have hL := h.l21
  have hbb := h.b01
  have key := lp_rel (body := u3 (fX9_dayGoes_L52 SH 167 L c (12 * L + c))) (P := fun j (t : Int × Int × AwM) => t.2.1 = (j : Int) ∧ t.1 = (fgI s c x j).1 ∧ MM t.2.2 b L s (fgI s c x j).2 ∧ mfr L t.2.2 M) (X := fun r : Int × AwM => r.1 = (fgI s c x (s 0 0).toNat).1 ∧ MM r.2 b L s (fgI s c x (s 0 0).toNat).2 ∧ mfr L r.2 M) (n := (s 0 0).toNat) ?_ FU (x.1, 0, M) (FU_gt (by omega)) ⟨rfl, rfl, h, mfr_rf⟩
  · obtain ⟨⟨r, M'⟩, e, e1, h1, f1⟩ := key
    change r = _ at e1
    subst e1
    exact ⟨M', e, h1, f1⟩
  · rintro j ⟨v, i, M3⟩ hj ⟨hi, hv, h3, f3⟩
    change i = (j : Int) at hi
    change v = _ at hv
    change MM M3 b L s _ at h3
    subst hi
    subst hv
    have bb := fgI_b (s := s) (c := c) (x := x) j
    by_cases hjn : j < (s 0 0).toNat
    · refine Or.inl ⟨hjn, ?_⟩
      rw [u3_1]
      unfold fX9_dayGoes_L52 fX9_dayGoes_J151_52
      rw [kd167, gd_t rfl, ly167_14 h3.lay, kd169, h3.bk, ga_t (by omega) (by omega), h3.n0, if_pos (by omega), ly167_49 h3.lay, kd198, ga_t (by omega) (by omega), h3.ho c0 c1, ly167_50 h3.lay, kd199, ga_t (by omega) (by omega), h3.kn c0 c1, has2_n (h3.ld.kn c c0 c1) (by omega) (by omega) (by omega), pb_1, u1_1, hz_p (by omega), bi_if, ly167_48 h3.lay, kd197, ga_t (by omega) (by omega), ly167_52 h3.lay, kd201, w32_s (v := 120 * L) (by omega) (by omega), w32_s (v := 10 * c) (by omega) (by omega), w32_s (v := 120 * L + 10 * c) (by omega) (by omega), w32_s (v := 120 * L + 10 * c + (j : Int)) (by omega) (by omega), Int.add_assoc (120 * L) (10 * c) (j : Int), ga_t (by omega) (by omega), ly167_24 h3.lay, kd179, ga_t (by omega) (by omega), h3.day, h3.n3, w32_s (v := (j : Int) + 1) (by omega) (by omega)]
      have st : ∀ z, z = fgI s c x j → fgI s c x (j + 1) = if fgC s z.2 c (j : Int) = true then (z.1 + 1, clr z.2 c (j : Int)) else z := fun z hz => by rw [hz]; rfl
      generalize hz' : fgI s c x j = z at *
      have st := st z rfl
      have same : fgC s z.2 c (j : Int) = false → (∃ s', some (Sum.inl (z.1, ((j : Int) + 1, M3))) = some (Sum.inl s' : (Int × Int × AwM) ⊕ (Int × AwM)) ∧ (s'.2.1 = ((j + 1 : Nat) : Int) ∧ s'.1 = (fgI s c x (j + 1)).1 ∧ MM s'.2.2 b L s (fgI s c x (j + 1)).2 ∧ mfr L s'.2.2 M)) := fun hfalse => by
        rw [hfalse, if_neg (by decide)] at st
        exact ⟨_, rfl, by simp, by rw [st], by rw [st]; exact h3, f3⟩
      by_cases y : z.2 1 c = (j : Int)
      · have hfc : fgC s z.2 c (j : Int) = false := by unfold fgC; rw [decide_eq_true y]; simp
        rw [if_pos y]; exact same hfc
      · rw [if_neg y]
        cases e1 : hb (z.2 2 c) (j : Int) with
        | false =>
          have hfc : fgC s z.2 c (j : Int) = false := by unfold fgC; rw [e1]; rfl
          rw [if_neg (show ¬ (false = true) by decide)]
          exact same hfc
        | true =>
          have em := h3.me c0 c1 (show 0 ≤ (j : Int) by omega) (show (j : Int) < s 0 0 by omega) e1
          have bm := h3.ld.me c (j : Int) c0 c1 (by omega) (by omega) e1
          have bd := h3.ld.day
          rw [em, w32_s (by omega) (by omega), if_pos (show true = true from rfl)]
          by_cases w : z.2 0 0 - z.2 4 (10 * c + (j : Int)) < s 0 3
          · have hfc : fgC s z.2 c (j : Int) = false := by unfold fgC; rw [decide_eq_false (show ¬ s 0 3 ≤ z.2 0 0 - z.2 4 (10 * c + (j : Int)) by omega), Bool.and_false, Bool.and_false]
            rw [if_pos w]; exact same hfc
          · have hfc : fgC s z.2 c (j : Int) = true := by unfold fgC; rw [e1, decide_eq_false y, decide_eq_true (show s 0 3 ≤ z.2 0 0 - z.2 4 (10 * c + (j : Int)) by omega)]; rfl
            have kl := ms_lt (h3.ld.kn c c0 c1) (show (s 0 0).toNat ≤ 31 by omega)
            have g1 : mfr L (up_ M3 199 (12 * L + c) (clb (z.2 2 c) j)) M3 := fun a i x1 x2 x3 x4 x5 => if_neg (by omega)
            rw [if_neg w, clb_n kl.1 kl.2 (by omega) (by omega), bd_1, w32_s (v := z.1 + 1) (by omega) (by omega)]
            rw [hfc, if_pos rfl] at st
            exact ⟨_, rfl, by simp, by rw [st], by rw [st]; exact MM_of h3 g1 (LdOK_clr h3.ld c0 c1 (by omega) y) (ML_clr (c := c) h3.ml (by omega)), mfr_tr f3 g1⟩
    · have ej : (s 0 0).toNat = j := by omega
      refine Or.inr ⟨((fgI s c x j).1, M3), ?_, ?_⟩
      · rw [u3_1]
        unfold fX9_dayGoes_L52
        rw [kd167, gd_t rfl, ly167_14 h3.lay, kd169, h3.bk, ga_t (by omega) (by omega), h3.n0, if_neg (by omega)]
      · rw [ej]; exact ⟨rfl, h3, f3⟩
theorem dayGoes_n {M : AwM} {b L : Int} {s d : AwM} (h : MM M b L s d) (hd : d 0 0 < 1000) : ∃ M', fX9_dayGoes SH M 167 L = some ((dayA s d).1, M') ∧ MM M' b L s (dayA s d).2 ∧ mfr L M' M := by
  have ho := h.ok
  have hc := ho.c
  have hL := h.l21
  have hbb := h.b01
  have hdd := h.ld.day
  have f5 : mfr L (up_ M 197 L (d 0 0 + 1)) M := fun a i x1 x2 x3 x4 x5 => if_neg x3
  have h5 : MM (up_ M 197 L (d 0 0 + 1)) b L s (dyn d) := MM_of h f5 (LdOK_dyn h.ld hd) (ML_dyn h.ml)
  unfold fX9_dayGoes
  rw [kd167, gd_t rfl, ly167_48 h.lay, kd197, ga_t (by omega) (by omega), h.day, w32_s (by omega) (by omega), bd_1, ly167_24 h5.lay, kd179, h5.bk, ga_t (by omega) (by omega), h5.n3]
  unfold dayA
  by_cases hz : s 0 3 = 0
  · rw [if_pos hz, if_pos hz]
    exact ⟨_, rfl, h5, f5⟩
  · rw [if_neg hz, if_neg hz]
    have key := lp_rel (body := u3 (fX9_dayGoes_L28 SH 167 L)) (P := fun j (t : Int × Int × AwM) => t.2.1 = (j : Int) ∧ t.1 = (fgO s (0, dyn d) j).1 ∧ MM t.2.2 b L s (fgO s (0, dyn d) j).2 ∧ mfr L t.2.2 M) (X := fun r : Int × AwM => r.1 = (fgO s (0, dyn d) (s 0 1).toNat).1 ∧ MM r.2 b L s (fgO s (0, dyn d) (s 0 1).toNat).2 ∧ mfr L r.2 M) (n := (s 0 1).toNat) ?_ FU (0, 0, up_ M 197 L (d 0 0 + 1)) (FU_gt (by omega)) ⟨rfl, rfl, h5, f5⟩
    · obtain ⟨⟨r, M'⟩, e, e1, h1, f1⟩ := key
      change r = _ at e1
      subst e1
      refine ⟨M', ?_, h1, f1⟩
      rw [e, pb_1, u2_1]
    · rintro j ⟨v, i, M3⟩ hj ⟨hi, hv, h3, f3⟩
      change i = (j : Int) at hi
      change v = _ at hv
      change MM M3 b L s _ at h3
      subst hi
      subst hv
      have bb := fgO_b (s := s) (x := (0, dyn d)) ho j
      change 0 ≤ _ ∧ _ ≤ 0 + 10 * (j : Int) at bb
      by_cases hjn : j < (s 0 1).toNat
      · refine Or.inl ⟨hjn, ?_⟩
        obtain ⟨M4, e4, h4, f4⟩ := mforget_n h3 (c := (j : Int)) (by omega) (by omega) (by omega) (by omega)
        rw [u3_1]
        unfold fX9_dayGoes_L28
        rw [mcn h3.mw, ly167_16 h3.lay, h3.bk, h3.n1, if_pos (by omega), w32_s (v := 12 * L) (by omega) (by omega), w32_s (v := 12 * L + (j : Int)) (by omega) (by omega), e4, pb_1, u2_1, w32_s (v := (j : Int) + 1) (by omega) (by omega)]
        exact ⟨_, rfl, by simp, rfl, h4, mfr_tr f3 f4⟩
      · have ej : (s 0 1).toNat = j := by omega
        refine Or.inr ⟨((fgO s (0, dyn d) j).1, M3), ?_, ?_⟩
        · rw [u3_1]
          unfold fX9_dayGoes_L28
          rw [mcn h3.mw, ly167_16 h3.lay, h3.bk, h3.n1, if_neg (by omega)]
        · rw [ej]; exact ⟨rfl, h3, f3⟩
theorem mdays_n {M : AwM} {b n : Int} {s d : AwM} (h : MM M b 0 s d) (n0 : 0 ≤ n) (n1 : n ≤ 100) (hd : d 0 0 + n ≤ 999) : ∃ M', lp (u3 (fX9_days_L38 SH 167 n)) FU (0, 0, M) = some ((dysA s d n.toNat).1, M') ∧ MM M' b 0 s (dysA s d n.toNat).2 ∧ mfr 0 M' M := by
  have ho := h.ok
  have key := lp_rel (body := u3 (fX9_days_L38 SH 167 n)) (P := fun j (t : Int × Int × AwM) => t.2.1 = (j : Int) ∧ t.1 = (dysA s d j).1 ∧ MM t.2.2 b 0 s (dysA s d j).2 ∧ mfr 0 t.2.2 M) (X := fun r : Int × AwM => r.1 = (dysA s d n.toNat).1 ∧ MM r.2 b 0 s (dysA s d n.toNat).2 ∧ mfr 0 r.2 M) (n := n.toNat) ?_ FU (0, 0, M) (FU_gt (by omega)) ⟨rfl, rfl, h, mfr_rf⟩
  · obtain ⟨⟨r, M'⟩, e, e1, h1, f1⟩ := key
    change r = _ at e1
    subst e1
    exact ⟨M', e, h1, f1⟩
  · rintro j ⟨v, i, M3⟩ hj ⟨hi, hv, h3, f3⟩
    change i = (j : Int) at hi
    change v = _ at hv
    change MM M3 b 0 s _ at h3
    subst hi
    subst hv
    have bb := dysA_b (d := d) ho j
    have dd := dysA_d (d := d) (fun e => dayA_0 (s := s) e) j
    by_cases hjn : j < n.toNat
    · refine Or.inl ⟨hjn, ?_⟩
      have b2 := dayA_b (d := (dysA s d j).2) ho
      obtain ⟨M4, e4, h4, f4⟩ := dayGoes_n h3 (by omega)
      rw [u3_1]
      unfold fX9_days_L38
      rw [if_pos (by omega), kd167, gd_t rfl, e4, pb_1, u2_1, w32_s (v := (j : Int) + 1) (by omega) (by omega), w32_s (by omega) (by omega)]
      exact ⟨_, rfl, by simp, rfl, h4, mfr_tr f3 f4⟩
    · have ej : n.toNat = j := by omega
      refine Or.inr ⟨((dysA s d j).1, M3), ?_, ?_⟩
      · rw [u3_1]
        unfold fX9_days_L38
        rw [if_neg (by omega)]
      · rw [ej]; exact ⟨rfl, h3, f3⟩
theorem days_b {s d : AwM} {n : Int} {R : Int → AwM} {mi : AwM} {k : Int} : BSt (fun M => fX8_days SH M 1 k) (fun M => fX9_days SH M 167 k) s d n R mi := by
  by_cases hk : (1 ≤ k ∧ k ≤ 100) ∧ d 0 0 + k ≤ 999
  · obtain ⟨⟨k0, k1⟩, k2⟩ := hk
    refine ⟨(dysA s d k.toNat).1, s, (dysA s d k.toNat).2, min 20 (n + 1), kpR d R, mi, fun M h => ?_, fun M h => ?_⟩
    · have l := h.lay
      have hdd := h.cc.ld.day
      obtain ⟨M1, e1, h1, f1, g1⟩ := keep_n h
      obtain ⟨M2, e2, h2, f2⟩ := passDays_n h1.cc (n := k) (by omega) k1 k2
      refine ⟨M2, ?_, CR_of h1 f2 h2, hif_tr f1 (cfr_hi (Or.inl rfl) h1.cc.hso f2)⟩
      show fX8_days SH M 1 k = _
      unfold fX8_days
      rw [if_neg (by omega), if_neg (by omega), kd1, gd_t rfl, ly1_4 l, kd153, gd_t rfl, ly153_0 l, kd154, gd_t rfl, show M 154 0 = d 0 0 from h.cc.day, w32_s (by omega) (by omega), if_neg (by omega), ly1_6 l, kd26, gd_t rfl, e1, pb_1, u1_1, ly1_4 h1.lay, kd153, gd_t rfl, e2, pb_1, u2_1]
    · have l := h.lay
      have hdd := h.mm.ld.day
      obtain ⟨M1, e1, h1, f1⟩ := mkeep_n h
      obtain ⟨M2, e2, h2, f2⟩ := mdays_n h1.mm (n := k) (by omega) k1 k2
      refine ⟨M2, ?_, MR_of h1 f2 h2, lof_tr f1 (mfr_lo f2)⟩
      show fX9_days SH M 167 k = _
      unfold fX9_days
      rw [isr_n, pb_1, u1_1, bi_if, if_pos (decide_eq_true ⟨k0, k1⟩), kd167, gd_t rfl, ly167_48 l, kd197, gd_t (by decide), h.mm.day, w32_s (by omega) (by omega), if_neg (by omega), e1, pb_1, u1_1, e2, pb_1, u2_1]
  · refine ⟨-1, s, d, n, R, rfu mi 4, fun M h => ?_, fun M h => ?_⟩
    · have l := h.lay
      have hdd := h.cc.ld.day
      obtain ⟨M1, e1, h1, f1⟩ := refC h (k := 4) (by decide) (by decide)
      refine ⟨M1, ?_, h1, f1⟩
      show fX8_days SH M 1 k = _
      unfold fX8_days
      rw [kd1, gd_t rfl, e1, pb_1, u2_1]
      by_cases a : k < 1
      · rw [if_pos a]
      · rw [if_neg a]
        by_cases c : 100 < k
        · rw [if_pos c]
        · rw [if_neg c, gd_t rfl, ly1_4 l, kd153, gd_t rfl, ly153_0 l, kd154, gd_t rfl, show M 154 0 = d 0 0 from h.cc.day, w32_s (by omega) (by omega), if_pos (by omega)]
    · have l := h.lay
      have hdd := h.mm.ld.day
      obtain ⟨M1, e1, h1, f1⟩ := refM h (k := 4) (by decide) (by decide)
      refine ⟨M1, ?_, h1, f1⟩
      show fX9_days SH M 167 k = _
      unfold fX9_days
      rw [isr_n, pb_1, u1_1, bi_if, kd167, e1, pb_1, u2_1]
      by_cases a : 1 ≤ k ∧ k ≤ 100
      · rw [if_pos (decide_eq_true a), gd_t rfl, ly167_48 l, kd197, gd_t (by decide), h.mm.day, w32_s (by omega) (by omega), if_pos (by omega)]
      · rw [if_neg (by rw [decide_eq_false a]; decide), gd_t rfl]
end PMDAY
