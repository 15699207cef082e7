/-! what is tried: later, best alike -/
section PTRIAL
theorem CR_t {M M' s d : AwM} {n : Int} {R : Int → AwM} {mi : AwM} (h : CR M s d n R mi) (hl : LAY M') (hf : cfr 160 (M 1 3) M' M) : CR M' s d n R mi ∧ M' 1 3 = M 1 3 := by
  have hso := h.cc.hso
  exact ⟨CR_g h hl (fun a i x1 x2 x3 x4 x5 x6 x7 x8 => hf a i (by omega) (by omega) (by omega) (by omega)) h.mk (CMi_fr h.mi (fun i => hf _ _ (by omega) (by omega) (by omega) (by omega)) (fun i => hf _ _ (by omega) (by omega) (by omega) (by omega)) (fun i => hf _ _ (by omega) (by omega) (by omega) (by omega)) (fun a i _ _ => hf _ _ (by omega) (by omega) (by omega) (by omega))), hf _ _ (by omega) (by omega) (by omega) (by omega)⟩
theorem MR_t {M M' s d : AwM} {n : Int} {R : Int → AwM} {mi : AwM} (h : MR M s d n R mi) (hf : mfr 1 M' M) : MR M' s d n R mi ∧ M' 167 13 = M 167 13 :=
  ⟨MR_g h (LAY_mf h.lay hf) (fun a i x1 x2 x3 x4 x5 x6 x7 => hf a i (by omega) (by omega) (by omega) (by omega) (by omega)) h.mk (MMi_fr h.mi (fun i _ => hf _ _ (by omega) (by omega) (by omega) (by omega) (by omega)) (fun i => hf _ _ (by omega) (by omega) (by omega) (by omega) (by omega)) (fun i => hf _ _ (by omega) (by omega) (by omega) (by omega) (by omega)) (fun i => hf _ _ (by omega) (by omega) (by omega) (by omega) (by omega)) (fun i => hf _ _ (by omega) (by omega) (by omega) (by omega) (by omega))), hf _ _ (by omega) (by omega) (by omega) (by omega) (by omega)⟩
theorem lay_tr : layT.all (fun q => decide (¬ (162 ≤ q.1 ∧ q.1 ≤ 165) ∧ ¬ (q.1 = 161 ∧ q.2.1 = 0))) = true := by decide +kernel
theorem trial_n {M s d : AwM} {n : Int} {R : Int → AwM} {mi : AwM} (h : CR M s d n R mi) : ∃ M', fX3_copyFrom SH M 161 154 = some M' ∧ CC M' 160 (M 1 3) s d ∧ CR M' s d n R mi ∧ hif M' M ∧ M' 1 3 = M 1 3 := by
  have hso := h.cc.hso
  obtain ⟨M', e, f, g0, g1, g4⟩ := copyFrom_n (a := 161) (b := 154) h.lay (by decide) (by decide) (by decide)
  have hl : LAY M' := LAY_fq h.lay (fun q hq => by
    have := of_decide_eq_true (List.all_eq_true.mp lay_tr q hq)
    exact f _ _ (by omega) (by omega))
  have cl : CL M' 161 s d := CL_cp h.cc.cl h.cc.ok g0 g1 g4
  have hf : cfr 160 (M 1 3) M' M := fun a i x y z w => f a i (by omega) (by omega)
  obtain ⟨h1, e3⟩ := CR_t h hl hf
  refine ⟨M', e, ⟨hl, Or.inr rfl, hso, (f _ _ (by omega) (by omega)).trans h.tr, h.cc.ok, h.cc.ld, CS_fr h.cc.cs (fun a i _ _ _ => f a i (by omega) (by omega)), cl⟩, h1, cfr_hi (Or.inr rfl) hso hf, e3⟩
theorem mtrial_n {M s d : AwM} {n : Int} {R : Int → AwM} {mi : AwM} (h : MR M s d n R mi) : ∃ M', fX9_copies SH M 167 1 0 = some M' ∧ MM M' (M 167 13) 1 s d ∧ MR M' s d n R mi ∧ lof M' M ∧ M' 167 13 = M 167 13 := by
  obtain ⟨M', e, f, g⟩ := copies_n (A := 1) (B := 0) h.lay h.mm.ok (by decide) (by decide) (by decide) (by decide) (by decide) h.mm.ml
  obtain ⟨h1, e3⟩ := MR_t h (mly_mf f)
  exact ⟨M', e, ⟨h1.lay, e3, h.mm.b01, by decide, h.mm.ok, h.mm.ld, MS_fr h.mm.ms (fun a i _ _ => f a i (by omega) (by omega) (by omega)), g⟩, h1, mfr_lo (mly_mf f), e3⟩
theorem mlater_n {M : AwM} {b c n : Int} {s d : AwM} (h : MM M b 1 s d) (n0 : 0 ≤ n) (n1 : n ≤ 100) (hd : d 0 0 + n ≤ 999) : ∃ M', lp (u2 (fX9_later_L26 SH 167 c n)) FU (0, M) = some M' ∧ MM M' b 1 s (dysA s d n.toNat).2 ∧ mfr 1 M' M := by
  refine lp_rel (body := u2 (fX9_later_L26 SH 167 c n)) (P := fun j (t : Int × AwM) => t.1 = (j : Int) ∧ MM t.2 b 1 s (dysA s d j).2 ∧ mfr 1 t.2 M) (X := fun r : AwM => MM r b 1 s (dysA s d n.toNat).2 ∧ mfr 1 r M) (n := n.toNat) ?_ FU (0, M) (FU_gt (by omega)) ⟨rfl, h, mfr_rf⟩
  rintro j ⟨i, M3⟩ hj ⟨hi, h3, f3⟩
  change i = (j : Int) at hi
  change MM M3 b 1 s _ at h3
  subst hi
  have dd := dysA_d (d := d) (fun e => dayA_0 (s := s) e) j
  rw [u2_1]
  unfold fX9_later_L26
  by_cases hjn : j < n.toNat
  · obtain ⟨M4, e4, h4, f4⟩ := dayGoes_n h3 (by omega)
    exact Or.inl ⟨hjn, _, by rw [if_pos (by omega), kd167, gd_t rfl, e4, pb_1, u2_1, w32_s (v := (j : Int) + 1) (by omega) (by omega)], by simp, h4, mfr_tr f3 f4⟩
  · have ej : n.toNat = j := by omega
    exact Or.inr ⟨M3, by rw [if_neg (by omega)], by rw [ej]; exact h3, f3⟩
theorem ahead_n {M s d : AwM} {b L : Int} (h : MM M b L s d) (hd : M 197 0 = d 0 0) {n : Int} {e : AwM} (he : d = e) : fX9_isAhead SH M 167 n = some (bi (decide (0 ≤ n ∧ n ≤ 60) && decide (d 0 0 + n ≤ 999))) := by
  have hdd := h.ld.day
  unfold fX9_isAhead
  rw [isr_n, pb_1, u1_1, bi_if]
  by_cases a : 0 ≤ n ∧ n ≤ 60
  · rw [if_pos (decide_eq_true a), kd167, gd_t rfl, ly167_48 h.lay, kd197, gd_t (by decide), hd, w32_s (by omega) (by omega), decide_eq_true a, Bool.true_and]
    by_cases c : 999 < d 0 0 + n
    · rw [if_pos c, decide_eq_false (by omega)]; rfl
    · rw [if_neg c, decide_eq_true (by omega)]; rfl
  · rw [if_neg (by rw [decide_eq_false a]; decide), decide_eq_false a, Bool.false_and]; rfl
theorem later_b {s d : AwM} {n : Int} {R : Int → AwM} {mi : AwM} {c k : Int} : BSt (fun M => fX8_later SH M 1 c k) (fun M => fX9_later SH M 167 c k) s d n R mi := by
  by_cases hc : 0 ≤ c ∧ c < s 0 1
  · by_cases hk : (0 ≤ k ∧ k ≤ 60) ∧ d 0 0 + k ≤ 999
    · refine ⟨(dysA s d k.toNat).2 2 c, s, d, n, R, mi, fun M h => ?_, fun M h => ?_⟩
      · have hdd := h.cc.ld.day
        have l := h.lay
        have hcc := h.cc.ok.c
        obtain ⟨M1, e1, c1, h1, f1, g1⟩ := trial_n h
        obtain ⟨M2, e2, c2, f2⟩ := passDays_n c1 (n := k) hk.1.1 (by omega) hk.2
        rw [← g1] at c2 f2
        obtain ⟨h2, g2⟩ := CR_t h1 c2.lay f2
        refine ⟨M2, ?_, h2, hif_tr f1 (cfr_hi (Or.inr rfl) h1.cc.hso f2)⟩
        show fX8_later SH M 1 c k = _
        unfold fX8_later
        rw [kd1, gd_t rfl, kso0 h.cc.hso, gd_t rfl, isTh_n h.cc (by decide) (by decide), pb_1, u1_1, bi_if, if_pos (decide_eq_true hc), if_neg (by omega), if_neg (by omega), ly1_4 l, kd153, gd_t rfl, ly153_0 l, kd154, gd_t rfl, show M 154 0 = d 0 0 from h.cc.day, w32_s (by omega) (by omega), if_neg (by omega), ly1_5 l, kd160, gd_t rfl, ly160_0 l, kd161, gd_t rfl, e1, pb_1, u1_1, ly1_5 h1.lay, kd160, gd_t rfl, e2, pb_1, u2_1, ly1_5 h2.lay, kd160, gd_t rfl, ly160_0 h2.lay, kd161, gd_t rfl, ly161_2 h2.lay, kd163, ga_t hc.1 (by omega), show M2 163 c = (dysA s d k.toNat).2 2 c from c2.kn hc.1 hc.2]
      · have hdd := h.mm.ld.day
        have l := h.lay
        have hcc := h.mm.ok.c
        obtain ⟨M1, e1, c1, h1, f1, g1⟩ := mtrial_n h
        obtain ⟨M2, e2, c2, f2⟩ := mlater_n (c := c) c1 hk.1.1 (show k ≤ 100 by omega) hk.2
        obtain ⟨h2, g2⟩ := MR_t h1 f2
        refine ⟨M2, ?_, h2, lof_tr f1 (mfr_lo f2)⟩
        show fX9_later SH M 167 c k = _
        unfold fX9_later
        rw [kd167, gd_t rfl, (mis_n (p := 0) h.mm).1, pb_1, u1_1, bi_if, if_pos (decide_eq_true hc), ahead_n h.mm h.mm.day rfl, pb_1, u1_1, bi_if, if_pos (by rw [decide_eq_true hk.1, decide_eq_true hk.2]; rfl), e1, pb_1, u1_1, e2, pb_1, u1_1, ly167_50 h2.lay, kd199, w32_s (v := 12 + c) (by omega) (by omega), ga_t (by omega) (by omega), show M2 199 (12 + c) = (dysA s d k.toNat).2 2 c from c2.kn hc.1 hc.2]
    · refine ⟨-1, s, d, n, R, mi, fun M h => ⟨M, ?_, h, fun _ _ _ => rfl⟩, fun M h => ⟨M, ?_, h, fun _ _ _ => rfl⟩⟩
      · have hdd := h.cc.ld.day
        have l := h.lay
        show fX8_later SH M 1 c k = _
        unfold fX8_later
        rw [kd1, gd_t rfl, kso0 h.cc.hso, gd_t rfl, isTh_n h.cc (by decide) (by decide), pb_1, u1_1, bi_if, if_pos (decide_eq_true hc)]
        by_cases a : k < 0
        · rw [if_pos a]
        · rw [if_neg a]
          by_cases b : 60 < k
          · rw [if_pos b]
          · rw [if_neg b, ly1_4 l, kd153, gd_t rfl, ly153_0 l, kd154, gd_t rfl, show M 154 0 = d 0 0 from h.cc.day, w32_s (by omega) (by omega), if_pos (by omega)]
      · show fX9_later SH M 167 c k = _
        unfold fX9_later
        rw [kd167, gd_t rfl, (mis_n (p := 0) h.mm).1, pb_1, u1_1, bi_if, if_pos (decide_eq_true hc), ahead_n h.mm h.mm.day rfl, pb_1, u1_1, bi_if, if_neg]
        rw [Bool.and_eq_true, decide_eq_true_iff, decide_eq_true_iff]
        exact hk
  · refine ⟨-1, s, d, n, R, mi, fun M h => ⟨M, ?_, h, fun _ _ _ => rfl⟩, fun M h => ⟨M, ?_, h, fun _ _ _ => rfl⟩⟩
    · show fX8_later SH M 1 c k = _
      unfold fX8_later
      rw [kd1, gd_t rfl, kso0 h.cc.hso, gd_t rfl, isTh_n h.cc (by decide) (by decide), pb_1, u1_1, bi_if, if_neg (by rw [decide_eq_false hc]; decide)]
    · show fX9_later SH M 167 c k = _
      unfold fX9_later
      rw [kd167, gd_t rfl, (mis_n (p := 0) h.mm).1, pb_1, u1_1, bi_if, if_neg (by rw [decide_eq_false hc]; decide)]
def flA (s d : AwM) : Int := flS (s 2) (d 2) (s 0 1).toNat
theorem flA_n {M : AwM} {cr so : Int} {s d : AwM} (h : CC M cr so s d) : fX0_flow SH M cr = some (flA s d) := by
  have c := h.ok.c
  rw [flow_n h.cw, h.n1]
  exact congrArg some (flS_congr _ (fun i a b => h.wo a (by omega)) (fun i a b => h.kn a (by omega)))
theorem mflA_n {M : AwM} {b L : Int} {s d : AwM} (h : MM M b L s d) : fX9_flowOf SH M 167 L = some (flA s d) := by
  have c := h.ok.c
  rw [mflow_n h.mw, h.n1]
  exact congrArg some (flS_congr _ (fun i a b => h.wo a (by omega)) (fun i a b => h.kn a (by omega)))
def bsS (s d : AwM) (k : Int) : Nat → Int × Int
  | 0 => (-1, -1)
  | g + 1 => if pc (g : Int) = k then (if (bsS s d k g).2 < flA s (teaA s (g : Int) d).2 then ((g : Int), flA s (teaA s (g : Int) d).2) else bsS s d k g) else bsS s d k g
theorem best_b {s d : AwM} {n : Int} {R : Int → AwM} {mi : AwM} {k v : Int} : BSt (fun M => fX8_best SH M 1 k v) (fun M => fX9_best SH M 167 k v) s d n R mi := by
  by_cases hk : (2 ≤ k ∧ k ≤ 4) ∧ k ≤ s 0 0
  · refine ⟨if v = 0 then (bsS s d k (2 ^ (s 0 0).toNat)).1 else if v = 1 then (bsS s d k (2 ^ (s 0 0).toNat)).2 else -1, s, d, n, R, mi, fun M h => ?_, fun M h => ?_⟩
    · have l := h.lay
      have hp := h.cc.ok.p
      have pp : 2 ^ (s 0 0).toNat ≤ 2 ^ 10 := Nat.pow_le_pow_right (by decide) (by omega)
      have p0 := Nat.two_pow_pos (s 0 0).toNat
      have key := lp_rel (body := u4 (fX8_best_L42 SH 1 k v ((2 ^ (s 0 0).toNat - 1 : Nat) : Int))) (P := fun j (t : Int × Int × Int × AwM) => t.1 = (bsS s d k j).1 ∧ t.2.1 = (bsS s d k j).2 ∧ t.2.2.1 = (j : Int) ∧ CR t.2.2.2 s d n R mi ∧ hif t.2.2.2 M) (X := fun r : Int × Int × AwM => r.1 = (bsS s d k (2 ^ (s 0 0).toNat)).1 ∧ r.2.1 = (bsS s d k (2 ^ (s 0 0).toNat)).2 ∧ CR r.2.2 s d n R mi ∧ hif r.2.2 M) (n := 2 ^ (s 0 0).toNat) ?_ FU (-1, -1, 0, M) (FU_gt (by omega)) ⟨rfl, rfl, rfl, h, fun _ _ _ => rfl⟩
      · obtain ⟨⟨a, b, M'⟩, e, e1, e2, h', f'⟩ := key
        change a = _ at e1
        change b = _ at e2
        subst e1
        subst e2
        refine ⟨M', ?_, h', f'⟩
        show fX8_best SH M 1 k v = _
        unfold fX8_best
        rw [if_neg (by omega), if_neg (by omega), kd1, gd_t rfl, kso0 h.cc.hso, gd_t rfl, lso0_0 l h.cc.hso, kso1 h.cc.hso, gd_t (by decide), h.cc.n0, if_neg (by omega), allPeople_n h.cc.cw, pb_1, u1_1, h.cc.n0, e, pb_1, u3_1]
        by_cases v0 : v = 0
        · rw [if_pos v0, if_pos v0]
        · rw [if_neg v0, if_neg v0]
          by_cases v1 : v = 1
          · rw [if_pos v1, if_pos v1]
          · rw [if_neg v1, if_neg v1]
      · rintro j ⟨a, b, i, M3⟩ hj ⟨ha, hb', hi, h3, f3⟩
        change a = _ at ha
        change b = _ at hb'
        change i = (j : Int) at hi
        change CR M3 s d n R mi at h3
        subst ha
        subst hb'
        subst hi
        rw [u4_1]
        unfold fX8_best_L42
        by_cases hjn : j < 2 ^ (s 0 0).toNat
        · have hm : ms 10 (j : Int) := ms_n.mpr ⟨j, rfl, by omega⟩
          refine Or.inl ⟨hjn, ?_⟩
          rw [if_neg (by omega), bc_n (ms_up hm (by decide)), pb_1, u1_1, w32_s (v := (j : Int) + 1) (by omega) (by omega)]
          by_cases z : pc (j : Int) = k
          · obtain ⟨M4, e4, c4, h4, f4, g4⟩ := trial_n h3
            obtain ⟨M5, e5, c5, f5⟩ := takeTea_n c4 hm
            rw [← g4] at c5 f5
            obtain ⟨h5, g5⟩ := CR_t h4 c5.lay f5
            have ff := hif_tr (hif_tr f3 f4) (cfr_hi (Or.inr rfl) h4.cc.hso f5)
            rw [if_pos z, kd1, gd_t rfl, ly1_5 h3.lay, kd160, gd_t rfl, ly1_4 h3.lay, kd153, gd_t rfl, ly160_0 h3.lay, kd161, gd_t rfl, ly153_0 h3.lay, e4, pb_1, u1_1, ly1_5 h4.lay, kd160, gd_t rfl, e5, pb_1, u2_1, ly1_5 h5.lay, kd160, gd_t rfl, flA_n c5, pb_1, u1_1]
            have st : bsS s d k (j + 1) = if (bsS s d k j).2 < flA s (teaA s (j : Int) d).2 then ((j : Int), flA s (teaA s (j : Int) d).2) else bsS s d k j := if_pos z
            by_cases y : (bsS s d k j).2 < flA s (teaA s (j : Int) d).2
            · rw [if_pos y] at st ⊢
              exact ⟨_, rfl, by rw [st], by rw [st], by simp, h5, ff⟩
            · rw [if_neg y] at st ⊢
              exact ⟨_, rfl, by rw [st], by rw [st], by simp, h5, ff⟩
          · have st : bsS s d k (j + 1) = bsS s d k j := if_neg z
            rw [if_neg z]
            exact ⟨_, rfl, by rw [st], by rw [st], by simp, h3, f3⟩
        · have ej : 2 ^ (s 0 0).toNat = j := by omega
          exact Or.inr ⟨((bsS s d k j).1, (bsS s d k j).2, M3), by rw [if_pos (by omega)], by rw [ej], by rw [ej], h3, f3⟩
    · have l := h.lay
      have hp := h.mm.ok.p
      have hbb := h.mm.b01
      have pp : 2 ^ (s 0 0).toNat ≤ 2 ^ 10 := Nat.pow_le_pow_right (by decide) (by omega)
      have p0 := Nat.two_pow_pos (s 0 0).toNat
      have e1 : fX9_is SH M k 2 4 = some 1 := by rw [isr_n, decide_eq_true hk.1]; rfl
      by_cases hv : 0 ≤ v ∧ v ≤ 1
      · have key := lp_rel (body := u4 (fX9_best_L41 SH 167 k v)) (P := fun j (t : Int × Int × Int × AwM) => t.1 = (bsS s d k j).1 ∧ t.2.1 = (bsS s d k j).2 ∧ t.2.2.1 = (j : Int) ∧ MR t.2.2.2 s d n R mi ∧ lof t.2.2.2 M) (X := fun r : Int × Int × AwM => r.1 = (bsS s d k (2 ^ (s 0 0).toNat)).1 ∧ r.2.1 = (bsS s d k (2 ^ (s 0 0).toNat)).2 ∧ MR r.2.2 s d n R mi ∧ lof r.2.2 M) (n := 2 ^ (s 0 0).toNat) ?_ FU (-1, -1, 0, M) (FU_gt (by omega)) ⟨rfl, rfl, rfl, h, fun _ _ _ => rfl⟩
        · obtain ⟨⟨a, b, M'⟩, e, e1', e2, h', f'⟩ := key
          change a = _ at e1'
          change b = _ at e2
          subst e1'
          subst e2
          refine ⟨M', ?_, h', f'⟩
          show fX9_best SH M 167 k v = _
          unfold fX9_best
          rw [e1, pb_1, u1_1, if_neg (by decide), kd167, gd_t rfl, ly167_14 l, kd169, ga_t (by omega) (by omega), h.mm.n0, if_neg (by omega), isr_n, pb_1, u1_1, bi_if, if_pos (decide_eq_true hv), e, pb_1, u3_1]
          by_cases v0 : v = 0
          · rw [if_pos v0, if_pos v0]
          · rw [if_neg v0, if_neg v0, if_pos (by omega)]
        · rintro j ⟨a, b, i, M3⟩ hj ⟨ha, hb', hi, h3, f3⟩
          change a = _ at ha
          change b = _ at hb'
          change i = (j : Int) at hi
          change MR M3 s d n R mi at h3
          subst ha
          subst hb'
          subst hi
          have hb3 := h3.mm.b01
          have sl : sl_ 1 (s 0 0) = ((2 ^ (s 0 0).toNat : Nat) : Int) := by
            rw [sl1_n (by omega) (by omega)]
            unfold stb
            simp
          rw [u4_1]
          unfold fX9_best_L41
          rw [kd167, gd_t rfl, ly167_14 h3.lay, kd169, ga_t (by omega) (by omega), h3.mm.n0, sl]
          by_cases hjn : j < 2 ^ (s 0 0).toNat
          · have hm : ms 10 (j : Int) := ms_n.mpr ⟨j, rfl, by omega⟩
            refine Or.inl ⟨hjn, ?_⟩
            rw [if_pos (by omega), bits_n (ms_up hm (by decide)), pb_1, u1_1, w32_s (v := (j : Int) + 1) (by omega) (by omega)]
            by_cases z : pc (j : Int) = k
            · obtain ⟨M4, e4, c4, h4, f4, g4⟩ := mtrial_n h3
              obtain ⟨M5, e5, c5, f5⟩ := teaOf_n c4 hm
              obtain ⟨h5, g5⟩ := MR_t h4 f5
              have ff := lof_tr (lof_tr f3 f4) (mfr_lo f5)
              rw [if_pos z, e4, pb_1, u1_1, e5, pb_1, u2_1, mflA_n c5, pb_1, u1_1, pb_1, u1_1]
              have st : bsS s d k (j + 1) = if (bsS s d k j).2 < flA s (teaA s (j : Int) d).2 then ((j : Int), flA s (teaA s (j : Int) d).2) else bsS s d k j := if_pos z
              by_cases y : (bsS s d k j).2 < flA s (teaA s (j : Int) d).2
              · rw [if_pos y] at st ⊢
                exact ⟨_, rfl, by rw [st], by rw [st], by simp, h5, ff⟩
              · rw [if_neg y] at st ⊢
                exact ⟨_, rfl, by rw [st], by rw [st], by simp, h5, ff⟩
            · have st : bsS s d k (j + 1) = bsS s d k j := if_neg z
              rw [if_neg z]
              exact ⟨_, rfl, by rw [st], by rw [st], by simp, h3, f3⟩
          · have ej : 2 ^ (s 0 0).toNat = j := by omega
            exact Or.inr ⟨((bsS s d k j).1, (bsS s d k j).2, M3), by rw [if_neg (by omega)], by rw [ej], by rw [ej], h3, f3⟩
      · refine ⟨M, ?_, h, fun _ _ _ => rfl⟩
        show fX9_best SH M 167 k v = _
        unfold fX9_best
        rw [e1, pb_1, u1_1, if_neg (by decide), kd167, gd_t rfl, ly167_14 l, kd169, ga_t (by omega) (by omega), h.mm.n0, if_neg (by omega), isr_n, pb_1, u1_1, bi_if, if_neg (by rw [decide_eq_false hv]; decide), if_neg (by omega), if_neg (by omega)]
  · refine ⟨-1, s, d, n, R, mi, fun M h => ⟨M, ?_, h, fun _ _ _ => rfl⟩, fun M h => ⟨M, ?_, h, fun _ _ _ => rfl⟩⟩
    · have l := h.lay
      show fX8_best SH M 1 k v = _
      unfold fX8_best
      by_cases a : k < 2
      · rw [if_pos a]
      · rw [if_neg a]
        by_cases b : 4 < k
        · rw [if_pos b]
        · rw [if_neg b, kd1, gd_t rfl, kso0 h.cc.hso, gd_t rfl, lso0_0 l h.cc.hso, kso1 h.cc.hso, gd_t (by decide), h.cc.n0, if_pos (by omega)]
    · have l := h.lay
      have hbb := h.mm.b01
      show fX9_best SH M 167 k v = _
      unfold fX9_best
      rw [isr_n, pb_1, u1_1, bi_if]
      by_cases a : 2 ≤ k ∧ k ≤ 4
      · rw [if_pos (decide_eq_true a), kd167, gd_t rfl, ly167_14 l, kd169, ga_t (by omega) (by omega), h.mm.n0, if_pos (by omega)]
      · rw [if_neg (by rw [decide_eq_false a]; decide)]
end PTRIAL
