/-! introduce alike -/
section PINTR2
theorem mcan_n {M : AwM} {b : Int} {s d : AwM} (h : MM M b 0 s d) {v p need : Int} (p0 : 0 ≤ p) (p1 : p < s 0 0) (v1 : Int) (v4 : Int) : ∃ M', lp (u3 (fX9_introduce_L51 SH 167 v1 p need v4 (hld s d v))) FU (0, 0, M) = some (inT s d v p, M') ∧ msc M' M := by
  have hc := h.ok.c
  have hp := h.ok.p
  have hbb := h.b01
  have key := lp_rel (body := u3 (fX9_introduce_L51 SH 167 v1 p need v4 (hld s d v))) (P := fun j (t : Int × Int × AwM) => t.1 = accB (inB s d v p) j ∧ t.2.1 = (j : Int) ∧ msc t.2.2 M) (X := fun r : Int × AwM => r.1 = inT s d v p ∧ msc r.2 M) (n := (s 0 1).toNat) ?_ FU (0, 0, M) (FU_gt (by omega)) ⟨rfl, rfl, msc_rf⟩
  · obtain ⟨⟨a, M'⟩, e, e1, f⟩ := key
    change a = _ at e1
    subst e1
    exact ⟨M', e, f⟩
  · rintro j ⟨a, i, M3⟩ hj ⟨ha, hi, f3⟩
    change a = _ at ha
    change i = (j : Int) at hi
    change msc M3 M at f3
    subst ha
    subst hi
    have h3 : MM M3 b 0 s d := MM_sc h f3
    have l := h3.lay
    rw [u3_1]
    unfold fX9_introduce_L51 fX9_introduce_J106_51
    rw [kd167, gd_t rfl, ly167_16 l, kd171, h3.bk, ga_t (by omega) (by omega), h3.n1]
    by_cases hjn : j < (s 0 1).toNat
    · refine Or.inl ⟨hjn, ?_⟩
      have j0 : (0 : Int) ≤ (j : Int) := by omega
      have j1 : (j : Int) < s 0 1 := by omega
      have hl := accB_lt (P := inB s d v p) (i := j) (by omega)
      have skip : ¬ inB s d v p (j : Int) = true → accB (inB s d v p) (j + 1) = accB (inB s d v p) j := fun z => if_neg z
      rw [if_pos j1, has2_n (hld_ms h.ok) (by decide) j0 (by omega), pb_1, u1_1, bi_if, hz_p j0, w32_s (v := (j : Int) + 1) (by omega) (by omega), or0_ hl.1 hl.2]
      by_cases c1 : hb (hld s d v) (j : Int) = true
      · rw [if_pos c1, canP_n h3 j0 j1 p0 (by omega), pb_1, u1_1, bi_if]
        by_cases c2 : cbp d (j : Int) p = true
        · obtain ⟨M4, e4, f4⟩ := wouldKnow_n h3 j0 j1 p0 p1
          rw [if_pos c2, e4, pb_1, u2_1, bi_if]
          by_cases c3 : tH s d (j : Int) p = true
          · rw [if_pos c3, stb_n hl.1 hl.2 j0 (by omega)]
            have e : accB (inB s d v p) (j + 1) = stb (accB (inB s d v p) j) (j : Int) := if_pos (by unfold inB; rw [c1, c2, c3]; rfl)
            exact ⟨_, rfl, by rw [e], by simp, msc_tr f3 f4⟩
          · rw [if_neg c3]
            exact ⟨_, rfl, by rw [skip (by unfold inB; rw [c1, c2]; simpa using c3)], by simp, msc_tr f3 f4⟩
        · rw [if_neg c2]
          exact ⟨_, rfl, by rw [skip (by unfold inB; rw [c1]; simp [c2])], by simp, f3⟩
      · rw [if_neg c1]
        exact ⟨_, rfl, by rw [skip (by unfold inB; simp [c1])], by simp, f3⟩
    · have ej : (s 0 1).toNat = j := by omega
      exact Or.inr ⟨(accB (inB s d v p) j, M3), by rw [if_neg (by omega)], by unfold inT; rw [ej], f3⟩
theorem mbst_n {M : AwM} {b : Int} {s d : AwM} (h : MM M b 0 s d) {T : Nat} (hT : T < 2 ^ (s 0 1).toNat) {need sp v4 : Int} (hsp : 0 ≤ sp ∧ sp ≤ 1188) : lp (u2 (fX9_introduce_L130 SH M 167 need v4 (T : Int) sp)) FU (-1, 0) = some (bst (s 2) T (s 0 1).toNat need sp (2 ^ (s 0 1).toNat)) := by
  have hc := h.ok.c
  have hbb := h.b01
  have h12 : 2 ^ (s 0 1).toNat ≤ 2 ^ 12 := Nat.pow_le_pow_right (by decide) (by omega)
  refine lp_cnt (body := u2 (fX9_introduce_L130 SH M 167 need v4 (T : Int) sp)) (fun i => (bst (s 2) T (s 0 1).toNat need sp i, (i : Int))) _ (2 ^ (s 0 1).toNat) ?_ ?_ FU (FU_gt (by omega))
  · intro i hi
    have mi : ms 12 (i : Int) := ms_n.mpr ⟨i, rfl, by omega⟩
    have wb := wts_b h.ok (i : Int)
    have e0 : wts s (i : Int) = wtS (s 2) (i : Int) (s 0 1).toNat := rfl
    have st : bst (s 2) T (s 0 1).toNat need sp (i + 1) = if i &&& T = i ∧ need ≤ sp + wtS (s 2) (i : Int) (s 0 1).toNat then (if bst (s 2) T (s 0 1).toNat need sp i = -1 ∨ pc (i : Int) < pc (bst (s 2) T (s 0 1).toNat need sp i) ∨ (pc (i : Int) = pc (bst (s 2) T (s 0 1).toNat need sp i) ∧ wtS (s 2) (bst (s 2) T (s 0 1).toNat need sp i) (s 0 1).toNat < wtS (s 2) (i : Int) (s 0 1).toNat) then (i : Int) else bst (s 2) T (s 0 1).toNat need sp i) else bst (s 2) T (s 0 1).toNat need sp i := rfl
    have bu := bst_u (W := s 2) (T := T) (n := (s 0 1).toNat) (need := need) (sp := sp) i
    generalize bst (s 2) T (s 0 1).toNat need sp i = B at *
    generalize bst (s 2) T (s 0 1).toNat need sp (i + 1) = C at *
    rw [u2_1]
    unfold fX9_introduce_L130 fX9_introduce_J219_130 fX9_introduce_J223_130 fX9_introduce_J224_130
    rw [kd167, gd_t rfl, ly167_16 h.lay, kd171, h.bk, ga_t (by omega) (by omega), h.n1, slc_n h, if_pos (by omega), w32_s (v := (i : Int) + 1) (by omega) (by omega), if_neg (show ¬ (1 : Int) = 0 by decide), if_pos (show (0 : Int) = 0 from rfl)]
    by_cases z : i &&& T = i
    · rw [if_pos ((sbs_n (by omega) (by omega)).mpr z), mwts_n h mi, pb_1, u1_1, w32_s (v := sp + wts s (i : Int)) (by omega) (by omega)]
      by_cases k : sp + wts s (i : Int) < need
      · rw [if_pos k, st, if_neg (by rw [← e0]; omega)]
        simp
      · rw [if_neg k]
        rw [if_pos ⟨z, by rw [← e0]; omega⟩] at st
        by_cases n1 : B = -1
        · rw [if_pos n1, st, if_pos (Or.inl n1)]
          simp
        · rcases bu with ⟨x, _⟩ | ⟨bb, rfl, b1, _⟩
          · exact absurd x n1
          · have mb : ms 12 (bb : Int) := ms_n.mpr ⟨bb, rfl, by omega⟩
            have e2 : wts s (bb : Int) = wtS (s 2) (bb : Int) (s 0 1).toNat := rfl
            rw [if_neg n1, bits_n mi, pb_1, u1_1, bits_n mb, pb_1, u1_1]
            by_cases c1 : pc (i : Int) < pc (bb : Int)
            · rw [if_pos c1, st, if_pos (Or.inr (Or.inl c1))]
              simp
            · rw [if_neg c1, pb_1, u1_1, pb_1, u1_1]
              by_cases c2 : pc (i : Int) = pc (bb : Int)
              · rw [if_pos c2, pb_1, u1_1, mwts_n h mb, pb_1, u1_1]
                by_cases c3 : wts s (bb : Int) < wts s (i : Int)
                · rw [if_pos c3, st, if_pos (Or.inr (Or.inr ⟨c2, c3⟩))]
                  simp
                · rw [if_neg c3, st, if_neg (by rw [← e0, ← e2]; omega)]
                  simp
              · rw [if_neg c2, st, if_neg (by omega)]
                simp
    · rw [if_neg (fun w => z ((sbs_n (by omega) (by omega)).mp w)), st, if_neg (fun w => z w.1)]
      simp
  · rw [u2_1]
    unfold fX9_introduce_L130
    rw [kd167, gd_t rfl, ly167_16 h.lay, kd171, h.bk, ga_t (by omega) (by omega), h.n1, slc_n h, if_neg (by omega)]
/-- the answer -/
def inR (s d : AwM) (v p need w : Int) : Int :=
  let o := bst (s 2) (inT s d v p).toNat (s 0 1).toNat need (spA s d v p) (2 ^ (s 0 1).toNat)
  if o = -1 then -1 else if w = 0 then pc o else if w = 1 then o else spA s d v p + wts s o
theorem inT_lt {s d : AwM} {v p : Int} (ho : SoOK s) : (inT s d v p).toNat < 2 ^ (s 0 1).toNat ∧ (((inT s d v p).toNat : Nat) : Int) = inT s d v p := by
  obtain ⟨a, e, ha⟩ := ms_n.mp (accB_ms (inB s d v p) (s 0 1).toNat)
  change inT s d v p = _ at e
  rw [e]
  exact ⟨by simpa using ha, by simp⟩
theorem introduce_b {s d : AwM} {n : Int} {R : Int → AwM} {mi : AwM} {v p need w : Int} : BSt (fun M => fX8_introduce SH M 1 v p need w) (fun M => fX9_introduce SH M 167 v p need w) s d n R mi := by
  by_cases ha : atw s v p = true
  · obtain ⟨hv, hp, hne⟩ := atw_t ha
    by_cases hn : need < 0
    · refine ⟨-1, s, d, n, R, mi, fun M h => ⟨M, ?_, h, fun _ _ _ => rfl⟩, fun M h => ⟨M, ?_, h, fun _ _ _ => rfl⟩⟩
      · show fX8_introduce SH M 1 v p need w = _
        unfold fX8_introduce
        rw [kd1, gd_t rfl, atw_n h, pb_1, u1_1, bi_if, if_pos ha, if_pos hn]
      · show fX9_introduce SH M 167 v p need w = _
        unfold fX9_introduce
        rw [kd167, gd_t rfl, (mis_n (c := 0) (p := v) h.mm).2, pb_1, u1_1, bi_if, if_pos (decide_eq_true hv), (mis_n (c := 0) (p := p) h.mm).2, pb_1, u1_1, bi_if, if_pos (decide_eq_true hp), if_neg hne, if_pos hn]
    · by_cases hw : 0 ≤ w ∧ w ≤ 2
      · refine ⟨inR s d v p need w, s, d, n, R, mi, fun M h => ?_, fun M h => ?_⟩
        · have ho := h.cc.ok
          have hc := ho.c
          have l := h.lay
          obtain ⟨r, M1, e1, f1, io⟩ := intro_n (need := need) (v := v) h.cc hp.1 hp.2
          obtain ⟨tl, te⟩ := inT_lt (d := d) (v := v) (p := p) ho
          have bo := bst_o (W := s 2) (need := need) (sp := spA s d v p) tl (by omega)
          rw [te] at bo
          have er := IsO_u io bo
          have h1 : CR M1 s d n R mi := CR_of h (csc_cf f1) (CC_sc h.cc f1)
          refine ⟨M1, ?_, h1, cfr_hi (Or.inl rfl) h.cc.hso (csc_cf f1)⟩
          show fX8_introduce SH M 1 v p need w = _
          unfold fX8_introduce
          rw [kd1, gd_t rfl, atw_n h, pb_1, u1_1, bi_if, if_pos ha, if_neg hn, ly1_4 l, kd153, gd_t rfl, e1, pb_1, u2_1]
          unfold inR
          rw [← er]
          by_cases z : r = -1
          · rw [if_pos z]
            show _ = some (if r = -1 then _ else _, M1)
            rw [if_pos z]
          · have mr : ms 12 r := by
              rcases io with ⟨x, _⟩ | ⟨x, _⟩
              · exact absurd x z
              · exact x.1
            have b1 := wts_b ho r
            have b2 := wts_b ho (an_ (hld s d v) (kng s d p))
            rw [if_neg z]
            show _ = some (if r = -1 then _ else _, M1)
            rw [if_neg z]
            by_cases w0 : w = 0
            · rw [if_pos w0, if_pos w0, bc_n mr, pb_1, u1_1]
            · rw [if_neg w0, if_neg w0]
              by_cases w1 : w = 1
              · rw [if_pos w1, if_pos w1]
              · rw [if_neg w1, if_neg w1, if_pos (show w = 2 by omega), ly1_4 h1.lay, kd153, gd_t rfl, spA_n h1.cc, pb_1, u1_1, kso0 h1.cc.hso, gd_t rfl, wts_n h1.cc mr, pb_1, u1_1, w32_s (v := spA s d v p + wts s r) (by unfold spA; omega) (by unfold spA; omega)]
        · have ho := h.mm.ok
          have hc := ho.c
          have hpp := ho.p
          have l := h.lay
          obtain ⟨M1, e1, f1⟩ := mcan_n h.mm hp.1 hp.2 (v := v) (need := need) v w
          have h1 : MR M1 s d n R mi := MR_of h (msc_mf f1) (MM_sc h.mm f1)
          obtain ⟨tl, te⟩ := inT_lt (d := d) (v := v) (p := p) ho
          have b2 := wts_b ho (an_ (hld s d v) (kng s d p))
          have e2 := mbst_n h1.mm tl (need := need) (sp := spA s d v p) (v4 := w) b2
          rw [te] at e2
          refine ⟨M1, ?_, h1, mfr_lo (msc_mf (L := 0) f1)⟩
          show fX9_introduce SH M 167 v p need w = _
          unfold fX9_introduce
          rw [kd167, gd_t rfl, (mis_n (c := 0) (p := v) h.mm).2, pb_1, u1_1, bi_if, if_pos (decide_eq_true hv), (mis_n (c := 0) (p := p) h.mm).2, pb_1, u1_1, bi_if, if_pos (decide_eq_true hp), if_neg hne, if_neg hn, isr_n, pb_1, u1_1, bi_if, if_pos (decide_eq_true hw), mhld_n h.mm, pb_1, u1_1, e1, pb_1, u2_1, mspA_n h1.mm hp.1 (by omega), pb_1, u1_1, e2, pb_1, u1_1]
          have bu := bst_u (W := s 2) (T := (inT s d v p).toNat) (n := (s 0 1).toNat) (need := need) (sp := spA s d v p) (2 ^ (s 0 1).toNat)
          unfold inR
          generalize bst (s 2) (inT s d v p).toNat (s 0 1).toNat need (spA s d v p) (2 ^ (s 0 1).toNat) = r at *
          have h12 : 2 ^ (s 0 1).toNat ≤ 2 ^ 12 := Nat.pow_le_pow_right (by decide) (by omega)
          by_cases z : r = -1
          · rw [if_pos z]
            show _ = some (if r = -1 then _ else _, M1)
            rw [if_pos z]
          · have mr : ms 12 r := by
              rcases bu with ⟨x, _⟩ | ⟨bb, rfl, x, _⟩
              · exact absurd x z
              · exact ms_n.mpr ⟨bb, rfl, by omega⟩
            have b1 := wts_b ho r
            rw [if_neg z]
            show _ = some (if r = -1 then _ else _, M1)
            rw [if_neg z]
            by_cases w0 : w = 0
            · rw [if_pos w0, if_pos w0, bits_n mr, pb_1, u1_1]
            · rw [if_neg w0, if_neg w0]
              by_cases w1 : w = 1
              · rw [if_pos w1, if_pos w1]
              · rw [if_neg w1, if_neg w1, mwts_n h1.mm mr, pb_1, u1_1, w32_s (v := spA s d v p + wts s r) (by unfold spA; omega) (by unfold spA; omega)]
      · refine ⟨-1, s, d, n, R, mi, fun M h => ?_, fun M h => ⟨M, ?_, h, fun _ _ _ => rfl⟩⟩
        · obtain ⟨r, M1, e1, f1, io⟩ := intro_n (need := need) (v := v) h.cc hp.1 hp.2
          refine ⟨M1, ?_, CR_of h (csc_cf f1) (CC_sc h.cc f1), cfr_hi (Or.inl rfl) h.cc.hso (csc_cf f1)⟩
          show fX8_introduce SH M 1 v p need w = _
          unfold fX8_introduce
          rw [kd1, gd_t rfl, atw_n h, pb_1, u1_1, bi_if, if_pos ha, if_neg hn, ly1_4 h.lay, kd153, gd_t rfl, e1, pb_1, u2_1]
          by_cases z : r = -1
          · rw [if_pos z]
          · rw [if_neg z, if_neg (by omega), if_neg (by omega), if_neg (by omega)]
        · show fX9_introduce SH M 167 v p need w = _
          unfold fX9_introduce
          rw [kd167, gd_t rfl, (mis_n (c := 0) (p := v) h.mm).2, pb_1, u1_1, bi_if, if_pos (decide_eq_true hv), (mis_n (c := 0) (p := p) h.mm).2, pb_1, u1_1, bi_if, if_pos (decide_eq_true hp), if_neg hne, if_neg hn, isr_n, pb_1, u1_1, bi_if, if_neg (by rw [decide_eq_false hw]; decide)]
  · refine ⟨-1, s, d, n, R, mi, fun M h => ⟨M, ?_, h, fun _ _ _ => rfl⟩, fun M h => ⟨M, ?_, h, fun _ _ _ => rfl⟩⟩
    · show fX8_introduce SH M 1 v p need w = _
      unfold fX8_introduce
      rw [kd1, gd_t rfl, atw_n h, pb_1, u1_1, bi_if, if_neg ha]
    · show fX9_introduce SH M 167 v p need w = _
      unfold fX9_introduce
      rw [kd167, gd_t rfl, (mis_n (c := 0) (p := v) h.mm).2, pb_1, u1_1, bi_if]
      by_cases hv : 0 ≤ v ∧ v < s 0 0
      · rw [if_pos (decide_eq_true hv), (mis_n (c := 0) (p := p) h.mm).2, pb_1, u1_1, bi_if]
        by_cases hp : 0 ≤ p ∧ p < s 0 0
        · rw [if_pos (decide_eq_true hp)]
          by_cases e : v = p
          · rw [if_pos e]
          · exact absurd (by unfold atw; rw [decide_eq_true hv, decide_eq_true hp, decide_eq_false e]; rfl) ha
        · rw [if_neg (by rw [decide_eq_false hp]; decide)]
      · rw [if_neg (by rw [decide_eq_false hv]; decide)]
end PINTR2
