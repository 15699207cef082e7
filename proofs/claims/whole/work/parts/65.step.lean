/-! present, pay: each side by itself -/
section PSTEP
/-- all but circle cr's ledger and scratch stays -/
def cfr (cr so : Int) (M' M : AwM) : Prop := ∀ a i : Int, ¬ (cr + 2 ≤ a ∧ a ≤ cr + 6) → a ≠ so + 12 → a ≠ so + 15 → ¬ (a = cr + 1 ∧ i = 0) → M' a i = M a i
theorem cfr_rf {cr so : Int} {M : AwM} : cfr cr so M M := fun _ _ _ _ _ _ => rfl
theorem cfr_tr {cr so : Int} {M M1 M2 : AwM} (h : cfr cr so M1 M) (h' : cfr cr so M2 M1) : cfr cr so M2 M := fun a i p q r t => (h' a i p q r t).trans (h a i p q r t)
theorem csc_cf {cr so : Int} {M M' : AwM} (h : csc cr so M' M) : cfr cr so M' M := fun a i p q r _ => h a i (by omega) q r
/-- all but layer L and scratch stays -/
def mfr (L : Int) (M' M : AwM) : Prop := ∀ a i : Int, a ≠ 202 → ¬ (a = 167 ∧ 57 ≤ i ∧ i ≤ 62) → ¬ (a = 197 ∧ i = L) → ¬ (198 ≤ a ∧ a ≤ 200 ∧ 12 * L ≤ i ∧ i < 12 * L + 12) → ¬ (a = 201 ∧ 120 * L ≤ i ∧ i < 120 * L + 120) → M' a i = M a i
theorem mfr_rf {L : Int} {M : AwM} : mfr L M M := fun _ _ _ _ _ _ _ => rfl
theorem mfr_tr {L : Int} {M M1 M2 : AwM} (h : mfr L M1 M) (h' : mfr L M2 M1) : mfr L M2 M := fun a i p q r t u => (h' a i p q r t u).trans (h a i p q r t u)
theorem msc_mf {L : Int} {M M' : AwM} (h : msc M' M) : mfr L M' M := fun a i p q _ _ _ => h a i p q
theorem lay_cf {cr so : Int} (hcr : cr = 153 ∨ cr = 160) (hso : so = 10 ∨ so = 137) : layT.all (fun q => decide (¬ (cr + 2 ≤ q.1 ∧ q.1 ≤ cr + 6) ∧ q.1 ≠ so + 12 ∧ q.1 ≠ so + 15 ∧ ¬ (q.1 = cr + 1 ∧ q.2.1 = 0))) = true := by
  rcases hcr with rfl | rfl <;> rcases hso with rfl | rfl <;> decide +kernel
theorem CC_of {M M' : AwM} {cr so : Int} {s d d' : AwM} (h : CC M cr so s d) (hf : cfr cr so M' M) (hd : LdOK s d') (hcl : CL M' (cr + 1) s d') : CC M' cr so s d' := by
  have hcr := h.hcr
  have hso := h.hso
  refine ⟨LAY_fq h.lay (fun q hq => ?_), hcr, hso, (hf _ _ (by omega) (by omega) (by omega) (by omega)).trans h.ref, h.ok, hd, CS_fr h.cs (fun a i _ _ _ => hf a i (by omega) (by omega) (by omega) (by omega)), hcl⟩
  have := of_decide_eq_true (List.all_eq_true.mp (lay_cf hcr hso) q hq)
  exact hf _ _ this.1 this.2.1 this.2.2.1 this.2.2.2
theorem lay_mf : layT.all (fun q => decide (q.1 ≠ 202 ∧ ¬ (q.1 = 167 ∧ 57 ≤ q.2.1 ∧ q.2.1 ≤ 62) ∧ ¬ (197 ≤ q.1))) = true := by decide +kernel
theorem LAY_mf {M M' : AwM} {L : Int} (h : LAY M) (hf : mfr L M' M) : LAY M' := by
  refine LAY_fq h (fun q hq => ?_)
  have := of_decide_eq_true (List.all_eq_true.mp lay_mf q hq)
  exact hf _ _ this.1 this.2.1 (by omega) (by omega) (by omega)
theorem MS_fr {M M' : AwM} {b : Int} {s : AwM} (h : MS M b s) (hp : ∀ a i, 169 ≤ a → a ≤ 189 → M' a i = M a i) : MS M' b s := by
  obtain ⟨⟨s1, s2, s3, s4, s5⟩, s6, s7, s8, s9, s10, s11, s12⟩ := h
  refine ⟨⟨?_, ?_, ?_, ?_, ?_⟩, ?_, ?_, ?_, ?_, ?_, ?_, ?_⟩
  · rw [hp _ _ (by omega) (by omega)]; exact s1
  · rw [hp _ _ (by omega) (by omega)]; exact s2
  · rw [hp _ _ (by omega) (by omega)]; exact s3
  · rw [hp _ _ (by omega) (by omega)]; exact s4
  · rw [hp _ _ (by omega) (by omega)]; exact s5
  · intro p p0 p1; rw [hp _ _ (by omega) (by omega)]; exact s6 p p0 p1
  · intro p p0 p1; rw [hp _ _ (by omega) (by omega)]; exact s7 p p0 p1
  · intro p p0 p1; rw [hp _ _ (by omega) (by omega)]; exact s8 p p0 p1
  · intro p p0 p1; rw [hp _ _ (by omega) (by omega)]; exact s9 p p0 p1
  · unfold MF at *
    rw [hp 181 b (by omega) (by omega), hp 182 b (by omega) (by omega)]
    refine ⟨s10.1, fun h0 => ?_⟩
    obtain ⟨u1, u2, u3, u4⟩ := s10.2 h0
    refine ⟨u1, u2, u3, fun i i0 i1 => ?_⟩
    rw [hp 185 _ (by omega) (by omega), hp 186 _ (by omega) (by omega)]
    exact u4 i i0 i1
  · unfold MF at *
    rw [hp 183 b (by omega) (by omega), hp 184 b (by omega) (by omega)]
    refine ⟨s11.1, fun h0 => ?_⟩
    obtain ⟨u1, u2, u3, u4⟩ := s11.2 h0
    refine ⟨u1, u2, u3, fun i i0 i1 => ?_⟩
    rw [hp 185 _ (by omega) (by omega), hp 186 _ (by omega) (by omega)]
    exact u4 i i0 i1
  · intro k w k0 k1 w0 w1
    have := s12 k w k0 k1 w0 w1
    unfold mnm at *
    rw [hp 187 _ (by omega) (by omega), hp 188 _ (by omega) (by omega), hp 189 _ (by omega) (by omega)]
    exact this
theorem ML_fr {M M' : AwM} {L : Int} {s d : AwM} (h : ML M L s d) (ho : SoOK s) (h7 : M' 197 L = M 197 L) (h8 : ∀ a i, 198 ≤ a → a ≤ 200 → 12 * L ≤ i → i < 12 * L + 12 → M' a i = M a i) (h9 : ∀ i, 120 * L ≤ i → i < 120 * L + 120 → M' 201 i = M 201 i) : ML M' L s d := by
  obtain ⟨c1, c2, c3, c4, c5⟩ := h
  have hc := ho.c
  have hp := ho.p
  refine ⟨h7.trans c1, ?_, ?_, ?_, ?_⟩
  · intro p p0 p1; rw [h8 _ _ (by omega) (by omega) (by omega) (by omega)]; exact c2 p p0 p1
  · intro p p0 p1; rw [h8 _ _ (by omega) (by omega) (by omega) (by omega)]; exact c3 p p0 p1
  · intro p p0 p1; rw [h8 _ _ (by omega) (by omega) (by omega) (by omega)]; exact c4 p p0 p1
  · intro c p p0 p1 p2 p3 p4; rw [h9 _ (by omega) (by omega)]; exact c5 c p p0 p1 p2 p3 p4
theorem MM_of {M M' : AwM} {b L : Int} {s d d' : AwM} (h : MM M b L s d) (hf : mfr L M' M) (hd : LdOK s d') (hml : ML M' L s d') : MM M' b L s d' :=
  ⟨LAY_mf h.lay hf, (hf _ _ (by decide) (by decide) (by omega) (by omega) (by omega)).trans h.bk, h.b01, h.l21, h.ok, hd, MS_fr h.ms (fun a i _ _ => hf a i (by omega) (by omega) (by omega) (by omega) (by omega)), hml⟩
theorem up_self {M : AwM} {a i v : Int} (h : M a i = v) : up_ M a i v = M := by
  funext x y
  unfold up_
  by_cases g : x = a ∧ y = i
  · rw [if_pos g, g.1, g.2, h]
  · rw [if_neg g]
theorem nob_c {cr k : Int} (h : cr = 153 ∨ cr = 160) (k0 : 2 ≤ k) (k1 : k ≤ 6) : cr + k ∉ obL := by
  have : k = 2 ∨ k = 3 ∨ k = 4 ∨ k = 5 ∨ k = 6 := by omega
  rcases h with rfl | rfl <;> rcases this with rfl | rfl | rfl | rfl | rfl <;> decide
theorem LAY_ua {M : AwM} {a i v : Int} (h : LAY M) (ha : a ∉ obL) : LAY (up_ M a i v) := LAY_fr h (fun x j hx => up_of (ob_ne hx ha))
theorem setMet_n {M : AwM} {cr c p v : Int} (l : LAY M) (hcr : cr = 153 ∨ cr = 160) (c0 : 0 ≤ c) (c1 : c < 12) (p0 : 0 ≤ p) (p1 : p < 10) : fX3_setMet SH M (cr + 1) c p v = some (up_ M (cr + 5) (10 * c + p) v) := by
  have e10 : c * 10 = 10 * c := by omega
  unfold fX3_setMet
  rw [w32_s (v := c * 10) (by omega) (by omega), e10, w32_s (v := 10 * c + p) (by omega) (by omega), if_neg (by omega), if_pos (by omega), kcr1 hcr, gd_t rfl, lcr1_4 l hcr, kcr5 hcr, ga_t (by omega) (by omega), bd_1]
theorem metOn_n {M : AwM} {cr c p : Int} (l : LAY M) (hcr : cr = 153 ∨ cr = 160) (c0 : 0 ≤ c) (c1 : c < 12) (p0 : 0 ≤ p) (p1 : p < 10) : fX3_metOn SH M (cr + 1) c p = some (M (cr + 5) (10 * c + p)) := by
  have e10 : c * 10 = 10 * c := by omega
  unfold fX3_metOn
  rw [w32_s (v := c * 10) (by omega) (by omega), e10, w32_s (v := 10 * c + p) (by omega) (by omega), if_neg (by omega), if_pos (by omega), kcr1 hcr, gd_t rfl, lcr1_4 l hcr, kcr5 hcr, ga_t (by omega) (by omega)]
theorem meet_n {M : AwM} {cr c p k v : Int} (l : LAY M) (hcr : cr = 153 ∨ cr = 160) (c0 : 0 ≤ c) (c1 : c < 12) (p0 : 0 ≤ p) (p1 : p < 10) (hk : M (cr + 3) c = k) (km : ms 10 k) (hv : M (cr + 1) 0 = v) : fX0_meet SH M cr c p = some (up_ (up_ M (cr + 3) c (stb k p)) (cr + 5) (10 * c + p) v) := by
  have kl := ms_lt km (by omega)
  have l' : LAY (up_ M (cr + 3) c (stb k p)) := LAY_ua l (nob_c hcr (by omega) (by omega))
  unfold fX0_meet
  rw [kcr0 hcr, gd_t rfl, lcr0_0 l hcr, kcr1 hcr, gd_t rfl, lcr1_2 l hcr, kcr3 hcr, ga_t c0 (by omega), hk, stb_n kl.1 kl.2 p0 (by omega), bd_1, lcr0_0 l' hcr, kcr1 hcr, gd_t rfl, setMet_n l' hcr c0 c1 p0 p1, pb_1, u1_1, up_of (by omega), hv]
theorem presentTo_n {M : AwM} {cr so : Int} {s d : AwM} (h : CC M cr so s d) {c p : Int} (c0 : 0 ≤ c) (c1 : c < s 0 1) (p0 : 0 ≤ p) (p1 : p < s 0 0) (hb' : cbp d c p = true) : ∃ M', fX0_presentTo SH M cr c p = some (bi (tH s d c p), M') ∧ CC M' cr so s (pre s d c p) ∧ cfr cr so M' M := by
  have hcr := h.hcr
  have hc := h.ok.c
  have hp := h.ok.p
  obtain ⟨k1, k2⟩ := cbp_t hb'
  obtain ⟨M4, e4, f4⟩ := testHolds_n h c0 c1 p0 p1
  have h4 : CC M4 cr so s d := CC_sc h f4
  unfold fX0_presentTo pre
  rw [kcr0 hcr, gd_t rfl, e4, pb_1, u2_1]
  cases ht : tH s d c p with
  | true =>
    have g1 : cfr cr so (up_ (up_ M4 (cr + 3) c (stb (d 2 c) p)) (cr + 5) (10 * c + p) (d 0 0)) M := cfr_tr (csc_cf f4) (fun a i x1 x2 x3 x4 => by rw [up_of (by omega), up_of (by omega)])
    refine ⟨_, by rw [if_neg (by decide), meet_n h4.lay hcr c0 (by omega) p0 (by omega) (h4.kn c0 c1) (ms_up (h4.ld.kn c c0 c1) (by omega)) h4.day, pb_1, u1_1]; rfl, ?_, g1⟩
    rw [if_pos rfl]
    have := CL_lea h4.cl h.ok c0 c1 p0 p1
    rw [Int.add_assoc, Int.add_assoc] at this
    exact CC_of h g1 (LdOK_lea h.ld h.ok c0 c1 p0 p1 k2) this
  | false =>
    have g1 : cfr cr so (up_ M4 (cr + 4) c (stb (d 3 c) p)) M := cfr_tr (csc_cf f4) (fun a i x1 x2 x3 x4 => up_of (by omega))
    have kl := ms_lt (h.ld.sn c c0 c1) (show (s 0 0).toNat ≤ 31 by omega)
    refine ⟨_, by rw [if_pos (by decide), lcr0_0 h4.lay hcr, kcr1 hcr, gd_t rfl, lcr1_3 h4.lay hcr, kcr4 hcr, ga_t c0 (by omega), h4.sn c0 c1, stb_n kl.1 kl.2 p0 (by omega), bd_1]; rfl, ?_, g1⟩
    rw [if_neg (by decide)]
    have := CL_snu (c := c) (p := p) h4.cl
    rw [Int.add_assoc] at this
    exact CC_of h g1 (LdOK_snu h.ld h.ok c0 c1 p0 p1 k1) this
theorem payTo_n {M : AwM} {cr so : Int} {s d : AwM} (h : CC M cr so s d) {c p : Int} (c0 : 0 ≤ c) (c1 : c < s 0 1) (p0 : 0 ≤ p) (p1 : p < s 0 0) (hk : hb (d 2 c) p = true) : ∃ M', fX0_payTo SH M cr c p = some M' ∧ CC M' cr so s (pya d c p) ∧ cfr cr so M' M := by
  have hcr := h.hcr
  have hc := h.ok.c
  have hp := h.ok.p
  obtain ⟨q0, q1⟩ := h.ld.ho c c0 c1
  have km := ms_up (h.ld.kn c c0 c1) (show (s 0 0).toNat ≤ 10 by omega)
  have l5 : LAY (up_ M (cr + 5) (10 * c + d 1 c) (d 0 0)) := LAY_ua h.lay (nob_c hcr (by omega) (by omega))
  have l7 : LAY (up_ (up_ M (cr + 5) (10 * c + d 1 c) (d 0 0)) (cr + 5) (10 * c + p) (d 0 0)) := LAY_ua l5 (nob_c hcr (by omega) (by omega))
  have g1 : cfr cr so (up_ (up_ (up_ M (cr + 5) (10 * c + d 1 c) (d 0 0)) (cr + 5) (10 * c + p) (d 0 0)) (cr + 2) c p) M := fun a i x1 x2 x3 x4 => by rw [up_of (by omega), up_of (by omega), up_of (by omega)]
  have k5 : up_ M (cr + 5) (10 * c + d 1 c) (d 0 0) (cr + 3) c = d 2 c := (up_of (by omega)).trans (h.kn c0 c1)
  refine ⟨_, ?_, ?_, g1⟩
  · unfold fX0_payTo
    rw [kcr0 hcr, gd_t rfl, lcr0_0 h.lay hcr, kcr1 hcr, gd_t rfl, lcr1_1 h.lay hcr, kcr2 hcr, ga_t c0 (by omega), h.ho c0 c1, meet_n h.lay hcr c0 (by omega) q0 (by omega) (h.kn c0 c1) km h.day, pb_1, u1_1, stb_id km q0 (h.ld.kh c c0 c1), up_self (h.kn c0 c1), meet_n l5 hcr c0 (by omega) p0 (by omega) k5 km ((up_of (by omega)).trans h.day), pb_1, u1_1, stb_id km p0 hk, up_self k5, lcr0_0 l7 hcr, kcr1 hcr, gd_t rfl, lcr1_1 l7 hcr, kcr2 hcr, ga_t c0 (by omega), bd_1]
  · have := CL_pya (c := c) h.cl h.ok ⟨q0, q1⟩ p0 p1
    rw [Int.add_assoc, Int.add_assoc] at this
    exact CC_of h g1 (LdOK_pya h.ld h.ok c0 c1 p0 p1 hk) this
theorem meets_n {M : AwM} {L c p v : Int} (l : LAY M) (L0 : 0 ≤ L) (L1 : L ≤ 21) (c0 : 0 ≤ c) (c1 : c < 12) (p0 : 0 ≤ p) (p1 : p < 10) (hv : M 197 L = v) : fX9_meets SH M 167 L c p = some (up_ M 201 (120 * L + (10 * c + p)) v) := by
  unfold fX9_meets
  rw [kd167, gd_t rfl, ly167_48 l, kd197, ga_t L0 (by omega), ly167_52 l, kd201, w32_s (v := 120 * L) (by omega) (by omega), w32_s (v := 10 * c) (by omega) (by omega), w32_s (v := 120 * L + 10 * c) (by omega) (by omega), w32_s (v := 120 * L + 10 * c + p) (by omega) (by omega), Int.add_assoc, ga_t (by omega) (by omega), bd_1, hv]
theorem nob_m : ∀ a : Int, a = 198 ∨ a = 199 ∨ a = 200 ∨ a = 201 ∨ a = 202 ∨ a = 197 → a ∉ obL := by
  rintro a (rfl | rfl | rfl | rfl | rfl | rfl) <;> decide
theorem presents_n {M : AwM} {b L : Int} {s d : AwM} (h : MM M b L s d) {c p : Int} (c0 : 0 ≤ c) (c1 : c < s 0 1) (p0 : 0 ≤ p) (p1 : p < s 0 0) (hb' : cbp d c p = true) : ∃ M', fX9_presents SH M 167 L c p = some (bi (tH s d c p), M') ∧ MM M' b L s (pre s d c p) ∧ mfr L M' M := by
  have hL := h.l21
  have hc := h.ok.c
  have hp := h.ok.p
  obtain ⟨k1, k2⟩ := cbp_t hb'
  obtain ⟨M4, e4, f4⟩ := wouldKnow_n h c0 c1 p0 p1
  have h4 : MM M4 b L s d := MM_sc h f4
  have e1 : w32 (12 * L) = 12 * L := w32_s (by omega) (by omega)
  have e2 : w32 (12 * L + c) = 12 * L + c := w32_s (by omega) (by omega)
  unfold fX9_presents pre
  rw [kd167, gd_t rfl, e4, pb_1, u2_1, e1, e2]
  cases ht : tH s d c p with
  | true =>
    have kl := ms_lt (h.ld.kn c c0 c1) (show (s 0 0).toNat ≤ 31 by omega)
    have g1 : mfr L (up_ (up_ M4 199 (12 * L + c) (stb (d 2 c) p)) 201 (120 * L + (10 * c + p)) (d 0 0)) M := mfr_tr (msc_mf f4) (fun a i x1 x2 x3 x4 x5 => by
      rw [show up_ (up_ M4 199 (12 * L + c) (stb (d 2 c) p)) 201 (120 * L + (10 * c + p)) (d 0 0) a i = up_ M4 199 (12 * L + c) (stb (d 2 c) p) a i from if_neg (by omega)]
      exact if_neg (by omega))
    have l3 : LAY (up_ M4 199 (12 * L + c) (stb (d 2 c) p)) := LAY_ua h4.lay (nob_m _ (by decide))
    refine ⟨_, by
      rw [if_neg (by decide)]
      unfold fX9_learns
      rw [kd167, gd_t rfl, ly167_50 h4.lay, kd199, e1, e2, ga_t (by omega) (by omega), h4.kn c0 c1, stb_n kl.1 kl.2 p0 (by omega), bd_1, meets_n l3 hL.1 hL.2 c0 (by omega) p0 (by omega) ((up_of (by decide)).trans h4.day), pb_1, u1_1, pb_1, u1_1, gd_t (by decide)], ?_, g1⟩
    rw [if_pos rfl]
    exact MM_of h g1 (LdOK_lea h.ld h.ok c0 c1 p0 p1 k2) (ML_lea h4.ml h.ok c0 c1 p0 p1)
  | false =>
    have kl := ms_lt (h.ld.sn c c0 c1) (show (s 0 0).toNat ≤ 31 by omega)
    have g1 : mfr L (up_ M4 200 (12 * L + c) (stb (d 3 c) p)) M := mfr_tr (msc_mf f4) (fun a i x1 x2 x3 x4 x5 => if_neg (by omega))
    refine ⟨_, by rw [if_pos (by decide), ly167_51 h4.lay, kd200, ga_t (by omega) (by omega), h4.sn c0 c1, stb_n kl.1 kl.2 p0 (by omega), bd_1, gd_t (by decide)], ?_, g1⟩
    rw [if_neg (by decide)]
    exact MM_of h g1 (LdOK_snu h.ld h.ok c0 c1 p0 p1 k1) (ML_snu h4.ml)
theorem pays_n {M : AwM} {b : Int} {s d : AwM} (h : MM M b 0 s d) {c p : Int} (c0 : 0 ≤ c) (c1 : c < s 0 1) (p0 : 0 ≤ p) (p1 : p < s 0 0) (hk : hb (d 2 c) p = true) : ∃ M', fX9_pays SH M 167 c p = some M' ∧ MM M' b 0 s (pya d c p) ∧ mfr 0 M' M := by
  have hc := h.ok.c
  have hp := h.ok.p
  obtain ⟨q0, q1⟩ := h.ld.ho c c0 c1
  have h1 : M 198 c = d 1 c := by have := h.ho c0 c1; rwa [Int.mul_zero, Int.zero_add] at this
  have l4 : LAY (up_ M 201 (120 * 0 + (10 * c + d 1 c)) (d 0 0)) := LAY_ua h.lay (nob_m _ (by decide))
  have l6 : LAY (up_ (up_ M 201 (120 * 0 + (10 * c + d 1 c)) (d 0 0)) 198 c p) := LAY_ua l4 (nob_m _ (by decide))
  have g1 : mfr 0 (up_ (up_ (up_ M 201 (120 * 0 + (10 * c + d 1 c)) (d 0 0)) 198 c p) 201 (120 * 0 + (10 * c + p)) (d 0 0)) M := fun a i x1 x2 x3 x4 x5 => by
    rw [show up_ (up_ (up_ M 201 (120 * 0 + (10 * c + d 1 c)) (d 0 0)) 198 c p) 201 (120 * 0 + (10 * c + p)) (d 0 0) a i = up_ (up_ M 201 (120 * 0 + (10 * c + d 1 c)) (d 0 0)) 198 c p a i from if_neg (by omega)]
    rw [show up_ (up_ M 201 (120 * 0 + (10 * c + d 1 c)) (d 0 0)) 198 c p a i = up_ M 201 (120 * 0 + (10 * c + d 1 c)) (d 0 0) a i from if_neg (by omega)]
    exact if_neg (by omega)
  refine ⟨_, ?_, ?_, g1⟩
  · unfold fX9_pays
    rw [kd167, gd_t rfl, ly167_49 h.lay, kd198, ga_t c0 (by omega), h1, meets_n h.lay (by decide) (by decide) c0 (by omega) q0 (by omega) h.day, pb_1, u1_1, ly167_49 l4, kd198, ga_t c0 (by omega), bd_1, meets_n l6 (by decide) (by decide) c0 (by omega) p0 (by omega) (((up_of (by decide)).trans (up_of (by decide))).trans h.day), pb_1, u1_1]
  · have := ML_pya (c := c) h.ml h.ok ⟨q0, q1⟩ p0 p1
    rw [show 12 * (0 : Int) + c = c by omega] at this
    exact MM_of h g1 (LdOK_pya h.ld h.ok c0 c1 p0 p1 hk) this
end PSTEP
