/-! introduce: the class -/
section PINTRO
theorem dff_n {m w : Int} (hm : ms 12 m) (hw : ms 12 w) : ms 12 (an_ m (xo_ w (-1))) ∧ ∀ q : Int, hb (an_ m (xo_ w (-1))) q = (hb m q && !hb w q) := by
  obtain ⟨a, rfl, ha⟩ := ms_n.mp hm
  obtain ⟨b, rfl, hb'⟩ := ms_n.mp hw
  have hx : a ^^^ (a &&& b) < 2 ^ 12 := Nat.xor_lt_two_pow ha (Nat.lt_of_le_of_lt Nat.and_le_left ha)
  have e : an_ (a : Int) (xo_ (b : Int) (-1)) = ((a ^^^ (a &&& b) : Nat) : Int) := by
    unfold an_ xo_
    rw [i32_t, iN, iN, ← nI_toInt (show a ^^^ (a &&& b) < 2 ^ 31 by omega)]
    congr 1
    apply Int32.toBitVec_inj.1
    show BitVec.ofNat 32 a &&& (BitVec.ofNat 32 b ^^^ BitVec.ofInt 32 (-1)) = BitVec.ofNat 32 (a ^^^ (a &&& b))
    apply BitVec.eq_of_getLsbD_eq
    intro i hi
    have hm : (BitVec.ofInt 32 (-1)).getLsbD i = true := by
      have : BitVec.ofInt 32 (-1) = BitVec.allOnes 32 := by decide
      rw [this, BitVec.getLsbD_allOnes]
      exact decide_eq_true hi
    simp only [BitVec.getLsbD_and, BitVec.getLsbD_xor, BitVec.getLsbD_ofNat, hm, Nat.testBit_xor, Nat.testBit_and]
    cases a.testBit i <;> cases b.testBit i <;> simp [hi]
  rw [e]
  refine ⟨ms_n.mpr ⟨_, rfl, hx⟩, fun q => ?_⟩
  unfold hb
  simp only [Int.toNat_natCast, Nat.testBit_xor, Nat.testBit_and]
  cases a.testBit q.toNat <;> cases b.testBit q.toNat <;> rfl
/-- what can be told -/
def inB (s d : AwM) (v p c : Int) : Bool := hb (hld s d v) c && (cbp d c p && tH s d c p)
def inT (s d : AwM) (v p : Int) : Int := accB (inB s d v p) (s 0 1).toNat
theorem inT_hb {s d : AwM} {v p q : Int} (q0 : 0 ≤ q) : hb (inT s d v p) q = (decide (q < (s 0 1).toNat) && inB s d v p q) := accB_hb _ q0 _
theorem inT_ms {s d : AwM} {v p : Int} (ho : SoOK s) : ms 12 (inT s d v p) := ms_up (accB_ms _ _) (by have := ho.c; omega)
def wqS (s d : AwM) (S p : Int) : Nat → Int × Int
  | 0 => (-1, 0)
  | j + 1 => if hb S (j : Int) = true ∧ (wqS s d S p j).2 < s 2 (j : Int) ∧ cbp d (j : Int) p = true ∧ tH s d (j : Int) p = true then ((j : Int), s 2 (j : Int)) else wqS s d S p j
theorem wqS_t {s d : AwM} {S p : Int} {j : Nat} (h : hb S (j : Int) = true ∧ (wqS s d S p j).2 < s 2 (j : Int) ∧ cbp d (j : Int) p = true ∧ tH s d (j : Int) p = true) : wqS s d S p (j + 1) = ((j : Int), s 2 (j : Int)) := if_pos h
theorem wqS_f {s d : AwM} {S p : Int} {j : Nat} (h : ¬ (hb S (j : Int) = true ∧ (wqS s d S p j).2 < s 2 (j : Int) ∧ cbp d (j : Int) p = true ∧ tH s d (j : Int) p = true)) : wqS s d S p (j + 1) = wqS s d S p j := if_neg h
theorem wqS_p {s d : AwM} {S p : Int} (ho : SoOK s) : ∀ j : Nat, (j : Int) ≤ s 0 1 → (wqS s d S p j = (-1, 0) ∧ ∀ q : Int, 0 ≤ q → q < j → hb S q = true → cbp d q p = true → tH s d q p = true → False) ∨ ∃ g : Int, 0 ≤ g ∧ g < j ∧ wqS s d S p j = (g, s 2 g) ∧ hb S g = true ∧ cbp d g p = true ∧ tH s d g p = true ∧ ∀ q : Int, 0 ≤ q → q < j → hb S q = true → cbp d q p = true → tH s d q p = true → s 2 q < s 2 g ∨ (s 2 q = s 2 g ∧ g ≤ q)
  | 0, _ => Or.inl ⟨rfl, fun q a b => by omega⟩
  | j + 1, hj => by
    have w := ho.wo (j : Int) (by omega) (by omega)
    by_cases c : hb S (j : Int) = true ∧ (wqS s d S p j).2 < s 2 (j : Int) ∧ cbp d (j : Int) p = true ∧ tH s d (j : Int) p = true
    · refine Or.inr ⟨j, by omega, by omega, wqS_t c, c.1, c.2.2.1, c.2.2.2, fun q q0 q1 x y z => ?_⟩
      by_cases e : q = (j : Int)
      · rw [e]; omega
      · rcases wqS_p (d := d) (S := S) (p := p) ho j (by omega) with ⟨_, h⟩ | ⟨g, g0, g1, e1, _, _, _, h⟩
        · exact absurd (h q q0 (by omega) x y z) id
        · have := h q q0 (by omega) x y z
          have c2 := c.2.1
          rw [e1] at c2
          change s 2 g < _ at c2
          omega
    · rw [wqS_f c]
      rcases wqS_p (d := d) (S := S) (p := p) ho j (by omega) with ⟨e1, h⟩ | ⟨g, g0, g1, e1, x1, x2, x3, h⟩
      · refine Or.inl ⟨e1, fun q q0 q1 x y z => ?_⟩
        by_cases e : q = (j : Int)
        · rw [e] at x y z
          rw [e1] at c
          exact c ⟨x, by show 0 < _; omega, y, z⟩
        · exact h q q0 (by omega) x y z
      · refine Or.inr ⟨g, g0, by omega, e1, x1, x2, x3, fun q q0 q1 x y z => ?_⟩
        by_cases e : q = (j : Int)
        · rw [e] at x y z ⊢
          rw [e1] at c
          by_cases k : s 2 g < s 2 (j : Int)
          · exact absurd ⟨x, k, y, z⟩ c
          · omega
        · exact h q q0 (by omega) x y z
theorem worst_n {M : AwM} {cr so : Int} {s d : AwM} (h : CC M cr so s d) {S p : Int} (hS : ms 12 S) (p0 : 0 ≤ p) (p1 : p < s 0 0) : ∃ M', fX0_worthiest SH M cr S p = some ((wqS s d S p (s 0 1).toNat).1, M') ∧ csc cr so M' M := by
  have hc := h.ok.c
  have hso := h.hso
  have key := lp_rel (body := u4 (fX0_worthiest_L8 SH cr S p)) (P := fun j (t : Int × Int × Int × AwM) => t.1 = (wqS s d S p j).1 ∧ t.2.1 = (wqS s d S p j).2 ∧ t.2.2.1 = (j : Int) ∧ csc cr so t.2.2.2 M) (X := fun r : Int × AwM => r.1 = (wqS s d S p (s 0 1).toNat).1 ∧ csc cr so r.2 M) (n := (s 0 1).toNat) ?_ FU (-1, 0, 0, M) (FU_gt (by omega)) ⟨rfl, rfl, rfl, csc_rf⟩
  · obtain ⟨⟨a, M'⟩, e, e1, f⟩ := key
    change a = _ at e1
    subst e1
    exact ⟨M', by unfold fX0_worthiest; rw [e, pb_1, u2_1], f⟩
  · rintro j ⟨a, b, i, M3⟩ hj ⟨ha, hb', hi, f3⟩
    change a = _ at ha
    change b = _ at hb'
    change i = (j : Int) at hi
    change csc cr so M3 M at f3
    subst ha
    subst hb'
    subst hi
    have h3 : CC M3 cr so s d := CC_sc h f3
    have l := h3.lay
    rw [u4_1]
    unfold fX0_worthiest_L8 fX0_worthiest_J76_8
    rw [kcr0 h.hcr, gd_t rfl, coins_n h3.cw, pb_1, u1_1, h3.n1]
    by_cases hjn : j < (s 0 1).toNat
    · refine Or.inl ⟨hjn, ?_⟩
      have j0 : (0 : Int) ≤ (j : Int) := by omega
      have j1 : (j : Int) < s 0 1 := by omega
      rw [if_pos j1, isIn_n hS (by decide), pb_1, u1_1, bi_if, hz_p j0, w32_s (v := (j : Int) + 1) (by omega) (by omega)]
      by_cases c1 : hb S (j : Int) = true
      · rw [if_pos c1, h3.ref, kso0 hso, gd_t rfl, lso0_3 l hso, kso4 hso, ga_t j0 (by omega), h3.wo j0 j1]
        by_cases c2 : (wqS s d S p j).2 < s 2 (j : Int)
        · rw [if_pos c2, canBe_n h3 j0 j1 p0, pb_1, u1_1, bi_if]
          by_cases c3 : cbp d (j : Int) p = true
          · obtain ⟨M4, e4, f4⟩ := testHolds_n h3 j0 j1 p0 p1
            have h4 : CC M4 cr so s d := CC_sc h3 f4
            rw [if_pos c3, e4, pb_1, u2_1, bi_if]
            by_cases c4 : tH s d (j : Int) p = true
            · rw [if_pos c4, h4.ref, kso0 hso, gd_t rfl, lso0_3 h4.lay hso, kso4 hso, ga_t j0 (by omega), h4.wo j0 j1]
              have e := wqS_t ⟨c1, c2, c3, c4⟩
              exact ⟨_, rfl, by rw [e], by rw [e], by simp, csc_tr f3 f4⟩
            · rw [if_neg c4]
              have e := wqS_f (s := s) (d := d) (S := S) (p := p) (j := j) (fun z => c4 z.2.2.2)
              exact ⟨_, rfl, by rw [e], by rw [e], by simp, csc_tr f3 f4⟩
          · rw [if_neg c3]
            have e := wqS_f (s := s) (d := d) (S := S) (p := p) (j := j) (fun z => c3 z.2.2.1)
            exact ⟨_, rfl, by rw [e], by rw [e], by simp, f3⟩
        · rw [if_neg c2]
          have e := wqS_f (s := s) (d := d) (S := S) (p := p) (j := j) (fun z => c2 z.2.1)
          exact ⟨_, rfl, by rw [e], by rw [e], by simp, f3⟩
      · rw [if_neg c1]
        have e := wqS_f (s := s) (d := d) (S := S) (p := p) (j := j) (fun z => c1 z.1)
        exact ⟨_, rfl, by rw [e], by rw [e], by simp, f3⟩
    · have ej : (s 0 1).toNat = j := by omega
      exact Or.inr ⟨((wqS s d S p j).1, M3), by rw [if_neg (by omega)], by rw [ej], f3⟩
theorem intro_n {M : AwM} {cr so : Int} {s d : AwM} (h : CC M cr so s d) {v p need : Int} (p0 : 0 ≤ p) (p1 : p < s 0 0) : ∃ r M', fX0_introductions SH M cr v p need = some (r, M') ∧ csc cr so M' M ∧ IsO (s 2) (inT s d v p) (s 0 1).toNat need (spA s d v p) r := by
  have hc := h.ok.c
  have hso := h.hso
  have hn : (s 0 1).toNat ≤ 12 := by omega
  have hTn : ∀ q : Int, 0 ≤ q → hb (inT s d v p) q = true → q < ((s 0 1).toNat : Int) := fun q q0 hq => by
    rw [inT_hb q0] at hq
    exact of_decide_eq_true (Bool.and_eq_true_iff.mp hq).1
  have hTi : ∀ q : Int, 0 ≤ q → q < s 0 1 → (hb (inT s d v p) q = true ↔ hb (hld s d v) q = true ∧ cbp d q p = true ∧ tH s d q p = true) := fun q q0 q1 => by
    rw [inT_hb q0, decide_eq_true (show q < ((s 0 1).toNat : Int) by omega), Bool.true_and]
    unfold inB
    rw [Bool.and_eq_true, Bool.and_eq_true]
  have sb := wts_b h.ok (an_ (hld s d v) (kng s d p))
  have key := lp_rel (body := u4 (fX0_introductions_L21 SH cr p need (hld s d v))) (P := fun j (t : Int × Int × Int × AwM) => t.1 = spA s d v p + wts s t.2.1 ∧ GP (s 2) (inT s d v p) (s 0 1).toNat (j : Int) t.2.1 ∧ t.2.2.1 = (j : Int) ∧ csc cr so t.2.2.2 M ∧ ∀ x, vst (inT s d v p) x → pc x < (j : Int) → spA s d v p + wtS (s 2) x (s 0 1).toNat < need)
    (X := fun r : (AwM) ⊕ ((Int × AwM) ⊕ (AwM)) => ∃ o M', csc cr so M' M ∧ IsO (s 2) (inT s d v p) (s 0 1).toNat need (spA s d v p) o ∧ (r = .inr (.inl (o, M')) ∨ (o = -1 ∧ r = .inr (.inr M')))) (n := 12) ?_ FU (spA s d v p, 0, 0, M) (FU_gt (by omega)) ⟨?_, gp0 _ _ _, rfl, csc_rf, fun x hx hp => ?_⟩
  · obtain ⟨r, e, o, M', f, io, hr⟩ := key
    refine ⟨o, M', ?_, f, io⟩
    unfold fX0_introductions
    rw [kcr0 h.hcr, gd_t rfl, hld_n h, pb_1, u1_1, spA_n h, pb_1, u1_1, e, pb_1]
    rcases hr with rfl | ⟨rfl, rfl⟩ <;> rfl
  · rintro j ⟨a, G, i, M3⟩ hj ⟨ha, hG, hi, f3, hx⟩
    change a = _ + wts s G at ha
    change GP _ _ _ _ G at hG
    change i = (j : Int) at hi
    change csc cr so M3 M at f3
    subst ha
    subst hi
    have h3 : CC M3 cr so s d := CC_sc h f3
    have gb := wts_b h.ok G
    have pcG := pc_b G
    have pj := hG.2.1
    unfold spA at *
    rw [u4_1]
    unfold fX0_introductions_L21
    rw [if_neg (by omega)]
    by_cases k : wts s (an_ (hld s d v) (kng s d p)) + wts s G < need
    · obtain ⟨mD, bD⟩ := dff_n (m := hld s d v) (w := G) (hld_ms h.ok) hG.1.1
      obtain ⟨M4, e4, f4⟩ := worst_n h3 mD p0 p1
      have h4 : CC M4 cr so s d := CC_sc h3 f4
      rw [if_pos k, kcr0 h.hcr, gd_t rfl, e4, pb_1, u2_1]
      rcases wqS_p (d := d) (S := an_ (hld s d v) (xo_ G (-1))) (p := p) h.ok (s 0 1).toNat (by omega) with ⟨e1, hq⟩ | ⟨g, g0, g1, e1, x1, x2, x3, hq⟩
      · rw [e1, if_pos rfl]
        refine Or.inr ⟨_, rfl, -1, M4, csc_tr f3 f4, Or.inl ⟨rfl, fun x hx => ?_⟩, Or.inr ⟨rfl, rfl⟩⟩
        have := gpE (W := s 2) (T := inT s d v p) (n := (s 0 1).toNat) (G := G) hn (fun q q0 q1 => by have := h.ok.wo q q0 (by omega); omega) (fun q q0 y z => by
          have q1 := hTn q q0 y
          have t := (hTi q q0 (by omega)).mp y
          exact absurd (hq q q0 q1 (by rw [bD, t.1, z]; rfl) t.2.1 t.2.2) id) x hx
        have e5 : wts s G = wtS (s 2) G (s 0 1).toNat := rfl
        omega
      · rw [bD, Bool.and_eq_true, Bool.not_eq_true'] at x1
        have gs := gpS hG hn hTn g0 ((hTi g g0 (by omega)).mpr ⟨x1.1, x2, x3⟩) x1.2 (by have := h.ok.wo g g0 (by omega); omega) (fun q q0 y z => by
          have q1 := hTn q q0 y
          have t := (hTi q q0 (by omega)).mp y
          exact hq q q0 q1 (by rw [bD, t.1, z]; rfl) t.2.1 t.2.2)
        have pcS := pc_b (stb G g)
        have pjS := gs.2.1
        have wg := h.ok.wo g g0 (by omega)
        have wS : wts s (stb G g) = wts s G + s 2 g := by
          have := wt_stb (f := s 2) g0 x1.2 (s 0 1).toNat
          rw [if_pos g1] at this
          exact this
        have mG := ms_lt hG.1.1 (by decide)
        rw [e1, if_neg (show ¬ g = -1 by omega), h4.ref, kso0 hso, gd_t rfl, lso0_3 h4.lay hso, kso4 hso, ga_t g0 (by omega), h4.wo g0 (by omega), w32_s (v := wts s (an_ (hld s d v) (kng s d p)) + wts s G + s 2 g) (by omega) (by omega), stb_n mG.1 mG.2 g0 (by omega), w32_s (v := (j : Int) + 1) (by omega) (by omega)]
        refine Or.inl ⟨by omega, _, rfl, ?_, by rw [show ((j + 1 : Nat) : Int) = (j : Int) + 1 by omega]; exact gs, by simp, csc_tr f3 f4, fun x hx' hp => ?_⟩
        · show _ = _ + wts s (stb G g)
          rw [wS]
          omega
        · have := (hG.2.2 x hx' (by omega)).1
          have e5 : wts s G = wtS (s 2) G (s 0 1).toNat := rfl
          omega
    · rw [if_neg k]
      refine Or.inr ⟨_, rfl, G, M3, f3, gpF hG ?_ hx, Or.inl rfl⟩
      show need ≤ _ + wts s G
      omega
  · show _ = _ + wts s 0
    have e0 : wts s 0 = 0 := by
      have a := wt_le (f := s 2) (x := 0) (G := 0) 0 (fun q a b => by omega) (fun q a b => by omega)
      have b : ∀ m : Nat, wtS (s 2) 0 m = 0 := fun m => by
        induction m with
        | zero => rfl
        | succ m ih => rw [wtS_s, ih, hz_p (by omega), hb_0]; rfl
      exact b _
    rw [e0]
    exact (Int.add_zero _).symm
  · have := pc_b x
    omega
end PINTRO
