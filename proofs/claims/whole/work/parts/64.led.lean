/-! a ledger's steps: learn, snub, pay; both places of it -/
section PLED
def lea (d : AwM) (c p : Int) : AwM := up_ (up_ d 2 c (stb (d 2 c) p)) 4 (10 * c + p) (d 0 0)
def snu (d : AwM) (c p : Int) : AwM := up_ d 3 c (stb (d 3 c) p)
def pre (s d : AwM) (c p : Int) : AwM := if tH s d c p = true then lea d c p else snu d c p
def pya (d : AwM) (c p : Int) : AwM := up_ (up_ (up_ d 4 (10 * c + d 1 c) (d 0 0)) 4 (10 * c + p) (d 0 0)) 1 c p
theorem cbp_t {d : AwM} {c p : Int} (h : cbp d c p = true) : hb (d 2 c) p = false ∧ hb (d 3 c) p = false := by
  unfold cbp at h
  cases h1 : hb (d 2 c) p <;> cases h2 : hb (d 3 c) p <;> simp [h1, h2] at h ⊢
theorem lea_2 {d : AwM} {c p e : Int} : lea d c p 2 e = if e = c then stb (d 2 c) p else d 2 e := by
  unfold lea
  rw [up_of (by decide)]
  by_cases h : e = c
  · rw [if_pos h, h, up_at]
  · rw [if_neg h, up_oi h]
theorem lea_2h {d : AwM} {c p e q : Int} (p0 : 0 ≤ p) (q0 : 0 ≤ q) : hb (lea d c p 2 e) q = (hb (d 2 e) q || (decide (e = c) && decide (q = p))) := by
  rw [lea_2]
  by_cases h : e = c
  · rw [if_pos h, hb_stb p0 q0, h]
    simp only [decide_true, Bool.true_and, eq_comm]
  · rw [if_neg h, decide_eq_false h]; simp
theorem LdOK_lea {s d : AwM} {c p : Int} (h : LdOK s d) (ho : SoOK s) (c0 : 0 ≤ c) (c1 : c < s 0 1) (p0 : 0 ≤ p) (p1 : p < s 0 0) (hs : hb (d 3 c) p = false) : LdOK s (lea d c p) := by
  obtain ⟨h1, h2, h3, h4, h5, h6, h7⟩ := h
  have hp := ho.p
  have e0 : lea d c p 0 0 = d 0 0 := by simp (disch := omega) only [lea, up_of]
  have e1 : ∀ e, lea d c p 1 e = d 1 e := fun e => by simp (disch := omega) only [lea, up_of]
  have e3 : ∀ e, lea d c p 3 e = d 3 e := fun e => by simp (disch := omega) only [lea, up_of]
  refine ⟨by rw [e0]; exact h1, fun e a b => by rw [e1]; exact h2 e a b, fun e a b => ?_, fun e a b => by rw [e3]; exact h4 e a b, fun e a b => ?_, fun e q a b x => ?_, fun e q a b x y z => ?_⟩
  · rw [lea_2]
    by_cases g : e = c
    · rw [if_pos g]; exact ms_stb (h3 c c0 c1) p0 (by omega)
    · rw [if_neg g]; exact h3 e a b
  · have := h2 e a b
    rw [e1, lea_2h p0 this.1, h5 e a b]; rfl
  · rw [e3]
    by_cases q0 : 0 ≤ q
    · rw [lea_2h p0 q0] at x
      by_cases g : e = c ∧ q = p
      · rw [g.1, g.2]; exact hs
      · have : hb (d 2 e) q = true := by
          rcases Bool.or_eq_true _ _ ▸ x with x | x
          · exact x
          · rw [Bool.and_eq_true, decide_eq_true_iff, decide_eq_true_iff] at x
            exact absurd x g
        exact h6 e q a b this
    · rw [lea_2] at x
      have qz : q.toNat = 0 := by omega
      have z0 : hb (d 3 e) q = hb (d 3 e) 0 := by unfold hb; rw [qz]; rfl
      rw [z0]
      have x0 : hb (lea d c p 2 e) 0 = true := by
        rw [lea_2]
        rw [show ∀ m, hb m 0 = hb m q from fun m => by unfold hb; rw [qz]; rfl]
        exact x
      rw [lea_2h p0 (by omega)] at x0
      by_cases g : e = c ∧ 0 = p
      · rw [g.1, g.2]; exact hs
      · have : hb (d 2 e) 0 = true := by
          rcases Bool.or_eq_true _ _ ▸ x0 with x | x
          · exact x
          · rw [Bool.and_eq_true, decide_eq_true_iff, decide_eq_true_iff] at x
            exact absurd x g
        exact h6 e 0 a b this
  · by_cases g : e = c ∧ q = p
    · unfold lea
      rw [g.1, g.2, up_at]
      exact h1
    · have e4 : lea d c p 4 (10 * e + q) = d 4 (10 * e + q) := by
        unfold lea
        rw [up_oi (by omega), up_of (by decide)]
      rw [e4]
      rw [lea_2h p0 x] at z
      have : hb (d 2 e) q = true := by
        rcases Bool.or_eq_true _ _ ▸ z with z | z
        · exact z
        · rw [Bool.and_eq_true, decide_eq_true_iff, decide_eq_true_iff] at z
          exact absurd z g
      exact h7 e q a b x y this
theorem snu_3 {d : AwM} {c p e : Int} : snu d c p 3 e = if e = c then stb (d 3 c) p else d 3 e := by
  unfold snu
  by_cases h : e = c
  · rw [if_pos h, h, up_at]
  · rw [if_neg h, up_oi h]
theorem hbn {m q : Int} (h : ¬ 0 ≤ q) : hb m q = hb m 0 := by unfold hb; rw [show q.toNat = 0 by omega]; rfl
theorem LdOK_snu {s d : AwM} {c p : Int} (h : LdOK s d) (ho : SoOK s) (c0 : 0 ≤ c) (c1 : c < s 0 1) (p0 : 0 ≤ p) (p1 : p < s 0 0) (hk : hb (d 2 c) p = false) : LdOK s (snu d c p) := by
  obtain ⟨h1, h2, h3, h4, h5, h6, h7⟩ := h
  have hp := ho.p
  have ne : ∀ a i, a ≠ 3 → snu d c p a i = d a i := fun a i ha => up_of ha
  refine ⟨by rw [ne _ _ (by decide)]; exact h1, fun e a b => by rw [ne _ _ (by decide)]; exact h2 e a b, fun e a b => by rw [ne _ _ (by decide)]; exact h3 e a b, fun e a b => ?_, fun e a b => by rw [ne _ _ (by decide), ne _ _ (by decide)]; exact h5 e a b, fun e q a b x => ?_, fun e q a b x y z => ?_⟩
  · rw [snu_3]
    by_cases g : e = c
    · rw [if_pos g]; exact ms_stb (h4 c c0 c1) p0 (by omega)
    · rw [if_neg g]; exact h4 e a b
  · rw [ne _ _ (by decide)] at x
    rw [snu_3]
    by_cases g : e = c
    · rw [if_pos g]
      rw [g] at x
      by_cases q0 : 0 ≤ q
      · rw [hb_stb p0 q0, h6 c q c0 c1 x, decide_eq_false (show ¬ p = q from fun z => by rw [← z, hk] at x; cases x)]; rfl
      · rw [hbn q0] at x ⊢
        rw [hb_stb p0 (by omega), h6 c 0 c0 c1 x, decide_eq_false (show ¬ p = 0 from fun z => by rw [← z, hk] at x; cases x)]; rfl
    · rw [if_neg g]; exact h6 e q a b x
  · rw [ne _ _ (by decide)] at z ⊢
    exact h7 e q a b x y z
theorem pya_n {d : AwM} {c p : Int} (a i : Int) (h1 : a ≠ 1) (h4 : a ≠ 4) : pya d c p a i = d a i := by
  unfold pya
  rw [up_of h1, up_of h4, up_of h4]
theorem pya_1 {d : AwM} {c p e : Int} : pya d c p 1 e = if e = c then p else d 1 e := by
  unfold pya
  by_cases h : e = c
  · rw [if_pos h, h, up_at]
  · rw [if_neg h, up_oi h, up_of (by decide), up_of (by decide)]
theorem pya_4 {d : AwM} {c p e q : Int} (q0 : 0 ≤ q) (q1 : q < 10) (p0 : 0 ≤ p) (p1 : p < 10) (h0 : 0 ≤ d 1 c) (h1 : d 1 c < 10) : pya d c p 4 (10 * e + q) = if e = c ∧ (q = p ∨ q = d 1 c) then d 0 0 else d 4 (10 * e + q) := by
  unfold pya
  rw [up_of (by decide)]
  by_cases h : e = c ∧ (q = p ∨ q = d 1 c)
  · rw [if_pos h]
    obtain ⟨rfl, h⟩ := h
    by_cases g : q = p
    · rw [g, up_at]
    · rw [up_oi (by omega), show q = d 1 e by omega, up_at]
  · rw [if_neg h, up_oi (by omega), up_oi (by omega)]
theorem LdOK_pya {s d : AwM} {c p : Int} (h : LdOK s d) (ho : SoOK s) (c0 : 0 ≤ c) (c1 : c < s 0 1) (p0 : 0 ≤ p) (p1 : p < s 0 0) (hk : hb (d 2 c) p = true) : LdOK s (pya d c p) := by
  obtain ⟨h1, h2, h3, h4, h5, h6, h7⟩ := h
  have hp := ho.p
  have hh := h2 c c0 c1
  refine ⟨by rw [pya_n _ _ (by decide) (by decide)]; exact h1, fun e a b => ?_, fun e a b => by rw [pya_n _ _ (by decide) (by decide)]; exact h3 e a b, fun e a b => by rw [pya_n _ _ (by decide) (by decide)]; exact h4 e a b, fun e a b => ?_, fun e q a b x => ?_, fun e q a b x y z => ?_⟩
  · rw [pya_1]
    by_cases g : e = c
    · rw [if_pos g]; exact ⟨p0, p1⟩
    · rw [if_neg g]; exact h2 e a b
  · rw [pya_1, pya_n _ _ (by decide) (by decide)]
    by_cases g : e = c
    · rw [if_pos g, g]; exact hk
    · rw [if_neg g]; exact h5 e a b
  · rw [pya_n _ _ (by decide) (by decide)] at x ⊢
    exact h6 e q a b x
  · rw [pya_n _ _ (by decide) (by decide)] at z
    rw [pya_4 x (by omega) p0 (by omega) hh.1 (by omega)]
    by_cases g : e = c ∧ (q = p ∨ q = d 1 c)
    · rw [if_pos g]; exact h1
    · rw [if_neg g]; exact h7 e q a b x y z
theorem stb_id {n : Nat} {m k : Int} (hm : ms n m) (k0 : 0 ≤ k) (h : hb m k = true) : stb m k = m := by
  have hk : k < n := by
    apply Classical.byContradiction
    intro g
    rw [ms_hb hm (by omega)] at h
    cases h
  refine ms_ext (ms_stb hm k0 hk) hm (fun q q0 q1 => ?_)
  rw [hb_stb k0 q0]
  by_cases g : k = q
  · rw [← g, h]; rfl
  · rw [decide_eq_false g]; simp
theorem CS_fr {M M' : AwM} {so : Int} {s : AwM} (h : CS M so s) (hs : ∀ a i, so ≤ a → a ≤ so + 14 → a ≠ so + 12 → M' a i = M a i) : CS M' so s := by
  obtain ⟨⟨s1, s2, s3, s4, s5⟩, s6, s7, s8, s9, s10, ⟨s11, s12⟩, s13, s14⟩ := h
  refine ⟨⟨?_, ?_, ?_, ?_, ?_⟩, ?_, ?_, ?_, ?_, ?_, ⟨?_, ?_⟩, ?_, ?_⟩
  · rw [hs _ _ (by omega) (by omega) (by omega)]; exact s1
  · rw [hs _ _ (by omega) (by omega) (by omega)]; exact s2
  · rw [hs _ _ (by omega) (by omega) (by omega)]; exact s3
  · rw [hs _ _ (by omega) (by omega) (by omega)]; exact s4
  · rw [hs _ _ (by omega) (by omega) (by omega)]; exact s5
  · intro p p0 p1; rw [hs _ _ (by omega) (by omega) (by omega)]; exact s6 p p0 p1
  · intro p p0 p1; rw [hs _ _ (by omega) (by omega) (by omega)]; exact s7 p p0 p1
  · intro p p0 p1; rw [hs _ _ (by omega) (by omega) (by omega)]; exact s8 p p0 p1
  · intro p p0 p1; rw [hs _ _ (by omega) (by omega) (by omega)]; exact s9 p p0 p1
  · intro k w k0 k1 w0 w1; rw [hs _ _ (by omega) (by omega) (by omega)]; exact s10 k w k0 k1 w0 w1
  · rw [hs _ _ (by omega) (by omega) (by omega)]; exact s11
  · intro p p0 p1; rw [hs _ _ (by omega) (by omega) (by omega)]; exact s12 p p0 p1
  · rw [hs _ _ (by omega) (by omega) (by omega)]; exact s13
  · intro p p0 p1; rw [hs _ _ (by omega) (by omega) (by omega)]; exact s14 p p0 p1
theorem CL_fr {M M' : AwM} {l : Int} {s d : AwM} (h : CL M l s d) (h0 : M' l 0 = M l 0) (hc : ∀ a i, l + 1 ≤ a → a ≤ l + 4 → M' a i = M a i) : CL M' l s d := by
  obtain ⟨c1, c2, c3, c4, c5⟩ := h
  refine ⟨h0.trans c1, ?_, ?_, ?_, ?_⟩
  · intro p p0 p1; rw [hc _ _ (by omega) (by omega)]; exact c2 p p0 p1
  · intro p p0 p1; rw [hc _ _ (by omega) (by omega)]; exact c3 p p0 p1
  · intro p p0 p1; rw [hc _ _ (by omega) (by omega)]; exact c4 p p0 p1
  · intro c p p0 p1 p2 p3 p4; rw [hc _ _ (by omega) (by omega)]; exact c5 c p p0 p1 p2 p3 p4
theorem CL_lea {M : AwM} {l : Int} {s d : AwM} {c p : Int} (h : CL M l s d) (ho : SoOK s) (c0 : 0 ≤ c) (c1 : c < s 0 1) (p0 : 0 ≤ p) (p1 : p < s 0 0) : CL (up_ (up_ M (l + 2) c (stb (d 2 c) p)) (l + 4) (10 * c + p) (d 0 0)) l s (lea d c p) := by
  obtain ⟨h1, h2, h3, h4, h5⟩ := h
  have hp := ho.p
  refine ⟨?_, fun e a b => ?_, fun e a b => ?_, fun e a b => ?_, fun e q a b x y z => ?_⟩
  · rw [up_of (by omega), up_of (by omega)]; unfold lea; rw [up_of (by omega), up_of (by omega)]; exact h1
  · rw [up_of (by omega), up_of (by omega)]; unfold lea; rw [up_of (by omega), up_of (by omega)]; exact h2 e a b
  · rw [lea_2, up_of (by omega)]
    by_cases g : e = c
    · rw [if_pos g, g, up_at]
    · rw [if_neg g, up_oi g]; exact h3 e a b
  · rw [up_of (by omega), up_of (by omega)]; unfold lea; rw [up_of (by omega), up_of (by omega)]; exact h4 e a b
  · rw [lea_2h p0 x] at z
    unfold lea
    by_cases g : e = c ∧ q = p
    · rw [g.1, g.2, up_at, up_at]
    · rw [up_oi (by omega), up_of (by omega), up_oi (by omega), up_of (by omega)]
      refine h5 e q a b x y ?_
      rcases Bool.or_eq_true _ _ ▸ z with z | z
      · exact z
      · rw [Bool.and_eq_true, decide_eq_true_iff, decide_eq_true_iff] at z
        exact absurd z g
theorem CL_snu {M : AwM} {l : Int} {s d : AwM} {c p : Int} (h : CL M l s d) : CL (up_ M (l + 3) c (stb (d 3 c) p)) l s (snu d c p) := by
  obtain ⟨h1, h2, h3, h4, h5⟩ := h
  have ne : ∀ a i, a ≠ 3 → snu d c p a i = d a i := fun a i ha => up_of ha
  refine ⟨?_, fun e a b => ?_, fun e a b => ?_, fun e a b => ?_, fun e q a b x y z => ?_⟩
  · rw [up_of (by omega), ne _ _ (by decide)]; exact h1
  · rw [up_of (by omega), ne _ _ (by decide)]; exact h2 e a b
  · rw [up_of (by omega), ne _ _ (by decide)]; exact h3 e a b
  · rw [snu_3]
    by_cases g : e = c
    · rw [if_pos g, g, up_at]
    · rw [if_neg g, up_oi g]; exact h4 e a b
  · rw [ne _ _ (by decide)] at z
    rw [up_of (by omega), ne _ _ (by decide)]
    exact h5 e q a b x y z
theorem ML_lea {M : AwM} {L : Int} {s d : AwM} {c p : Int} (h : ML M L s d) (ho : SoOK s) (c0 : 0 ≤ c) (c1 : c < s 0 1) (p0 : 0 ≤ p) (p1 : p < s 0 0) : ML (up_ (up_ M 199 (12 * L + c) (stb (d 2 c) p)) 201 (120 * L + (10 * c + p)) (d 0 0)) L s (lea d c p) := by
  obtain ⟨h1, h2, h3, h4, h5⟩ := h
  have hp := ho.p
  refine ⟨?_, fun e a b => ?_, fun e a b => ?_, fun e a b => ?_, fun e q a b x y z => ?_⟩
  · rw [up_of (by omega), up_of (by omega)]; unfold lea; rw [up_of (by omega), up_of (by omega)]; exact h1
  · rw [up_of (by omega), up_of (by omega)]; unfold lea; rw [up_of (by omega), up_of (by omega)]; exact h2 e a b
  · rw [lea_2, up_of (by omega)]
    by_cases g : e = c
    · rw [if_pos g, g, up_at]
    · rw [if_neg g, up_oi (by omega)]; exact h3 e a b
  · rw [up_of (by omega), up_of (by omega)]; unfold lea; rw [up_of (by omega), up_of (by omega)]; exact h4 e a b
  · rw [lea_2h p0 x] at z
    unfold lea
    by_cases g : e = c ∧ q = p
    · rw [g.1, g.2, up_at, up_at]
    · rw [up_oi (by omega), up_of (by omega), up_oi (by omega), up_of (by omega)]
      refine h5 e q a b x y ?_
      rcases Bool.or_eq_true _ _ ▸ z with z | z
      · exact z
      · rw [Bool.and_eq_true, decide_eq_true_iff, decide_eq_true_iff] at z
        exact absurd z g
theorem ML_snu {M : AwM} {L : Int} {s d : AwM} {c p : Int} (h : ML M L s d) : ML (up_ M 200 (12 * L + c) (stb (d 3 c) p)) L s (snu d c p) := by
  obtain ⟨h1, h2, h3, h4, h5⟩ := h
  have ne : ∀ a i, a ≠ 3 → snu d c p a i = d a i := fun a i ha => up_of ha
  refine ⟨?_, fun e a b => ?_, fun e a b => ?_, fun e a b => ?_, fun e q a b x y z => ?_⟩
  · rw [up_of (by omega), ne _ _ (by decide)]; exact h1
  · rw [up_of (by omega), ne _ _ (by decide)]; exact h2 e a b
  · rw [up_of (by omega), ne _ _ (by decide)]; exact h3 e a b
  · rw [snu_3]
    by_cases g : e = c
    · rw [if_pos g, g, up_at]
    · rw [if_neg g, up_oi (by omega)]; exact h4 e a b
  · rw [ne _ _ (by decide)] at z
    rw [up_of (by omega), ne _ _ (by decide)]
    exact h5 e q a b x y z
theorem CL_pya {M : AwM} {l : Int} {s d : AwM} {c p : Int} (h : CL M l s d) (ho : SoOK s) (hh : 0 ≤ d 1 c ∧ d 1 c < s 0 0) (p0 : 0 ≤ p) (p1 : p < s 0 0) : CL (up_ (up_ (up_ M (l + 4) (10 * c + d 1 c) (d 0 0)) (l + 4) (10 * c + p) (d 0 0)) (l + 1) c p) l s (pya d c p) := by
  obtain ⟨h1, h2, h3, h4, h5⟩ := h
  have hp := ho.p
  refine ⟨?_, fun e a b => ?_, fun e a b => ?_, fun e a b => ?_, fun e q a b x y z => ?_⟩
  · rw [up_of (by omega), up_of (by omega), up_of (by omega), pya_n _ _ (by decide) (by decide)]; exact h1
  · rw [pya_1]
    by_cases g : e = c
    · rw [if_pos g, g, up_at]
    · rw [if_neg g, up_oi g, up_of (by omega), up_of (by omega)]; exact h2 e a b
  · rw [up_of (by omega), up_of (by omega), up_of (by omega), pya_n _ _ (by decide) (by decide)]; exact h3 e a b
  · rw [up_of (by omega), up_of (by omega), up_of (by omega), pya_n _ _ (by decide) (by decide)]; exact h4 e a b
  · rw [pya_n _ _ (by decide) (by decide)] at z
    rw [pya_4 x (by omega) p0 (by omega) hh.1 (by omega), up_of (by omega)]
    by_cases g : e = c ∧ (q = p ∨ q = d 1 c)
    · rw [if_pos g, g.1]
      by_cases w : q = p
      · rw [w, up_at]
      · rw [up_oi (by omega), show q = d 1 c by omega, up_at]
    · rw [if_neg g, up_oi (by omega), up_oi (by omega)]
      exact h5 e q a b x y z
theorem ML_pya {M : AwM} {L : Int} {s d : AwM} {c p : Int} (h : ML M L s d) (ho : SoOK s) (hh : 0 ≤ d 1 c ∧ d 1 c < s 0 0) (p0 : 0 ≤ p) (p1 : p < s 0 0) : ML (up_ (up_ (up_ M 201 (120 * L + (10 * c + d 1 c)) (d 0 0)) 198 (12 * L + c) p) 201 (120 * L + (10 * c + p)) (d 0 0)) L s (pya d c p) := by
  obtain ⟨h1, h2, h3, h4, h5⟩ := h
  have hp := ho.p
  refine ⟨?_, fun e a b => ?_, fun e a b => ?_, fun e a b => ?_, fun e q a b x y z => ?_⟩
  · rw [up_of (by omega), up_of (by omega), up_of (by omega), pya_n _ _ (by decide) (by decide)]; exact h1
  · rw [pya_1, up_of (by omega)]
    by_cases g : e = c
    · rw [if_pos g, g, up_at]
    · rw [if_neg g, up_oi (by omega), up_of (by omega)]; exact h2 e a b
  · rw [up_of (by omega), up_of (by omega), up_of (by omega), pya_n _ _ (by decide) (by decide)]; exact h3 e a b
  · rw [up_of (by omega), up_of (by omega), up_of (by omega), pya_n _ _ (by decide) (by decide)]; exact h4 e a b
  · rw [pya_n _ _ (by decide) (by decide)] at z
    rw [pya_4 x (by omega) p0 (by omega) hh.1 (by omega)]
    by_cases g : e = c ∧ (q = p ∨ q = d 1 c)
    · rw [if_pos g, g.1]
      by_cases w : q = p
      · rw [w, up_at]
      · rw [up_oi (by omega), up_of (by omega), show q = d 1 c by omega, up_at]
    · rw [if_neg g, up_oi (by omega), up_of (by omega), up_oi (by omega)]
      exact h5 e q a b x y z
end PLED
