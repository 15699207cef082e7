/-! what always holds of a draft -/
section PDOK
def DOK (D : AwM) : Prop := SoOK D ∧ DSt D ∧ (∀ c : Int, 0 ≤ c → c < D 0 1 → hb (D 9 c) (D 8 c) = true) ∧ (∀ c p : Int, 0 ≤ c → c < D 0 1 → hb (D 9 c) p = true → hb (D 10 c) p = false)
variable {D : AwM}
theorem DOK.dc (h : DOK D) : DC D := ⟨h.1.p, h.1.c, h.1.g⟩
theorem DOK.na (h : DOK D) : DNa D := h.1.na
theorem DOK.st (h : DOK D) : DSt D := h.2.1
/-- one more person -/
theorem dP_00 {nm ra : Int} : dP D nm ra 0 0 = D 0 0 + 1 := up_at
theorem dP_0 {nm ra k : Int} (hk : k ≠ 0) : dP D nm ra 0 k = D 0 k := by unfold dP; rw [up_oi hk, up_of (by decide), up_of (by decide)]
theorem dP_a {nm ra a : Int} (x : a ≠ 0) (y : a ≠ 1) (z : a ≠ 5) : dP D nm ra a = D a := by
  funext j; unfold dP; rw [up_of x, up_of y, up_of z]
theorem dP_1 {nm ra p : Int} : dP D nm ra 1 p = if p = D 0 0 then ra else D 1 p := by
  unfold dP; rw [up_of (by decide)]; by_cases q : p = D 0 0
  · rw [if_pos q, q, up_at]
  · rw [if_neg q, up_oi q, up_of (by decide)]
theorem dP_5 {nm ra j : Int} : dP D nm ra 5 j = if j = 12 * 0 + D 0 0 then nm else D 5 j := by
  unfold dP; rw [up_of (by decide), up_of (by decide)]; by_cases q : j = 12 * 0 + D 0 0
  · rw [if_pos q, q, up_at]
  · rw [if_neg q, up_oi q]
theorem DOK_P {nm ra : Int} (h : DOK D) (h10 : D 0 0 < 10) (hn : ndOK 6 nm) (hr : 0 ≤ ra ∧ ra ≤ 9) : DOK (dP D nm ra) := by
  obtain ⟨ok, st, kh, ks⟩ := h
  obtain ⟨o1, o2, o3, o4, o5, o6, o7, o8, o9, o10, o11, o12, o13⟩ := ok
  have c1 : dP D nm ra 0 1 = D 0 1 := dP_0 (by decide)
  have c2 : dP D nm ra 0 2 = D 0 2 := dP_0 (by decide)
  have c3 : dP D nm ra 0 3 = D 0 3 := dP_0 (by decide)
  have c4 : dP D nm ra 0 4 = D 0 4 := dP_0 (by decide)
  have a : ∀ a : Int, a ≠ 0 → a ≠ 1 → a ≠ 5 → dP D nm ra a = D a := fun a x y z => dP_a x y z
  refine ⟨⟨by rw [dP_00]; omega, by rw [c1]; exact o2, by rw [c2]; exact o3, by rw [c3]; exact o4, by rw [c4]; exact o5, fun p x y => ?_, fun c x y => ?_, fun g x y => ?_, fun g x y => ?_, ?_, ?_, fun _ => by rw [dP_00]; omega, fun k w x y z u => ?_⟩, fun c x y => ?_, fun c x y => ?_, fun c p x y => ?_⟩
  · rw [dP_00] at y; rw [dP_1]
    by_cases q : p = D 0 0
    · rw [if_pos q]; exact hr
    · rw [if_neg q]; exact o6 p x (by omega)
  · rw [c1] at y; rw [a 2 (by decide) (by decide) (by decide)]; exact o7 c x y
  · rw [c2] at y; rw [a 3 (by decide) (by decide) (by decide)]; exact o8 g x y
  · rw [c2] at y; rw [a 4 (by decide) (by decide) (by decide), dP_00]; have := o9 g x y; omega
  · rw [a 6 (by decide) (by decide) (by decide)]; exact o10
  · rw [a 7 (by decide) (by decide) (by decide)]; exact o11
  · rw [dP_5]
    by_cases q : 12 * k + w = 12 * 0 + D 0 0
    · rw [if_pos q]; exact hn
    · rw [if_neg q]
      refine o13 k w x y z ?_
      by_cases k0 : k = 0
      · subst k0; rw [dP_00] at u; omega
      · rw [dP_0 k0] at u; exact u
  · rw [c1] at y
    have := st c x y
    rw [dP_00, a 8 (by decide) (by decide) (by decide), a 9 (by decide) (by decide) (by decide), a 10 (by decide) (by decide) (by decide)]
    exact ⟨by omega, ms_up this.2.1 (by omega), ms_up this.2.2 (by omega)⟩
  · rw [c1] at y; rw [a 8 (by decide) (by decide) (by decide), a 9 (by decide) (by decide) (by decide)]; exact kh c x y
  · rw [c1] at y; rw [a 9 (by decide) (by decide) (by decide), a 10 (by decide) (by decide) (by decide)]; exact ks c p x y
/-- one more of the goods -/
theorem dG_02 {nm wo se : Int} : dG D nm wo se 0 2 = D 0 2 + 1 := up_at
theorem dG_0 {nm wo se k : Int} (hk : k ≠ 2) : dG D nm wo se 0 k = D 0 k := by unfold dG; rw [up_oi hk, up_of (by decide), up_of (by decide), up_of (by decide)]
theorem dG_a {nm wo se a : Int} (x : a ≠ 0) (y : a ≠ 3) (z : a ≠ 4) (w : a ≠ 5) : dG D nm wo se a = D a := by
  funext j; unfold dG; rw [up_of x, up_of z, up_of y, up_of w]
theorem dG_3 {nm wo se p : Int} : dG D nm wo se 3 p = if p = D 0 2 then wo else D 3 p := by
  unfold dG; rw [up_of (by decide), up_of (by decide)]; by_cases q : p = D 0 2
  · rw [if_pos q, q, up_at]
  · rw [if_neg q, up_oi q, up_of (by decide)]
theorem dG_4 {nm wo se p : Int} : dG D nm wo se 4 p = if p = D 0 2 then se else D 4 p := by
  unfold dG; rw [up_of (by decide)]; by_cases q : p = D 0 2
  · rw [if_pos q, q, up_at]
  · rw [if_neg q, up_oi q, up_of (by decide), up_of (by decide)]
theorem dG_5 {nm wo se j : Int} : dG D nm wo se 5 j = if j = 12 * 2 + D 0 2 then nm else D 5 j := by
  unfold dG; rw [up_of (by decide), up_of (by decide), up_of (by decide)]; by_cases q : j = 12 * 2 + D 0 2
  · rw [if_pos q, q, up_at]
  · rw [if_neg q, up_oi q]
theorem DOK_G {nm wo se : Int} (h : DOK D) (h10 : D 0 2 < 10) (hn : ndOK 6 nm) (hw : 0 ≤ wo ∧ wo ≤ 99) (hs : 0 ≤ se ∧ se < D 0 0) : DOK (dG D nm wo se) := by
  obtain ⟨ok, st, kh, ks⟩ := h
  obtain ⟨o1, o2, o3, o4, o5, o6, o7, o8, o9, o10, o11, o12, o13⟩ := ok
  have c0 : dG D nm wo se 0 0 = D 0 0 := dG_0 (by decide)
  have c1 : dG D nm wo se 0 1 = D 0 1 := dG_0 (by decide)
  have c3 : dG D nm wo se 0 3 = D 0 3 := dG_0 (by decide)
  have c4 : dG D nm wo se 0 4 = D 0 4 := dG_0 (by decide)
  have a : ∀ a : Int, a ≠ 0 → a ≠ 3 → a ≠ 4 → a ≠ 5 → dG D nm wo se a = D a := fun a x y z w => dG_a x y z w
  refine ⟨⟨by rw [c0]; exact o1, by rw [c1]; exact o2, by rw [dG_02]; omega, by rw [c3]; exact o4, by rw [c4]; exact o5, fun p x y => ?_, fun c x y => ?_, fun g x y => ?_, fun g x y => ?_, ?_, ?_, fun z => by rw [c1] at z; rw [c0]; exact o12 z, fun k w x y z u => ?_⟩, fun c x y => ?_, fun c x y => ?_, fun c p x y => ?_⟩
  · rw [c0] at y; rw [a 1 (by decide) (by decide) (by decide) (by decide)]; exact o6 p x y
  · rw [c1] at y; rw [a 2 (by decide) (by decide) (by decide) (by decide)]; exact o7 c x y
  · rw [dG_02] at y; rw [dG_3]
    by_cases q : g = D 0 2
    · rw [if_pos q]; exact hw
    · rw [if_neg q]; exact o8 g x (by omega)
  · rw [dG_02] at y; rw [dG_4, c0]
    by_cases q : g = D 0 2
    · rw [if_pos q]; exact hs
    · rw [if_neg q]; exact o9 g x (by omega)
  · rw [a 6 (by decide) (by decide) (by decide) (by decide)]; exact o10
  · rw [a 7 (by decide) (by decide) (by decide) (by decide)]; exact o11
  · rw [dG_5]
    by_cases q : 12 * k + w = 12 * 2 + D 0 2
    · rw [if_pos q]; exact hn
    · rw [if_neg q]
      refine o13 k w x y z ?_
      by_cases k0 : k = 2
      · subst k0; rw [dG_02] at u; omega
      · rw [dG_0 k0] at u; exact u
  · rw [c1] at y
    rw [c0, a 8 (by decide) (by decide) (by decide) (by decide), a 9 (by decide) (by decide) (by decide) (by decide), a 10 (by decide) (by decide) (by decide) (by decide)]
    exact st c x y
  · rw [c1] at y; rw [a 8 (by decide) (by decide) (by decide) (by decide), a 9 (by decide) (by decide) (by decide) (by decide)]; exact kh c x y
  · rw [c1] at y; rw [a 9 (by decide) (by decide) (by decide) (by decide), a 10 (by decide) (by decide) (by decide) (by decide)]; exact ks c p x y
/-- what fades, what is in vogue -/
theorem DOK_F {k v : Int} (h : DOK D) (hk : (k = 3 ∧ v ≤ 99) ∨ (k = 4 ∧ v ≤ 100)) (hv : 0 ≤ v) : DOK (dF D k v) := by
  obtain ⟨ok, st, kh, ks⟩ := h
  obtain ⟨o1, o2, o3, o4, o5, o6, o7, o8, o9, o10, o11, o12, o13⟩ := ok
  have a : ∀ a : Int, a ≠ 0 → dF D k v a = D a := fun a x => by funext j; unfold dF; rw [up_of x]
  have c : ∀ j : Int, dF D k v 0 j = if j = k then v else D 0 j := fun j => by
    unfold dF
    by_cases q : j = k
    · rw [if_pos q, q, up_at]
    · rw [if_neg q, up_oi q]
  have cl : ∀ j : Int, j < 3 → dF D k v 0 j = D 0 j := fun j hj => by rw [c, if_neg (by omega)]
  refine ⟨⟨by rw [cl 0 (by decide)]; exact o1, by rw [cl 1 (by decide)]; exact o2, by rw [cl 2 (by decide)]; exact o3, ?_, ?_, fun p x y => ?_, fun c x y => ?_, fun g x y => ?_, fun g x y => ?_, ?_, ?_, fun z => by rw [cl 1 (by decide)] at z; rw [cl 0 (by decide)]; exact o12 z, fun k w x y z u => ?_⟩, fun c x y => ?_, fun c x y => ?_, fun c p x y => ?_⟩
  · rw [c]; by_cases q : 3 = k
    · rw [if_pos q]; omega
    · rw [if_neg q]; exact o4
  · rw [c]; by_cases q : 4 = k
    · rw [if_pos q]; omega
    · rw [if_neg q]; exact o5
  · rw [cl 0 (by decide)] at y; rw [a 1 (by decide)]; exact o6 p x y
  · rw [cl 1 (by decide)] at y; rw [a 2 (by decide)]; exact o7 c x y
  · rw [cl 2 (by decide)] at y; rw [a 3 (by decide)]; exact o8 g x y
  · rw [cl 2 (by decide)] at y; rw [a 4 (by decide), cl 0 (by decide)]; exact o9 g x y
  · rw [a 6 (by decide)]; exact o10
  · rw [a 7 (by decide)]; exact o11
  · rw [cl k y] at u; rw [a 5 (by decide)]; exact o13 k w x y z u
  · rw [cl 1 (by decide)] at y; rw [cl 0 (by decide), a 8 (by decide), a 9 (by decide), a 10 (by decide)]; exact st c x y
  · rw [cl 1 (by decide)] at y; rw [a 8 (by decide), a 9 (by decide)]; exact kh c x y
  · rw [cl 1 (by decide)] at y; rw [a 9 (by decide), a 10 (by decide)]; exact ks c p x y
/-- a snub -/
theorem DOK_N {c p : Int} (h : DOK D) (c0 : 0 ≤ c) (c1 : c < D 0 1) (p0 : 0 ≤ p) (p1 : p < D 0 0) (hk : hb (D 9 c) p = false) : DOK (dN D c p) := by
  obtain ⟨ok, st, kh, ks⟩ := h
  have o1 := ok.p
  have a : ∀ a : Int, a ≠ 10 → dN D c p a = D a := fun a x => by funext j; unfold dN; rw [up_of x]
  have e10 : ∀ j : Int, dN D c p 10 j = if j = c then stb (D 10 c) p else D 10 j := fun j => by
    unfold dN
    by_cases q : j = c
    · rw [if_pos q, q, up_at]
    · rw [if_neg q, up_oi q]
  have ok' : SoOK (dN D c p) := by
    unfold SoOK
    rw [a 0 (by decide), a 1 (by decide), a 2 (by decide), a 3 (by decide), a 4 (by decide), a 5 (by decide), a 6 (by decide), a 7 (by decide)]
    exact ok
  refine ⟨ok', fun e x y => ?_, fun e x y => ?_, fun e q x y => ?_⟩
  · rw [a 0 (by decide)] at y ⊢
    have := st e x y
    rw [a 8 (by decide), a 9 (by decide), e10]
    refine ⟨this.1, this.2.1, ?_⟩
    by_cases z : e = c
    · rw [if_pos z, ← z]; exact ms_stb this.2.2 p0 (by omega)
    · rw [if_neg z]; exact this.2.2
  · rw [a 0 (by decide)] at y; rw [a 8 (by decide), a 9 (by decide)]; exact kh e x y
  · rw [a 0 (by decide)] at y; rw [a 9 (by decide), e10]
    intro hq
    have := ks e q x y hq
    by_cases z : e = c
    · rw [if_pos z]
      subst z
      by_cases q0 : 0 ≤ q
      · rw [hb_stb p0 q0, this]
        have : ¬ p = q := fun r => by rw [r, hq] at hk; exact absurd hk (by decide)
        rw [decide_eq_false this]; rfl
      · have e : ∀ m : Int, hb m q = hb m 0 := fun m => by unfold hb; rw [show q.toNat = (0 : Int).toNat by omega]
        rw [e] at hq this ⊢
        rw [hb_stb p0 (by decide), this]
        have : ¬ p = 0 := fun r => by rw [r, hq] at hk; exact absurd hk (by decide)
        rw [decide_eq_false this]; rfl
    · rw [if_neg z]; exact this
/-- a formula -/
theorem DOK_Q {k : Int} {c : List Int} (h : DOK D) (hk : (k = 6 ∧ FoOK (lf c) true) ∨ (k = 7 ∧ FoOK (lf c) false)) : DOK (dQ D k c) := by
  obtain ⟨ok, st, kh, ks⟩ := h
  obtain ⟨o1, o2, o3, o4, o5, o6, o7, o8, o9, o10, o11, o12, o13⟩ := ok
  have a : ∀ a : Int, a ≠ 6 → a ≠ 7 → dQ D k c a = D a := fun a x y => dQ_n (by omega)
  have b6 : FoOK (dQ D k c 6) true := by
    rcases hk with ⟨rfl, q⟩ | ⟨rfl, q⟩
    · rw [dQ_k]; exact q
    · rw [dQ_n (by decide)]; exact o10
  have b7 : FoOK (dQ D k c 7) false := by
    rcases hk with ⟨rfl, q⟩ | ⟨rfl, q⟩
    · rw [dQ_n (by decide)]; exact o11
    · rw [dQ_k]; exact q
  have ok' : SoOK (dQ D k c) := by
    unfold SoOK
    rw [a 0 (by decide) (by decide), a 1 (by decide) (by decide), a 2 (by decide) (by decide), a 3 (by decide) (by decide), a 4 (by decide) (by decide), a 5 (by decide) (by decide)]
    exact ⟨o1, o2, o3, o4, o5, o6, o7, o8, o9, b6, b7, o12, o13⟩
  refine ⟨ok', fun e x y => ?_, fun e x y => ?_, fun e q x y => ?_⟩
  · rw [a 0 (by decide) (by decide)] at y ⊢
    rw [a 8 (by decide) (by decide), a 9 (by decide) (by decide), a 10 (by decide) (by decide)]
    exact st e x y
  · rw [a 0 (by decide) (by decide)] at y; rw [a 8 (by decide) (by decide), a 9 (by decide) (by decide)]; exact kh e x y
  · rw [a 0 (by decide) (by decide)] at y; rw [a 9 (by decide) (by decide), a 10 (by decide) (by decide)]; exact ks e q x y
/-- one more coin -/
theorem DOK_C {nm wo ho S : Int} (h : DOK D) (h12 : D 0 1 < 12) (hn : ndOK 6 nm) (hw : 1 ≤ wo ∧ wo ≤ 99) (hh : 0 ≤ ho ∧ ho < D 0 0) (hS : ms (D 0 0).toNat S) (hk : hb S ho = true) : DOK (dC D nm wo ho S) := by
  obtain ⟨ok, st, kh, ks⟩ := h
  obtain ⟨o1, o2, o3, o4, o5, o6, o7, o8, o9, o10, o11, o12, o13⟩ := ok
  have c0 : dC D nm wo ho S 0 0 = D 0 0 := dC_0 (by decide)
  have c2 : dC D nm wo ho S 0 2 = D 0 2 := dC_0 (by decide)
  have c3 : dC D nm wo ho S 0 3 = D 0 3 := dC_0 (by decide)
  have c4 : dC D nm wo ho S 0 4 = D 0 4 := dC_0 (by decide)
  have c1 : dC D nm wo ho S 0 1 = D 0 1 + 1 := dC_01
  refine ⟨⟨by rw [c0]; exact o1, by rw [c1]; omega, by rw [c2]; exact o3, by rw [c3]; exact o4, by rw [c4]; exact o5, fun p x y => ?_, fun c x y => ?_, fun g x y => ?_, fun g x y => ?_, ?_, ?_, fun _ => by rw [c0]; omega, fun k w x y z u => ?_⟩, fun c x y => ?_, fun c x y => ?_, fun c p x y => ?_⟩
  · rw [c0] at y; rw [dC_a (by decide)]; exact o6 p x y
  · rw [c1] at y; rw [dC_c.1]
    by_cases q : c = D 0 1
    · rw [if_pos q]; exact hw
    · rw [if_neg q]; exact o7 c x (by omega)
  · rw [c2] at y; rw [dC_a (by decide)]; exact o8 g x y
  · rw [c2] at y; rw [dC_a (by decide), c0]; exact o9 g x y
  · rw [dC_a (by decide)]; exact o10
  · rw [dC_a (by decide)]; exact o11
  · rw [dC_5]
    by_cases q : 12 * k + w = 12 * 1 + D 0 1
    · rw [if_pos q]; exact hn
    · rw [if_neg q]
      refine o13 k w x y z ?_
      by_cases k0 : k = 1
      · subst k0; rw [c1] at u; omega
      · rw [dC_0 k0] at u; exact u
  · rw [c1] at y
    rw [c0, dC_c.2.1, dC_c.2.2.1, dC_c.2.2.2]
    by_cases q : c = D 0 1
    · rw [if_pos q, if_pos q, if_pos q]; exact ⟨hh, hS, ms_0 _⟩
    · rw [if_neg q, if_neg q, if_neg q]; exact st c x (by omega)
  · rw [c1] at y
    rw [dC_c.2.1, dC_c.2.2.1]
    by_cases q : c = D 0 1
    · rw [if_pos q, if_pos q]; exact hk
    · rw [if_neg q, if_neg q]; exact kh c x (by omega)
  · rw [c1] at y
    rw [dC_c.2.2.1, dC_c.2.2.2]
    by_cases q : c = D 0 1
    · rw [if_pos q, if_pos q]; exact fun _ => hb_0 _
    · rw [if_neg q, if_neg q]; exact ks c p x (by omega)
end PDOK
