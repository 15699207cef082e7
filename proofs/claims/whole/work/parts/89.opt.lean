/-! the fewest coins that are worth enough: picked one by one, and found among all the sets -/
section POPT
theorem wtS_s {f : Int → Int} {S : Int} {n : Nat} : wtS f S (n + 1) = wtS f S n + (if hz S (n : Int) = true then f (n : Int) else 0) := rfl
theorem wt_le {f : Int → Int} {x G : Int} : ∀ n : Nat, (∀ q : Int, 0 ≤ q → q < n → 0 ≤ f q) → (∀ q : Int, 0 ≤ q → q < n → hb x q = true → hb G q = true ∨ f q ≤ 0) → wtS f x n ≤ wtS f G n
  | 0, _, _ => Int.le_refl _
  | n + 1, h0, h1 => by
    have ih := wt_le (f := f) (x := x) (G := G) n (fun q a b => h0 q a (by omega)) (fun q a b => h1 q a (by omega))
    rw [wtS_s, wtS_s, hz_p (by omega), hz_p (by omega)]
    have a := h0 n (by omega) (by omega)
    have b := h1 n (by omega) (by omega)
    by_cases hx : hb x (n : Int) = true
    · rw [if_pos hx]
      rcases b hx with c | c
      · rw [if_pos c]; omega
      · by_cases e : hb G (n : Int) = true
        · rw [if_pos e]; omega
        · rw [if_neg e]; omega
    · rw [if_neg hx]
      by_cases e : hb G (n : Int) = true
      · rw [if_pos e]; omega
      · rw [if_neg e]; omega
theorem wt_stb {f : Int → Int} {x g : Int} (g0 : 0 ≤ g) (hx : hb x g = false) : ∀ n : Nat, wtS f (stb x g) n = wtS f x n + (if g < n then f g else 0)
  | 0 => by rw [if_neg (by omega)]; rfl
  | n + 1 => by
    rw [wtS_s, wtS_s, wt_stb g0 hx n, hz_p (by omega), hz_p (by omega), hb_stb g0 (by omega)]
    by_cases e : g = (n : Int)
    · rw [← e, hx, decide_eq_true rfl, if_neg (show ¬ g < g by omega), if_pos (show (false || true) = true from rfl), if_neg (show ¬ false = true by decide), if_pos (by omega)]
    · rw [decide_eq_false e, Bool.or_false]
      by_cases c : g < (n : Int)
      · rw [if_pos c, if_pos (show g < ((n + 1 : Nat) : Int) by omega)]; omega
      · rw [if_neg c, if_neg (show ¬ g < ((n + 1 : Nat) : Int) by omega)]; omega
theorem wt_clb {f : Int → Int} {x g : Int} (g0 : 0 ≤ g) (hx : hb x g = true) : ∀ n : Nat, wtS f x n = wtS f (clb x g) n + (if g < n then f g else 0)
  | 0 => by rw [if_neg (by omega)]; rfl
  | n + 1 => by
    rw [wtS_s, wtS_s, wt_clb g0 hx n, hz_p (by omega), hz_p (by omega), hb_clb g0 (by omega)]
    by_cases e : g = (n : Int)
    · rw [← e, hx, decide_eq_true rfl, if_pos rfl, if_neg (by omega), if_neg (by decide), if_pos (by omega)]
    · rw [decide_eq_false e, Bool.not_false, Bool.and_true]
      by_cases c : g < (n : Int)
      · rw [if_pos c, if_pos (show g < ((n + 1 : Nat) : Int) by omega)]; omega
      · rw [if_neg c, if_neg (show ¬ g < ((n + 1 : Nat) : Int) by omega)]; omega
def pw2 (i : Int) : Int := ((2 ^ i.toNat : Nat) : Int)
theorem pcW_all : (List.range 4096).all (fun m => decide (wtS (fun _ => 1) (m : Int) 12 = pc (m : Int))) = true := by decide +kernel
theorem vlW_all : (List.range 4096).all (fun m => decide (wtS pw2 (m : Int) 12 = (m : Int))) = true := by decide +kernel
theorem pcW {m : Int} (h : ms 12 m) : pc m = wtS (fun _ => 1) m 12 := by
  obtain ⟨a, rfl, ha⟩ := ms_n.mp h
  exact (of_decide_eq_true (List.all_eq_true.mp pcW_all a (List.mem_range.mpr (by omega)))).symm
theorem vlW {m : Int} (h : ms 12 m) : wtS pw2 m 12 = m := by
  obtain ⟨a, rfl, ha⟩ := ms_n.mp h
  exact of_decide_eq_true (List.all_eq_true.mp vlW_all a (List.mem_range.mpr (by omega)))
theorem put1 {x g : Int} (h : ms 12 x) (g0 : 0 ≤ g) (g1 : g < 12) (hx : hb x g = false) : pc (stb x g) = pc x + 1 ∧ stb x g = x + pw2 g := by
  have h' := ms_stb h g0 g1
  rw [pcW h', pcW h, wt_stb g0 hx, if_pos (show g < ((12 : Nat) : Int) from g1)]
  refine ⟨rfl, ?_⟩
  have e := wt_stb (f := pw2) g0 hx 12
  rw [vlW h', vlW h, if_pos (show g < ((12 : Nat) : Int) from g1)] at e
  exact e
theorem cut1 {x g : Int} (h : ms 12 x) (g0 : 0 ≤ g) (g1 : g < 12) (hx : hb x g = true) : pc x = pc (clb x g) + 1 ∧ x = clb x g + pw2 g := by
  have h' : ms 12 (clb x g) := ms_clb h
  rw [pcW h', pcW h, wt_clb g0 hx, if_pos (show g < ((12 : Nat) : Int) from g1)]
  refine ⟨rfl, ?_⟩
  have e := wt_clb (f := pw2) g0 hx 12
  rw [vlW h', vlW h, if_pos (show g < ((12 : Nat) : Int) from g1)] at e
  exact e
theorem pw2_le {g y : Int} (g0 : 0 ≤ g) (h : g ≤ y) : pw2 g ≤ pw2 y := by
  unfold pw2
  have := Nat.pow_le_pow_right (n := 2) (by decide) (show g.toNat ≤ y.toNat by omega)
  omega
def vst (T x : Int) : Prop := ms 12 x ∧ ∀ q : Int, 0 ≤ q → q < 12 → hb x q = true → hb T q = true
def GP (W : Int → Int) (T : Int) (n : Nat) (i G : Int) : Prop :=
  vst T G ∧ pc G = i ∧ ∀ x, vst T x → pc x ≤ i → wtS W x n ≤ wtS W G n ∧ (pc x = i → wtS W x n = wtS W G n → G ≤ x)
theorem vst_0 (T : Int) : vst T 0 := ⟨ms_0 12, fun q _ _ h => by rw [hb_0] at h; exact absurd h (by decide)⟩
theorem pc_z {x : Int} (h : ms 12 x) (hp : pc x ≤ 0) : x = 0 := by
  refine ms_ext h (ms_0 12) (fun q q0 q1 => ?_)
  rw [hb_0]
  cases e : hb x q
  · rfl
  · have a := (cut1 h q0 (by omega) e).1
    have b := (pc_b (clb x q)).1
    omega
theorem gp0 (W : Int → Int) (T : Int) (n : Nat) : GP W T n 0 0 :=
  ⟨vst_0 T, by decide, fun x hx hp => by
    have e := pc_z hx.1 hp
    subst e
    exact ⟨Int.le_refl _, fun _ _ => Int.le_refl _⟩⟩
theorem out1 {x G : Int} (hx : ms 12 x) (hG : ms 12 G) (h : pc G < pc x) : ∃ y : Int, 0 ≤ y ∧ y < 12 ∧ hb x y = true ∧ hb G y = false := by
  refine Classical.byContradiction fun c => ?_
  have : wtS (fun _ => 1) x 12 ≤ wtS (fun _ => 1) G 12 := wt_le 12 (fun _ _ _ => by decide) (fun q a b e => Or.inl (by
    cases e' : hb G q
    · exact absurd ⟨q, a, b, e, e'⟩ c
    · rfl))
  rw [← pcW hx, ← pcW hG] at this
  omega
theorem gpS {W : Int → Int} {T : Int} {n : Nat} {i G g : Int} (h : GP W T n i G) (hn : n ≤ 12) (hT : ∀ q : Int, 0 ≤ q → hb T q = true → q < n) (g0 : 0 ≤ g) (g1 : hb T g = true) (g2 : hb G g = false) (g3 : 0 < W g)
    (g4 : ∀ q : Int, 0 ≤ q → hb T q = true → hb G q = false → W q < W g ∨ (W q = W g ∧ g ≤ q)) : GP W T n (i + 1) (stb G g) := by
  obtain ⟨⟨m1, v1⟩, p1, b1⟩ := h
  have gn := hT g g0 g1
  have ⟨pp, vv⟩ := put1 m1 g0 (by omega) g2
  refine ⟨⟨ms_stb m1 g0 (by omega), fun q q0 q1 hq => ?_⟩, by omega, fun x hx hp => ?_⟩
  · rw [hb_stb g0 q0] at hq
    rcases Bool.or_eq_true_iff.mp hq with e | e
    · exact v1 q q0 q1 e
    · rw [← of_decide_eq_true e]; exact g1
  · have ws := wt_stb (f := W) g0 g2 n
    rw [if_pos gn] at ws
    by_cases c : pc x ≤ i
    · have := (b1 x hx c).1
      exact ⟨by omega, fun z => by omega⟩
    · obtain ⟨y, y0, y1, y2, y3⟩ := out1 hx.1 m1 (by omega)
      have yT := hx.2 y y0 y1 y2
      have yn := hT y y0 yT
      have ⟨cp, cv⟩ := cut1 hx.1 y0 y1 y2
      have wc := wt_clb (f := W) y0 y2 n
      rw [if_pos yn] at wc
      have hx' : vst T (clb x y) := ⟨ms_clb hx.1, fun q q0 q1 hq => by
        rw [hb_clb y0 q0] at hq
        exact hx.2 q q0 q1 (Bool.and_eq_true_iff.mp hq).1⟩
      have ⟨k1, k2⟩ := b1 _ hx' (by omega)
      have o := g4 y y0 yT y3
      refine ⟨by omega, fun _ z => ?_⟩
      have kk := k2 (by omega) (by omega)
      have := pw2_le (g := g) (y := y) g0 (by omega)
      omega
theorem gpE {W : Int → Int} {T : Int} {n : Nat} {G : Int} (hn : n ≤ 12) (hW : ∀ q : Int, 0 ≤ q → q < n → 0 ≤ W q) (h : ∀ q : Int, 0 ≤ q → hb T q = true → hb G q = false → W q ≤ 0) : ∀ x, vst T x → wtS W x n ≤ wtS W G n := fun x hx =>
  wt_le n hW (fun q a b e => by
    cases e' : hb G q
    · exact Or.inr (h q a (hx.2 q a (by omega) e) e')
    · exact Or.inl rfl)
def bet (W : Int → Int) (n : Nat) (o x : Int) : Prop := pc o < pc x ∨ (pc o = pc x ∧ (wtS W x n < wtS W o n ∨ (wtS W x n = wtS W o n ∧ o ≤ x)))
def IsO (W : Int → Int) (T : Int) (n : Nat) (need sp o : Int) : Prop :=
  (o = -1 ∧ ∀ x, vst T x → sp + wtS W x n < need) ∨ (vst T o ∧ need ≤ sp + wtS W o n ∧ ∀ x, vst T x → need ≤ sp + wtS W x n → bet W n o x)
theorem IsO_u {W : Int → Int} {T : Int} {n : Nat} {need sp o o' : Int} (h : IsO W T n need sp o) (h' : IsO W T n need sp o') : o = o' := by
  rcases h with ⟨a, b⟩ | ⟨a, b, c⟩ <;> rcases h' with ⟨a', b'⟩ | ⟨a', b', c'⟩
  · rw [a, a']
  · have := b o' a'; omega
  · have := b' o a; omega
  · have x := c o' a' b'
    have y := c' o a b
    unfold bet at x y
    omega
theorem gpF {W : Int → Int} {T : Int} {n : Nat} {need sp i G : Int} (h : GP W T n i G) (h1 : need ≤ sp + wtS W G n) (h2 : ∀ x, vst T x → pc x < i → sp + wtS W x n < need) : IsO W T n need sp G := by
  refine Or.inr ⟨h.1, h1, fun x hx hv => ?_⟩
  have p := h.2.1
  unfold bet
  by_cases a : pc x < i
  · have := h2 x hx a; omega
  · by_cases e : pc x = i
    · have ⟨k1, k2⟩ := h.2.2 x hx (by omega)
      have k3 := k2 e
      by_cases w : wtS W x n = wtS W G n
      · have := k3 w; omega
      · omega
    · omega
/-- among all the sets -/
def bst (W : Int → Int) (T n : Nat) (need sp : Int) : Nat → Int
  | 0 => -1
  | k + 1 => if k &&& T = k ∧ need ≤ sp + wtS W (k : Int) n then (if bst W T n need sp k = -1 ∨ pc (k : Int) < pc (bst W T n need sp k) ∨ (pc (k : Int) = pc (bst W T n need sp k) ∧ wtS W (bst W T n need sp k) n < wtS W (k : Int) n) then (k : Int) else bst W T n need sp k) else bst W T n need sp k
theorem vst_n {T k : Nat} (hT : T < 4096) : vst (T : Int) (k : Int) ↔ k &&& T = k := by
  constructor
  · rintro ⟨a, b⟩
    obtain ⟨k', e, hk⟩ := ms_n.mp a
    have : k = k' := by omega
    subst this
    refine Nat.eq_of_testBit_eq fun i => ?_
    rw [Nat.testBit_and]
    by_cases c : i < 12
    · have := b (i : Int) (by omega) (by omega)
      unfold hb at this
      rw [Int.toNat_natCast, Int.toNat_natCast, Int.toNat_natCast] at this
      cases e1 : k.testBit i
      · rfl
      · rw [this e1]; rfl
    · have : k.testBit i = false := Nat.testBit_lt_two_pow (Nat.lt_of_lt_of_le hk (Nat.pow_le_pow_right (by decide) (by omega)))
      rw [this]; rfl
  · intro h
    have := sub_le h
    refine ⟨ms_n.mpr ⟨k, rfl, by omega⟩, fun q q0 q1 hq => ?_⟩
    unfold hb at hq ⊢
    rw [Int.toNat_natCast] at hq ⊢
    rw [← h, Nat.testBit_and] at hq
    exact (Bool.and_eq_true_iff.mp hq).2
theorem bst_u {W : Int → Int} {T n : Nat} {need sp : Int} : ∀ j : Nat, (bst W T n need sp j = -1 ∧ ∀ k : Nat, k < j → k &&& T = k → sp + wtS W (k : Int) n < need) ∨ (∃ b : Nat, bst W T n need sp j = (b : Int) ∧ b < j ∧ b &&& T = b ∧ need ≤ sp + wtS W (b : Int) n ∧ ∀ k : Nat, k < j → k &&& T = k → need ≤ sp + wtS W (k : Int) n → bet W n (b : Int) (k : Int))
  | 0 => Or.inl ⟨rfl, fun k hk => by omega⟩
  | j + 1 => by
    have ih := bst_u (W := W) (T := T) (n := n) (need := need) (sp := sp) j
    unfold bst
    by_cases v : j &&& T = j ∧ need ≤ sp + wtS W (j : Int) n
    · rw [if_pos v]
      rcases ih with ⟨e, h⟩ | ⟨b, e, b1, b2, b3, h⟩
      · rw [if_pos (Or.inl e)]
        refine Or.inr ⟨j, rfl, by omega, v.1, v.2, fun k hk k1 k2 => ?_⟩
        by_cases c : k = j
        · subst c; unfold bet; omega
        · have := h k (by omega) k1; omega
      · rw [e]
        by_cases w : (b : Int) = -1 ∨ pc (j : Int) < pc (b : Int) ∨ (pc (j : Int) = pc (b : Int) ∧ wtS W (b : Int) n < wtS W (j : Int) n)
        · rw [if_pos w]
          refine Or.inr ⟨j, rfl, by omega, v.1, v.2, fun k hk k1 k2 => ?_⟩
          by_cases c : k = j
          · subst c; unfold bet; omega
          · have := h k (by omega) k1 k2
            unfold bet at this ⊢
            omega
        · rw [if_neg w]
          refine Or.inr ⟨b, rfl, by omega, b2, b3, fun k hk k1 k2 => ?_⟩
          by_cases c : k = j
          · subst c; unfold bet; omega
          · exact h k (by omega) k1 k2
    · rw [if_neg v]
      rcases ih with ⟨e, h⟩ | ⟨b, e, b1, b2, b3, h⟩
      · refine Or.inl ⟨e, fun k hk k1 => ?_⟩
        by_cases c : k = j
        · subst c
          by_cases z : need ≤ sp + wtS W (k : Int) n
          · exact absurd ⟨k1, z⟩ v
          · omega
        · exact h k (by omega) k1
      · refine Or.inr ⟨b, e, by omega, b2, b3, fun k hk k1 k2 => ?_⟩
        by_cases c : k = j
        · subst c; exact absurd ⟨k1, k2⟩ v
        · exact h k (by omega) k1 k2
theorem bst_o {W : Int → Int} {T n : Nat} {need sp : Int} (hT : T < 2 ^ n) (hn : n ≤ 12) : IsO W (T : Int) n need sp (bst W T n need sp (2 ^ n)) := by
  have h12 : 2 ^ n ≤ 2 ^ 12 := Nat.pow_le_pow_right (by decide) hn
  have hT' : T < 4096 := by omega
  rcases bst_u (W := W) (T := T) (n := n) (need := need) (sp := sp) (2 ^ n) with ⟨e, h⟩ | ⟨b, e, b1, b2, b3, h⟩
  · refine Or.inl ⟨e, fun x hx => ?_⟩
    obtain ⟨k, rfl, hk⟩ := ms_n.mp hx.1
    have q := (vst_n hT').mp hx
    have := sub_le q
    exact h k (by omega) q
  · rw [e]
    refine Or.inr ⟨(vst_n hT').mpr b2, b3, fun x hx hv => ?_⟩
    obtain ⟨k, rfl, hk⟩ := ms_n.mp hx.1
    have q := (vst_n hT').mp hx
    have := sub_le q
    exact h k (by omega) q hv
end POPT
