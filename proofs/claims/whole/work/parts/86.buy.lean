/-! buy alike -/
section PBUY
def AgL (s d d' : AwM) : Prop := d 0 0 = d' 0 0 ∧ (∀ c : Int, 0 ≤ c → c < s 0 1 → d 1 c = d' 1 c ∧ d 2 c = d' 2 c ∧ d 3 c = d' 3 c) ∧ ∀ c p : Int, 0 ≤ c → c < s 0 1 → 0 ≤ p → p < s 0 0 → d 4 (10 * c + p) = d' 4 (10 * c + p)
theorem ML_ag {M : AwM} {L : Int} {s d d' : AwM} (h : ML M L s d) (a : AgL s d d') : ML M L s d' := by
  obtain ⟨h1, h2, h3, h4, h5⟩ := h
  obtain ⟨a1, a2, a3⟩ := a
  refine ⟨h1.trans a1, fun c x y => (h2 c x y).trans (a2 c x y).1, fun c x y => (h3 c x y).trans (a2 c x y).2.1, fun c x y => (h4 c x y).trans (a2 c x y).2.2, fun c p x y z w k => ?_⟩
  rw [← (a2 c x y).2.1] at k
  exact (h5 c p x y z w k).trans (a3 c p x y z w)
def pyM (d : AwM) (g1 p1 g2 p2 : Int) : Nat → AwM
  | 0 => d
  | c + 1 => if hb g2 (c : Int) = true then pya (if hb g1 (c : Int) = true then pya (pyM d g1 p1 g2 p2 c) (c : Int) p1 else pyM d g1 p1 g2 p2 c) (c : Int) p2 else (if hb g1 (c : Int) = true then pya (pyM d g1 p1 g2 p2 c) (c : Int) p1 else pyM d g1 p1 g2 p2 c)
theorem pyM_n {d : AwM} {g1 p1 g2 p2 a i : Int} (h1 : a ≠ 1) (h4 : a ≠ 4) : ∀ n : Nat, pyM d g1 p1 g2 p2 n a i = d a i
  | 0 => rfl
  | n + 1 => by
    have ih := pyM_n (d := d) (g1 := g1) (p1 := p1) (g2 := g2) (p2 := p2) (i := i) h1 h4 n
    unfold pyM
    split
    · rw [pya_n _ _ h1 h4]
      split
      · rw [pya_n _ _ h1 h4]; exact ih
      · exact ih
    · split
      · rw [pya_n _ _ h1 h4]; exact ih
      · exact ih
theorem pyM_1 {d : AwM} {g1 p1 g2 p2 c : Int} : ∀ n : Nat, 0 ≤ c → pyM d g1 p1 g2 p2 n 1 c = if c < n ∧ hb g2 c = true then p2 else if c < n ∧ hb g1 c = true then p1 else d 1 c
  | 0, h => by rw [if_neg (by omega), if_neg (by omega)]; rfl
  | n + 1, h => by
    have ih := pyM_1 (d := d) (g1 := g1) (p1 := p1) (g2 := g2) (p2 := p2) (c := c) n h
    have inner : (if hb g1 (n : Int) = true then pya (pyM d g1 p1 g2 p2 n) (n : Int) p1 else pyM d g1 p1 g2 p2 n) 1 c = if c = n ∧ hb g1 c = true then p1 else pyM d g1 p1 g2 p2 n 1 c := by
      by_cases z : hb g1 (n : Int) = true
      · rw [if_pos z, pya_1]
        by_cases w : c = n
        · rw [if_pos w, if_pos ⟨w, by rw [w]; exact z⟩]
        · rw [if_neg w, if_neg (fun t => w t.1)]
      · rw [if_neg z, if_neg (fun t => z (by rw [← t.1]; exact t.2))]
    have outer : ∀ E : AwM, E = (if hb g1 (n : Int) = true then pya (pyM d g1 p1 g2 p2 n) (n : Int) p1 else pyM d g1 p1 g2 p2 n) → pyM d g1 p1 g2 p2 (n + 1) 1 c = if c = n ∧ hb g2 c = true then p2 else E 1 c := fun E hE => by
      have st : pyM d g1 p1 g2 p2 (n + 1) = if hb g2 (n : Int) = true then pya E (n : Int) p2 else E := by rw [hE]; rfl
      rw [st]
      by_cases z : hb g2 (n : Int) = true
      · rw [if_pos z, pya_1]
        by_cases w : c = n
        · rw [if_pos w, if_pos ⟨w, by rw [w]; exact z⟩]
        · rw [if_neg w, if_neg (fun t => w t.1)]
      · rw [if_neg z, if_neg (fun t => z (by rw [← t.1]; exact t.2))]
    rw [outer _ rfl, inner, ih]
    cases hx : hb g2 c <;> cases hy : hb g1 c <;> simp only [Bool.false_eq_true, and_false, and_true, if_false] <;> (repeat' split) <;> omega
theorem pyM_4 {d : AwM} {g1 p1 g2 p2 c q : Int} (a0 : 0 ≤ p1) (a1 : p1 < 10) (b0 : 0 ≤ p2) (b1 : p2 < 10) (q0 : 0 ≤ q) (q1 : q < 10) (hdj : ∀ e : Int, 0 ≤ e → hb g1 e = true → hb g2 e = false) : ∀ n : Nat, (∀ e : Int, 0 ≤ e → e < n → 0 ≤ d 1 e ∧ d 1 e < 10) → 0 ≤ c → pyM d g1 p1 g2 p2 n 4 (10 * c + q) = if c < n ∧ ((hb g1 c = true ∧ (q = p1 ∨ q = d 1 c)) ∨ (hb g2 c = true ∧ (q = p2 ∨ q = d 1 c))) then d 0 0 else d 4 (10 * c + q)
  | 0, _, h => by rw [if_neg (by omega)]; rfl
  | n + 1, hd, h => by
    have ih := pyM_4 (d := d) (g1 := g1) (p1 := p1) (g2 := g2) (p2 := p2) (c := c) (q := q) a0 a1 b0 b1 q0 q1 hdj n (fun e e0 e1 => hd e e0 (by omega)) h
    have hn : pyM d g1 p1 g2 p2 n 1 (n : Int) = d 1 n := by rw [pyM_1 n (by omega), if_neg (by omega), if_neg (by omega)]
    have h0 : pyM d g1 p1 g2 p2 n 0 0 = d 0 0 := pyM_n (by decide) (by decide) n
    have hh := hd (n : Int) (by omega) (by omega)
    have dj := hdj (n : Int) (by omega)
    by_cases x : hb g1 (n : Int) = true
    · have y := dj x
      rw [show pyM d g1 p1 g2 p2 (n + 1) = pya (pyM d g1 p1 g2 p2 n) (n : Int) p1 by
        show (if hb g2 (n : Int) = true then _ else _) = _
        rw [if_neg (by rw [y]; decide), if_pos x], pya_4 q0 q1 a0 a1 (by rw [hn]; exact hh.1) (by rw [hn]; exact hh.2), hn, h0, ih]
      by_cases w : c = n
      · rw [w, x, y]
        by_cases z : q = p1 ∨ q = d 1 n
        · rw [if_pos ⟨rfl, z⟩, if_pos ⟨by omega, Or.inl ⟨rfl, z⟩⟩]
        · rw [if_neg (fun t => z t.2), if_neg (by omega), if_neg (fun t => by
            rcases t.2 with u | u
            · exact z u.2
            · cases u.1)]
      · rw [if_neg (fun t => w t.1)]
        by_cases z : c < n ∧ ((hb g1 c = true ∧ (q = p1 ∨ q = d 1 c)) ∨ (hb g2 c = true ∧ (q = p2 ∨ q = d 1 c)))
        · rw [if_pos z, if_pos ⟨by omega, z.2⟩]
        · rw [if_neg z, if_neg (fun t => z ⟨by omega, t.2⟩)]
    · by_cases y : hb g2 (n : Int) = true
      · rw [show pyM d g1 p1 g2 p2 (n + 1) = pya (pyM d g1 p1 g2 p2 n) (n : Int) p2 by
          show (if hb g2 (n : Int) = true then _ else _) = _
          rw [if_pos y, if_neg x], pya_4 q0 q1 b0 b1 (by rw [hn]; exact hh.1) (by rw [hn]; exact hh.2), hn, h0, ih]
        by_cases w : c = n
        · rw [w]
          by_cases z : q = p2 ∨ q = d 1 n
          · rw [if_pos ⟨rfl, z⟩, if_pos ⟨by omega, Or.inr ⟨y, z⟩⟩]
          · rw [if_neg (fun t => z t.2), if_neg (by omega), if_neg (fun t => by
              rcases t.2 with u | u
              · exact x u.1
              · exact z u.2)]
        · rw [if_neg (fun t => w t.1)]
          by_cases z : c < n ∧ ((hb g1 c = true ∧ (q = p1 ∨ q = d 1 c)) ∨ (hb g2 c = true ∧ (q = p2 ∨ q = d 1 c)))
          · rw [if_pos z, if_pos ⟨by omega, z.2⟩]
          · rw [if_neg z, if_neg (fun t => z ⟨by omega, t.2⟩)]
      · rw [show pyM d g1 p1 g2 p2 (n + 1) = pyM d g1 p1 g2 p2 n by
          show (if hb g2 (n : Int) = true then _ else _) = _
          rw [if_neg y, if_neg x], ih]
        by_cases z : c < n ∧ ((hb g1 c = true ∧ (q = p1 ∨ q = d 1 c)) ∨ (hb g2 c = true ∧ (q = p2 ∨ q = d 1 c)))
        · rw [if_pos z, if_pos ⟨by omega, z.2⟩]
        · rw [if_neg z, if_neg (fun t => z ⟨by
            by_cases w : c = n
            · rw [w] at t
              rcases t.2 with u | u
              · exact absurd u.1 x
              · exact absurd u.1 y
            · omega, t.2⟩)]
theorem ag_py {s d : AwM} {g1 p1 g2 p2 : Int} (ho : SoOK s) (hl : LdOK s d) (a0 : 0 ≤ p1) (a1 : p1 < s 0 0) (b0 : 0 ≤ p2) (b1 : p2 < s 0 0) (hdj : ∀ e : Int, 0 ≤ e → hb g1 e = true → hb g2 e = false) : AgL s (pyM d g1 p1 g2 p2 (s 0 1).toNat) (pyS (pyS d g1 p1 (s 0 1).toNat) g2 p2 (s 0 1).toNat) := by
  have hc := ho.c
  have hp := ho.p
  have hd : ∀ e : Int, 0 ≤ e → e < ((s 0 1).toNat : Int) → 0 ≤ d 1 e ∧ d 1 e < 10 := fun e e0 e1 => by have := hl.ho e e0 (by omega); omega
  refine ⟨?_, fun c x y => ⟨?_, ?_, ?_⟩, fun c q x y z w => ?_⟩
  · rw [pyM_n (by decide) (by decide), pyS_n (by decide) (by decide), pyS_n (by decide) (by decide)]
  · rw [pyM_1 _ x, pyS_1 _ x, pyS_1 _ x]
  · rw [pyM_n (by decide) (by decide), pyS_n (by decide) (by decide), pyS_n (by decide) (by decide)]
  · rw [pyM_n (by decide) (by decide), pyS_n (by decide) (by decide), pyS_n (by decide) (by decide)]
  · have cn : c < ((s 0 1).toNat : Int) := by omega
    rw [pyM_4 a0 (by omega) b0 (by omega) z (by omega) hdj _ hd x, pyS_4 b0 (by omega) z (by omega) _ (fun e e0 e1 => by
      rw [pyS_1 _ e0]
      split
      · omega
      · exact hd e e0 e1) x, pyS_1 _ x, pyS_n (by decide) (by decide), pyS_4 a0 (by omega) z (by omega) _ hd x]
    by_cases u : hb g1 c = true
    · have v := hdj c x u
      rw [u, v]
      by_cases t : q = p1 ∨ q = d 1 c
      · rw [if_pos ⟨cn, Or.inl ⟨rfl, t⟩⟩, if_neg (fun k => by cases k.2.1), if_pos ⟨cn, rfl, t⟩]
      · rw [if_neg (fun k => by
          rcases k.2 with m | m
          · exact t m.2
          · cases m.1), if_neg (fun k => by cases k.2.1), if_neg (fun k => t k.2.2)]
    · rw [if_neg (show ¬ (c < ((s 0 1).toNat : Int) ∧ hb g1 c = true) from fun k => u k.2)]
      by_cases v : hb g2 c = true
      · by_cases t : q = p2 ∨ q = d 1 c
        · rw [if_pos ⟨cn, Or.inr ⟨v, t⟩⟩, if_pos ⟨cn, v, t⟩]
        · rw [if_neg (fun k => by
            rcases k.2 with m | m
            · exact u m.1
            · exact t m.2), if_neg (fun k => t k.2.2), if_neg (fun k => u k.2.1)]
      · rw [if_neg (fun k => by
          rcases k.2 with m | m
          · exact u m.1
          · exact v m.1), if_neg (fun k => v k.2.1), if_neg (fun k => u k.2.1)]
theorem hld_h {s d : AwM} {w c : Int} (c0 : 0 ≤ c) (h : hb (hld s d w) c = true) : c < ((s 0 1).toNat : Int) ∧ d 1 c = w := by
  unfold hld at h
  rw [accB_hb _ c0, Bool.and_eq_true, decide_eq_true_iff, decide_eq_true_iff] at h
  exact h
theorem kng_h {s d : AwM} {w c : Int} (c0 : 0 ≤ c) (h : hb (kng s d w) c = true) : c < ((s 0 1).toNat : Int) ∧ hz (d 2 c) w = true := by
  unfold kng at h
  rw [accB_hb _ c0, Bool.and_eq_true, decide_eq_true_iff] at h
  exact h
theorem LdOK_py {s d : AwM} {g p : Int} (ho : SoOK s) (hl : LdOK s d) (p0 : 0 ≤ p) (p1 : p < s 0 0) (hk : ∀ c : Int, 0 ≤ c → c < s 0 1 → hb g c = true → hb (d 2 c) p = true) : LdOK s (pyS d g p (s 0 1).toNat) := by
  have hc := ho.c
  have key : ∀ n : Nat, n ≤ (s 0 1).toNat → LdOK s (pyS d g p n) := by
    intro n
    induction n with
    | zero => intro _; exact hl
    | succ m ih =>
      intro hm
      have h1 := ih (by omega)
      by_cases z : hb g (m : Int) = true
      · rw [show pyS d g p (m + 1) = pya (pyS d g p m) (m : Int) p from if_pos z]
        exact LdOK_pya h1 ho (by omega) (by omega) p0 p1 (by rw [pyS_n (by decide) (by decide)]; exact hk _ (by omega) (by omega) z)
      · rw [show pyS d g p (m + 1) = pyS d g p m from if_neg z]
        exact h1
  exact key _ (Nat.le_refl _)
theorem buyL_n {M : AwM} {b g1 p1 g2 p2 : Int} {s d : AwM} (h : MM M b 0 s d) (hg1 : ms 12 g1) (hg2 : ms 12 g2) (a0 : 0 ≤ p1) (a1 : p1 < s 0 0) (b0 : 0 ≤ p2) (b1 : p2 < s 0 0) (k1 : ∀ c : Int, 0 ≤ c → c < s 0 1 → hb g1 c = true → hb (d 2 c) p1 = true) (k2 : ∀ c : Int, 0 ≤ c → c < s 0 1 → hb g2 c = true → hb (d 2 c) p2 = true) : ∃ M', lp (u2 (fX9_buy_L165 SH 167 p2 g1 p1 g2)) FU (0, M) = some M' ∧ MM M' b 0 s (pyM d g1 p1 g2 p2 (s 0 1).toNat) ∧ mfr 0 M' M := by
  have hc := h.ok.c
  have hbb := h.b01
  refine lp_rel (body := u2 (fX9_buy_L165 SH 167 p2 g1 p1 g2)) (P := fun j (t : Int × AwM) => t.1 = (j : Int) ∧ MM t.2 b 0 s (pyM d g1 p1 g2 p2 j) ∧ mfr 0 t.2 M) (X := fun r : AwM => MM r b 0 s (pyM d g1 p1 g2 p2 (s 0 1).toNat) ∧ mfr 0 r M) (n := (s 0 1).toNat) ?_ FU (0, M) (FU_gt (by omega)) ⟨rfl, h, mfr_rf⟩
  rintro j ⟨i, M3⟩ hj ⟨hi, h3, f3⟩
  change i = (j : Int) at hi
  change MM M3 b 0 s _ at h3
  subst hi
  rw [u2_1]
  unfold fX9_buy_L165
  rw [kd167, gd_t rfl, ly167_16 h3.lay, kd171, h3.bk, ga_t (by omega) (by omega), h3.n1]
  by_cases hjn : j < (s 0 1).toNat
  · have second : ∀ (M4 : AwM) (e : AwM), MM M4 b 0 s e → mfr 0 M4 M → e 2 (j : Int) = d 2 j → pyM d g1 p1 g2 p2 (j + 1) = (if hb g2 (j : Int) = true then pya e (j : Int) p2 else e) → ∃ s', fX9_buy_J196_165 SH M4 167 p2 g1 p1 g2 (j : Int) = some (.inl s') ∧ s'.1 = ((j + 1 : Nat) : Int) ∧ MM s'.2 b 0 s (pyM d g1 p1 g2 p2 (j + 1)) ∧ mfr 0 s'.2 M := fun M4 e h4 f4 he st => by
      unfold fX9_buy_J196_165
      rw [has2_n hg2 (by omega) (by omega) (by omega), pb_1, u1_1, hz_p (by omega), bi_if, w32_s (v := (j : Int) + 1) (by omega) (by omega)]
      by_cases z : hb g2 (j : Int) = true
      · obtain ⟨M5, e5, h5, f5⟩ := pays_n h4 (c := (j : Int)) (by omega) (by omega) b0 b1 (by rw [he]; exact k2 _ (by omega) (by omega) z)
        rw [if_pos z] at st ⊢
        rw [kd167, gd_t rfl, e5, pb_1, u1_1]
        exact ⟨_, rfl, by simp, by rw [st]; exact h5, mfr_tr f4 f5⟩
      · rw [if_neg z] at st ⊢
        exact ⟨_, rfl, by simp, by rw [st]; exact h4, f4⟩
    refine Or.inl ⟨hjn, ?_⟩
    rw [if_pos (by omega), has2_n hg1 (by omega) (by omega) (by omega), pb_1, u1_1, hz_p (by omega), bi_if]
    have k0 : pyM d g1 p1 g2 p2 j 2 (j : Int) = d 2 j := pyM_n (by decide) (by decide) j
    by_cases z : hb g1 (j : Int) = true
    · obtain ⟨M4, e4, h4, f4⟩ := pays_n h3 (c := (j : Int)) (by omega) (by omega) a0 a1 (by rw [k0]; exact k1 _ (by omega) (by omega) z)
      rw [if_pos z, e4, pb_1, u1_1]
      exact second M4 _ h4 (mfr_tr f3 f4) ((pya_n _ _ (by decide) (by decide)).trans k0) (by
        show (if hb g2 (j : Int) = true then _ else _) = _
        rw [if_pos z])
    · rw [if_neg z]
      exact second M3 _ h3 f3 k0 (by
        show (if hb g2 (j : Int) = true then _ else _) = _
        rw [if_neg z])
  · have ej : (s 0 1).toNat = j := by omega
    exact Or.inr ⟨M3, by rw [if_neg (by omega)], by rw [ej]; exact h3, f3⟩
/-- the change that a buyer gets; -1: it can't be bought so -/
def chA (s d : AwM) (p g k : Int) : Int :=
  if s 4 g = p then -1
  else if an_ k (xo_ (an_ (hld s d p) (kng s d (s 4 g))) (-1)) = 0 then
    (if wts s k < prc s d g p then -1 else cgS s (an_ (hld s d (s 4 g)) (kng s d p)).toNat (wts s k - prc s d g p) (2 ^ (s 0 1).toNat))
  else -1
theorem hk_nat {s d : AwM} (ho : SoOK s) (a b : Int) : ∃ k : Nat, an_ (hld s d a) (kng s d b) = (k : Int) ∧ k < 2 ^ (s 0 1).toNat := by
  have hc := ho.c
  exact ms_n.mp ((ms_and (n := (s 0 1).toNat) (by omega) (accB_ms _ _) (ms_lt (kng_ms ho) (by decide)).1).1)
theorem giv_ms {s d : AwM} (ho : SoOK s) {k a b : Int} (hk : I32 k) (h : an_ k (xo_ (an_ (hld s d a) (kng s d b)) (-1)) = 0) : (0 ≤ k ∧ k < ((2 ^ (s 0 1).toNat : Nat) : Int)) ∧ ms 12 k ∧ ∀ c : Int, 0 ≤ c → hb k c = true → hb (hld s d a) c = true ∧ hb (kng s d b) c = true := by
  have hc := ho.c
  obtain ⟨x, ex, hx⟩ := hk_nat (d := d) ho a b
  have h12 : 2 ^ (s 0 1).toNat ≤ 2 ^ 12 := Nat.pow_le_pow_right (by decide) (by omega)
  have mx : ms (s 0 1).toNat (an_ (hld s d a) (kng s d b)) := ms_n.mpr ⟨x, ex, hx⟩
  have ml := ms_lt mx (by omega)
  obtain ⟨k0, hs⟩ := (an_not hk ml.1 ml.2).mp h
  have mk := ms_sub mx (by omega) k0 hk.2 hs
  obtain ⟨y, ey, hy⟩ := ms_n.mp mk
  refine ⟨⟨k0, by omega⟩, ms_up mk (by omega), fun c c0 hc' => ?_⟩
  have c31 : c < 31 := by
    apply Classical.byContradiction
    intro g
    rw [ms_hb (ms_up mk (show (s 0 1).toNat ≤ 31 by omega)) (by omega)] at hc'
    cases hc'
  have := hs c c0 c31 hc'
  rw [(ms_and (n := 12) (by decide) (hld_ms ho) (ms_lt (kng_ms ho) (by decide)).1).2, Bool.and_eq_true] at this
  exact this
theorem chgO_n {M : AwM} {cr so : Int} {s d : AwM} (h : CC M cr so s d) {p g k : Int} (hk : I32 k) (p0 : 0 ≤ p) (p1 : p < s 0 0) (g0 : 0 ≤ g) (g1 : g < s 0 2) : ∃ M', fX0_changeOf SH M cr p g k = some (chA s d p g k, M') ∧ csc cr so M' M := by
  have hg := h.ok.g
  have hp := h.ok.p
  unfold fX0_changeOf chA
  rw [kcr0 h.hcr, gd_t rfl, h.ref, kso0 h.hso, gd_t rfl, lso0_8 h.lay h.hso, kso9 h.hso, ga_t g0 (by omega), h.se g0 g1]
  by_cases a : s 4 g = p
  · rw [if_pos a, if_pos a.symm]
    exact ⟨M, rfl, csc_rf⟩
  rw [if_neg a, if_neg (fun t => a t.symm), hld_n h, pb_1, u1_1, kng_n h, pb_1, u1_1]
  by_cases b : an_ k (xo_ (an_ (hld s d p) (kng s d (s 4 g))) (-1)) = 0
  · obtain ⟨q1, q2, q3⟩ := giv_ms h.ok hk b
    obtain ⟨M1, e1, f1⟩ := prc_n h g0 g1 p0 p1
    have h1 : CC M1 cr so s d := CC_sc h f1
    have pb' := prc_b (d := d) h.ok g0 g1 (p := p)
    have wb := wts_b h.ok k
    obtain ⟨x, ex, hx⟩ := hk_nat (d := d) h.ok (s 4 g) p
    rw [if_pos b, if_pos b, wts_n h q2, pb_1, u1_1, e1, pb_1, u2_1, w32_s (v := wts s k - prc s d g p) (by omega) (by omega)]
    by_cases c : wts s k < prc s d g p
    · rw [if_pos c, if_pos (by omega)]
      exact ⟨M1, rfl, f1⟩
    · rw [if_neg c, if_neg (by omega), hld_n h1, pb_1, u1_1, kng_n h1, pb_1, u1_1, h1.ref, kso0 h.hso, gd_t rfl, ex, chgC_n h1 hx, pb_1, u1_1, Int.toNat_natCast]
      exact ⟨M1, rfl, f1⟩
  · rw [if_neg b, if_neg b]
    exact ⟨M, rfl, csc_rf⟩
theorem buy_b {s d : AwM} {n : Int} {R : Int → AwM} {mi : AwM} {p g k : Int} (hk : I32 k) : BSt (fun M => fX8_buy SH M 1 p g k) (fun M => fX9_buy SH M 167 p g k) s d n R mi := by
  have refu : (∀ M, CR M s d n R mi → fX8_buy SH M 1 p g k = pb (fX8_refuse SH M 1 3) (u2 fun x M' => some (x, M')) ∨ ∃ M1, CR M1 s d n R mi ∧ hif M1 M ∧ fX8_buy SH M 1 p g k = pb (fX8_refuse SH M1 1 3) (u2 fun x M' => some (x, M'))) → (∀ M, MR M s d n R mi → ∃ M1, MR M1 s d n R mi ∧ lof M1 M ∧ fX9_buy SH M 167 p g k = pb (fX9_refuses SH M1 167 3) (u2 fun x M' => some (x, M'))) → BSt (fun M => fX8_buy SH M 1 p g k) (fun M => fX9_buy SH M 167 p g k) s d n R mi := fun hC hM => by
    refine ⟨-1, s, d, n, R, rfu mi 3, fun M h => ?_, fun M h => ?_⟩
    · rcases hC M h with e | ⟨M1, h1, f1, e⟩
      · obtain ⟨M2, e2, h2, f2⟩ := refC h (k := 3) (by decide) (by decide)
        exact ⟨M2, by show fX8_buy SH M 1 p g k = _; rw [e, e2, pb_1, u2_1], h2, f2⟩
      · obtain ⟨M2, e2, h2, f2⟩ := refC h1 (k := 3) (by decide) (by decide)
        exact ⟨M2, by show fX8_buy SH M 1 p g k = _; rw [e, e2, pb_1, u2_1], h2, hif_tr f1 f2⟩
    · obtain ⟨M1, h1, f1, e⟩ := hM M h
      obtain ⟨M2, e2, h2, f2⟩ := refM h1 (k := 3) (by decide) (by decide)
      exact ⟨M2, by show fX9_buy SH M 167 p g k = _; rw [e, e2, pb_1, u2_1], h2, lof_tr f1 f2⟩
  by_cases hp : 0 ≤ p ∧ p < s 0 0
  · by_cases hg : 0 ≤ g ∧ g < s 0 2
    · by_cases hch : chA s d p g k = -1
      · refine refu (fun M h => Or.inr ?_) (fun M h => ?_)
        · obtain ⟨M1, e1, f1⟩ := chgO_n h.cc hk hp.1 hp.2 hg.1 hg.2
          refine ⟨M1, CR_of h (csc_cf f1) (CC_sc h.cc f1), cfr_hi (Or.inl rfl) h.cc.hso (csc_cf f1), ?_⟩
          unfold fX8_buy
          rw [kd1, gd_t rfl, kso0 h.cc.hso, gd_t rfl, isTh_n h.cc (by decide) (by decide), pb_1, u1_1, bi_if, if_pos (decide_eq_true hp), isTh_n h.cc (by decide) (by decide), pb_1, u1_1, bi_if, if_pos (decide_eq_true hg), ly1_4 h.lay, kd153, gd_t rfl, e1, pb_1, u2_1, if_pos hch]
        · have l := h.lay
          have hbb := h.mm.b01
          have hgg := h.mm.ok.g
          have hpp := h.mm.ok.p
          obtain ⟨q0, q1⟩ := h.mm.ok.se g hg.1 hg.2
          unfold fX9_buy fX9_buy_J102 fX9_buy_J103 fX9_buy_J144
          rw [kd167, gd_t rfl, (mis_n (c := 0) (p := p) h.mm).2, pb_1, u1_1, bi_if, if_pos (decide_eq_true hp), mware_n h.mm, pb_1, u1_1, bi_if, if_pos (decide_eq_true hg)]
          by_cases k0 : k < 0
          · exact ⟨M, h, fun _ _ _ => rfl, by rw [if_pos k0]⟩
          rw [if_neg k0, ly167_16 l, kd171, ga_t (by omega) (by omega), h.mm.n1, slc_n h.mm]
          by_cases kb : k < ((2 ^ (s 0 1).toNat : Nat) : Int)
          · rw [if_pos kb, ly167_23 l, kd178, w32_s (v := 10 * M 167 13) (by omega) (by omega), w32_s (v := 10 * M 167 13 + g) (by omega) (by omega), ga_t (by omega) (by omega), h.mm.se hg.1 hg.2, bd_1]
            unfold chA at hch
            by_cases a : s 4 g = p
            · rw [if_pos a, if_pos (show (0 : Int) = 0 from rfl), if_pos (show (-1 : Int) = -1 from rfl), gd_t rfl]
              exact ⟨M, h, fun _ _ _ => rfl, rfl⟩
            · rw [if_neg a] at hch ⊢
              rw [mhld_n h.mm, pb_1, u1_1, mkng_n h.mm q0 (by omega), pb_1, u1_1]
              by_cases b : an_ k (xo_ (an_ (hld s d p) (kng s d (s 4 g))) (-1)) = 0
              · obtain ⟨r1, r2, r3⟩ := giv_ms h.mm.ok hk b
                obtain ⟨M1, e1, f1⟩ := mprc_n h.mm hg.1 hg.2 hp.1 hp.2
                have h1 : MR M1 s d n R mi := MR_of h (msc_mf f1) (MM_sc h.mm f1)
                have pb' := prc_b (d := d) h.mm.ok hg.1 hg.2 (p := p)
                have wb := wts_b h.mm.ok k
                rw [if_pos b] at hch ⊢
                rw [mwts_n h.mm r2, pb_1, u1_1, e1, pb_1, u2_1]
                by_cases c : wts s k < prc s d g p
                · rw [if_pos c, if_pos (show (0 : Int) = 0 from rfl), if_pos (show (-1 : Int) = -1 from rfl), gd_t rfl]
                  exact ⟨M1, h1, mfr_lo (msc_mf (L := 0) f1), rfl⟩
                · obtain ⟨M2, e2, f2⟩ := mprc_n h1.mm hg.1 hg.2 hp.1 hp.2
                  have h2 : MR M2 s d n R mi := MR_of h1 (msc_mf f2) (MM_sc h1.mm f2)
                  obtain ⟨x, ex, hx⟩ := hk_nat (d := d) h.mm.ok (s 4 g) p
                  rw [if_neg c, ex, Int.toNat_natCast] at hch
                  rw [if_neg c, if_neg (show ¬ (1 : Int) = 0 by decide), gd_t rfl, mhld_n h1.mm, pb_1, u1_1, mkng_n h1.mm hp.1 (by omega), pb_1, u1_1, mwts_n h1.mm r2, pb_1, u1_1, e2, pb_1, u2_1, w32_s (v := wts s k - prc s d g p) (by omega) (by omega), ex, chgM_n h2.mm hx, pb_1, u1_1, if_pos hch, gd_t rfl]
                  exact ⟨M2, h2, lof_tr (mfr_lo (msc_mf (L := 0) f1)) (mfr_lo (msc_mf (L := 0) f2)), rfl⟩
              · rw [if_neg b, if_pos (show (0 : Int) = 0 from rfl), if_pos (show (-1 : Int) = -1 from rfl), gd_t rfl]
                exact ⟨M, h, fun _ _ _ => rfl, rfl⟩
          · rw [if_neg kb]
            exact ⟨M, h, fun _ _ _ => rfl, rfl⟩
      · by_cases hex : SoOK s ∧ LdOK s d
        · obtain ⟨ho, hl⟩ := hex
          have hpp := ho.p
          have hgg := ho.g
          obtain ⟨q0, q1⟩ := ho.se g hg.1 hg.2
          have hch0 := hch
          unfold chA at hch
          have ha : ¬ s 4 g = p := fun t => by rw [if_pos t] at hch; exact hch rfl
          rw [if_neg ha] at hch
          have hb0 : an_ k (xo_ (an_ (hld s d p) (kng s d (s 4 g))) (-1)) = 0 := Classical.byContradiction fun t => by rw [if_neg t] at hch; exact hch rfl
          rw [if_pos hb0] at hch
          have hw : ¬ wts s k < prc s d g p := fun t => by rw [if_pos t] at hch; exact hch rfl
          rw [if_neg hw] at hch
          obtain ⟨r1, r2, r3⟩ := giv_ms ho hk hb0
          obtain ⟨x, ex, hx⟩ := hk_nat (d := d) ho (s 4 g) p
          have h12 : 2 ^ (s 0 1).toNat ≤ 2 ^ 12 := Nat.pow_le_pow_right (by decide) (by have := ho.c; omega)
          rw [ex, Int.toNat_natCast] at hch
          have hcA : chA s d p g k = cgS s x (wts s k - prc s d g p) (2 ^ (s 0 1).toNat) := by
            unfold chA
            rw [if_neg ha, if_pos hb0, if_neg hw, ex, Int.toNat_natCast]
          obtain ⟨y, ey, hy⟩ : ∃ y : Nat, cgS s x (wts s k - prc s d g p) (2 ^ (s 0 1).toNat) = (y : Int) ∧ y &&& x = y := by
            rcases cgS_in (s := s) (h := x) (m := wts s k - prc s d g p) (2 ^ (s 0 1).toNat) with t | t
            · exact absurd t hch
            · exact t
          have yx := sub_le hy
          have my : ms 12 (y : Int) := ms_n.mpr ⟨y, rfl, by omega⟩
          have ysub : ∀ c : Int, 0 ≤ c → hb (y : Int) c = true → hb (hld s d (s 4 g)) c = true ∧ hb (kng s d p) c = true := fun c c0 hc' => by
            have h1 : hb ((x : Nat) : Int) c = true := by
              unfold hb at *
              rw [Int.toNat_natCast] at *
              rw [← hy, Nat.testBit_and, Bool.and_eq_true] at hc'
              exact hc'.2
            rw [← ex, (ms_and (n := 12) (by decide) (hld_ms ho) (ms_lt (kng_ms ho) (by decide)).1).2, Bool.and_eq_true] at h1
            exact h1
          have hdj : ∀ e : Int, 0 ≤ e → hb k e = true → hb (y : Int) e = false := fun e e0 he => by
            cases z : hb (y : Int) e
            · rfl
            · have u1 := (hld_h e0 (r3 e e0 he).1).2
              have u2 := (hld_h e0 (ysub e e0 z).1).2
              exact absurd (u2.symm.trans u1) ha
          have kg : ∀ c : Int, 0 ≤ c → c < s 0 1 → hb k c = true → hb (d 2 c) (s 4 g) = true := fun c c0 c1 hc' => by
            have := (kng_h c0 (r3 c c0 hc').2).2
            rwa [hz_p q0] at this
          have kc : ∀ c : Int, 0 ≤ c → c < s 0 1 → hb (y : Int) c = true → hb (d 2 c) p = true := fun c c0 c1 hc' => by
            have := (kng_h c0 (ysub c c0 hc').2).2
            rwa [hz_p hp.1] at this
          refine ⟨(y : Int), s, pyS (pyS d k (s 4 g) (s 0 1).toNat) (y : Int) p (s 0 1).toNat, min 20 (n + 1), kpR d R, mi, fun M h => ?_, fun M h => ?_⟩
          · obtain ⟨M1, e1, f1⟩ := chgO_n h.cc hk hp.1 hp.2 hg.1 hg.2
            have h1 : CR M1 s d n R mi := CR_of h (csc_cf f1) (CC_sc h.cc f1)
            obtain ⟨M2, e2, h2, f2, g2⟩ := keep_n h1
            obtain ⟨M3, e3, h3, f3⟩ := payAll_n h2.cc r2 q0 q1 kg
            have h3' := CR_of h2 f3 h3
            obtain ⟨M4, e4, h4, f4⟩ := payAll_n h3'.cc my hp.1 hp.2 (fun c c0 c1 hc' => by rw [pyS_n (by decide) (by decide)]; exact kc c c0 c1 hc')
            refine ⟨M4, ?_, CR_of h3' f4 h4, hif_tr (hif_tr (hif_tr (cfr_hi (Or.inl rfl) h.cc.hso (csc_cf f1)) f2) (cfr_hi (Or.inl rfl) h2.cc.hso f3)) (cfr_hi (Or.inl rfl) h3'.cc.hso f4)⟩
            show fX8_buy SH M 1 p g k = _
            unfold fX8_buy
            rw [kd1, gd_t rfl, kso0 h.cc.hso, gd_t rfl, isTh_n h.cc (by decide) (by decide), pb_1, u1_1, bi_if, if_pos (decide_eq_true hp), isTh_n h.cc (by decide) (by decide), pb_1, u1_1, bi_if, if_pos (decide_eq_true hg), ly1_4 h.lay, kd153, gd_t rfl, e1, pb_1, u2_1, if_neg hch0, ly1_4 h1.lay, kd153, gd_t rfl, ly1_6 h1.lay, kd26, gd_t rfl, ly153_0 h1.lay, e2, pb_1, u1_1, kso0 h2.cc.hso, gd_t rfl, lso0_8 h2.lay h2.cc.hso, kso9 h2.cc.hso, ga_t hg.1 (by omega), h2.cc.se hg.1 hg.2, ly1_4 h2.lay, kd153, gd_t rfl, e3, pb_1, u1_1, ly1_4 h3'.lay, kd153, gd_t rfl, hcA, ey, e4, pb_1, u1_1]
          · have l := h.lay
            have hbb := h.mm.b01
            obtain ⟨M1, e1, f1⟩ := mprc_n h.mm hg.1 hg.2 hp.1 hp.2
            have h1 : MR M1 s d n R mi := MR_of h (msc_mf f1) (MM_sc h.mm f1)
            obtain ⟨M2, e2, f2⟩ := mprc_n h1.mm hg.1 hg.2 hp.1 hp.2
            have h2 : MR M2 s d n R mi := MR_of h1 (msc_mf f2) (MM_sc h1.mm f2)
            obtain ⟨M3, e3, h3, f3⟩ := mkeep_n h2
            obtain ⟨M4, e4, h4, f4⟩ := buyL_n h3.mm r2 my q0 q1 hp.1 hp.2 kg kc
            have pb' := prc_b (d := d) ho hg.1 hg.2 (p := p)
            have wb := wts_b ho k
            have hC : LdOK s (pyS (pyS d k (s 4 g) (s 0 1).toNat) (y : Int) p (s 0 1).toNat) := LdOK_py ho (LdOK_py ho hl q0 q1 kg) hp.1 hp.2 (fun c c0 c1 hc' => by rw [pyS_n (by decide) (by decide)]; exact kc c c0 c1 hc')
            refine ⟨M4, ?_, MR_of h3 f4 (MM_of h3.mm f4 hC (ML_ag h4.ml (ag_py ho hl q0 q1 hp.1 hp.2 hdj))), lof_tr (lof_tr (lof_tr (mfr_lo (msc_mf (L := 0) f1)) (mfr_lo (msc_mf (L := 0) f2))) f3) (mfr_lo f4)⟩
            show fX9_buy SH M 167 p g k = _
            unfold fX9_buy fX9_buy_J102 fX9_buy_J103 fX9_buy_J144
            rw [kd167, gd_t rfl, (mis_n (c := 0) (p := p) h.mm).2, pb_1, u1_1, bi_if, if_pos (decide_eq_true hp), mware_n h.mm, pb_1, u1_1, bi_if, if_pos (decide_eq_true hg), if_neg (show ¬ k < 0 by omega), ly167_16 l, kd171, ga_t (by omega) (by omega), h.mm.n1, slc_n h.mm, if_pos r1.2, ly167_23 l, kd178, w32_s (v := 10 * M 167 13) (by omega) (by omega), w32_s (v := 10 * M 167 13 + g) (by omega) (by omega), ga_t (by omega) (by omega), h.mm.se hg.1 hg.2, bd_1, if_neg ha, mhld_n h.mm, pb_1, u1_1, mkng_n h.mm q0 (by omega), pb_1, u1_1, if_pos hb0, mwts_n h.mm r2, pb_1, u1_1, e1, pb_1, u2_1, if_neg hw, if_neg (show ¬ (1 : Int) = 0 by decide), gd_t rfl, mhld_n h1.mm, pb_1, u1_1, mkng_n h1.mm hp.1 (by omega), pb_1, u1_1, mwts_n h1.mm r2, pb_1, u1_1, e2, pb_1, u2_1, w32_s (v := wts s k - prc s d g p) (by omega) (by omega), ex, chgM_n h2.mm hx, pb_1, u1_1, ey, if_neg (show ¬ (y : Int) = -1 by omega), gd_t rfl, e3, pb_1, u1_1, e4, pb_1, u1_1]
        · exact ⟨0, s, d, n, R, mi, fun M h => absurd ⟨h.cc.ok, h.cc.ld⟩ hex, fun M h => absurd ⟨h.mm.ok, h.mm.ld⟩ hex⟩
    · refine refu (fun M h => Or.inl ?_) (fun M h => ⟨M, h, fun _ _ _ => rfl, ?_⟩)
      · unfold fX8_buy
        rw [kd1, gd_t rfl, kso0 h.cc.hso, gd_t rfl, isTh_n h.cc (by decide) (by decide), pb_1, u1_1, bi_if, if_pos (decide_eq_true hp), isTh_n h.cc (by decide) (by decide), pb_1, u1_1, bi_if, if_neg (by rw [decide_eq_false hg]; decide)]
      · unfold fX9_buy
        rw [kd167, gd_t rfl, (mis_n (c := 0) (p := p) h.mm).2, pb_1, u1_1, bi_if, if_pos (decide_eq_true hp), mware_n h.mm, pb_1, u1_1, bi_if, if_neg (by rw [decide_eq_false hg]; decide)]
  · refine refu (fun M h => Or.inl ?_) (fun M h => ⟨M, h, fun _ _ _ => rfl, ?_⟩)
    · unfold fX8_buy
      rw [kd1, gd_t rfl, kso0 h.cc.hso, gd_t rfl, isTh_n h.cc (by decide) (by decide), pb_1, u1_1, bi_if, if_neg (by rw [decide_eq_false hp]; decide)]
    · unfold fX9_buy
      rw [kd167, gd_t rfl, (mis_n (c := 0) (p := p) h.mm).2, pb_1, u1_1, bi_if, if_neg (by rw [decide_eq_false hp]; decide)]
end PBUY
