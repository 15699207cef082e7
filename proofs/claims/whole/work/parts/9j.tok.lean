/-! the tokens of a tape -/
section PTOK
def isB (c : Int) : Bool := decide (c = 32 ∨ c = 10)
def isL (c : Int) : Bool := decide (97 ≤ c ∧ c ≤ 122)
def isD (c : Int) : Bool := decide (48 ≤ c ∧ c ≤ 57)
def rnF (p : Int → Bool) (T : Int → Int) : Nat → Nat → Nat
  | 0, a => a
  | f + 1, a => if p (T (a : Int)) = true then rnF p T f (a + 1) else a
theorem rnF_p (p : Int → Bool) (T : Int → Int) (L : Nat) : ∀ f a : Nat, f = L - a → a ≤ rnF p T f a ∧ (a ≤ L → rnF p T f a ≤ L) ∧ (∀ k : Nat, a ≤ k → k < rnF p T f a → p (T (k : Int)) = true) ∧ (rnF p T f a < L → p (T ((rnF p T f a : Nat) : Int)) = false)
  | 0, a, h => ⟨Nat.le_refl _, fun x => x, fun k x y => absurd (show k < a from y) (by omega), fun x => absurd (show a < L from x) (by omega)⟩
  | f + 1, a, h => by
    unfold rnF
    by_cases e : p (T (a : Int)) = true
    · rw [if_pos e]
      obtain ⟨i1, i2, i3, i4⟩ := rnF_p p T L f (a + 1) (by omega)
      refine ⟨by omega, fun x => i2 (by omega), fun k x y => ?_, i4⟩
      by_cases ek : k = a
      · rw [ek]; exact e
      · exact i3 k (by omega) y
    · rw [if_neg e]
      exact ⟨Nat.le_refl _, fun x => x, fun k x y => absurd y (by omega), fun _ => by cases q : p (T (a : Int)); rfl; exact absurd q e⟩
/-- how far a run goes -/
def rnE (p : Int → Bool) (T : Int → Int) (L a : Nat) : Nat := rnF p T (L - a) a
theorem rnE_p (p : Int → Bool) (T : Int → Int) (L a : Nat) : a ≤ rnE p T L a ∧ (a ≤ L → rnE p T L a ≤ L) ∧ (∀ k : Nat, a ≤ k → k < rnE p T L a → p (T (k : Int)) = true) ∧ (rnE p T L a < L → p (T ((rnE p T L a : Nat) : Int)) = false) := rnF_p p T L (L - a) a rfl
def sgL : List Int := [59, 91, 93, 40, 41, 60, 62, 61, 43, 45, 42, 47, 37, 44]
def numV (T : Int → Int) (i : Int) : Nat → Int
  | 0 => 0
  | m + 1 => 10 * numV T i m + T (i + (m : Int)) - 48
theorem numV_b {T : Int → Int} {i : Int} : ∀ m : Nat, m ≤ 4 → (∀ k : Int, i ≤ k → k < i + (m : Int) → 48 ≤ T k ∧ T k ≤ 57) → 0 ≤ numV T i m ∧ numV T i m < 10 ^ m
  | 0, _, _ => ⟨Int.le_refl _, by show (0 : Int) < 10 ^ 0; decide⟩
  | m + 1, hm, h => by
    obtain ⟨a, b⟩ := numV_b m (by omega) (fun k x y => h k x (by omega))
    have l := h (i + (m : Int)) (by omega) (by omega)
    show 0 ≤ 10 * numV T i m + T (i + (m : Int)) - 48 ∧ 10 * numV T i m + T (i + (m : Int)) - 48 < 10 ^ (m + 1)
    rw [Int.pow_succ]
    omega
abbrev Tk := Int × Int × Nat × Nat × Nat
/-- kind (0 the end, 1 a sign, 2 a number, 3 a name, 4 an own word, 5 at fault, 6 no sign), value, start, place, end -/
def tkW (T : Int → Int) (s n : Nat) (g : Bool) : Tk :=
  if g = true then (5, 0, s, s, n)
  else if n - s ≤ 8 ∧ ownX (w5 T (s : Int) (n - s)) ≠ -1 then (4, ownX (w5 T (s : Int) (n - s)), s, s, n)
  else if 6 < n - s then (5, 0, s, s + 6, n)
  else (3, w5 T (s : Int) (n - s), s, s, n)
def tkN (T : Int → Int) (s n : Nat) (g : Bool) : Tk :=
  if g = true then (5, 0, s, s, n)
  else if 4 < n - s then (5, 0, s, s + 4, n)
  else (2, numV T (s : Int) (n - s), s, s, n)
def tkC (T : Int → Int) (s : Nat) : Tk := if T (s : Int) ∈ sgL then (1, T (s : Int), s, s, s + 1) else (6, T (s : Int), s, s, s + 1)
def tkA (T : Int → Int) (L s : Nat) (g : Bool) : Tk :=
  if L ≤ s then (0, 0, s, s, s)
  else if isL (T (s : Int)) = true then tkW T s (rnE isL T L s) g
  else if isD (T (s : Int)) = true then tkN T s (rnE isD T L s) g
  else tkC T s
def tok (T : Int → Int) (L e : Nat) (gl : Bool) : Tk := tkA T L (rnE isB T L e) (gl && decide (rnE isB T L e = e))
def glu (k : Int) : Bool := decide (k = 2 ∨ k = 3 ∨ k = 4)
def tks (T : Int → Int) (L : Nat) : Nat → Tk
  | 0 => tok T L 0 false
  | i + 1 => tok T L (tks T L i).2.2.2.2 (glu (tks T L i).1)
/-- what is known of a token -/
def TkOK (T : Int → Int) (L : Nat) (x : Tk) : Prop :=
  (0 ≤ x.1 ∧ x.1 ≤ 6) ∧ (x.2.2.1 ≤ x.2.2.2.2 ∧ x.2.2.2.2 ≤ L) ∧ (x.1 ≠ 0 → x.2.2.1 < x.2.2.2.2) ∧ (x.1 = 0 → x.2.2.1 = L ∧ x.2.2.2.2 = L) ∧ (x.1 ≠ 5 → x.2.2.2.1 = x.2.2.1) ∧
  (x.1 = 1 → x.2.1 ∈ sgL ∧ isL (T ((x.2.2.2.2 : Int) - 1)) = false ∧ isD (T ((x.2.2.2.2 : Int) - 1)) = false) ∧
  (x.1 = 2 → (0 ≤ x.2.1 ∧ x.2.1 ≤ 9999) ∧ isD (T ((x.2.2.2.2 : Int) - 1)) = true) ∧
  (x.1 = 3 → (ndOK 6 x.2.1 ∧ ownX x.2.1 = -1) ∧ isL (T ((x.2.2.2.2 : Int) - 1)) = true) ∧
  (x.1 = 4 → (0 ≤ x.2.1 ∧ x.2.1 < 23) ∧ isL (T ((x.2.2.2.2 : Int) - 1)) = true) ∧
  (x.1 = 6 → x.2.1 ∉ sgL)
theorem isL_t {c : Int} : isL c = true ↔ 97 ≤ c ∧ c ≤ 122 := by unfold isL; exact decide_eq_true_iff
theorem isD_t {c : Int} : isD c = true ↔ 48 ≤ c ∧ c ≤ 57 := by unfold isD; exact decide_eq_true_iff
theorem isB_t {c : Int} : isB c = true ↔ c = 32 ∨ c = 10 := by unfold isB; exact decide_eq_true_iff
theorem bf {b : Bool} (h : ¬ b = true) : b = false := by cases b; rfl; exact absurd rfl h
/-- a run of letters from s to n -/
theorem rnL_l {T : Int → Int} {L s : Nat} : ∀ q : Int, (s : Int) ≤ q → q < ((rnE isL T L s : Nat) : Int) → ltr (T q) := fun q x y => by
  have := (rnE_p isL T L s).2.2.1 q.toNat (by omega) (by omega)
  rw [show ((q.toNat : Nat) : Int) = q by omega] at this
  exact isL_t.mp this
theorem rnD_l {T : Int → Int} {L s : Nat} : ∀ q : Int, (s : Int) ≤ q → q < ((rnE isD T L s : Nat) : Int) → 48 ≤ T q ∧ T q ≤ 57 := fun q x y => by
  have := (rnE_p isD T L s).2.2.1 q.toNat (by omega) (by omega)
  rw [show ((q.toNat : Nat) : Int) = q by omega] at this
  exact isD_t.mp this
theorem rn_1 {p : Int → Bool} {T : Int → Int} {L s : Nat} (hs : s < L) (h : p (T (s : Int)) = true) : s < rnE p T L s := by
  have a := rnE_p p T L s
  refine Classical.byContradiction fun z => ?_
  have e : rnE p T L s = s := by omega
  have b := a.2.2.2
  rw [e, h] at b
  exact absurd (b hs) (by decide)
theorem sgL_no : sgL.all (fun c => !(isL c) && !(isD c)) = true := by decide +kernel
theorem tok_ok (T : Int → Int) {L e : Nat} (he : e ≤ L) (gl : Bool) : TkOK T L (tok T L e gl) ∧ e ≤ (tok T L e gl).2.2.1 := by
  obtain ⟨a1, a2, a3, a4⟩ := rnE_p isB T L e
  have a2 := a2 he
  unfold tok
  generalize (gl && decide (rnE isB T L e = e)) = g
  generalize rnE isB T L e = s at *
  unfold tkA
  by_cases z : L ≤ s
  · rw [if_pos z]
    refine ⟨⟨(show (0 : Int) ≤ 0 ∧ (0 : Int) ≤ 6 by decide), ⟨Nat.le_refl _, by show s ≤ L; omega⟩, fun h => absurd rfl h, fun _ => ⟨by show s = L; omega, by show s = L; omega⟩, fun _ => rfl, fun h => ?_, fun h => ?_, fun h => ?_, fun h => ?_, fun h => ?_⟩, a1⟩ <;> exact absurd (show (0 : Int) = _ from h) (by decide)
  · rw [if_neg z]
    by_cases zl : isL (T (s : Int)) = true
    · rw [if_pos zl]
      have r := rnE_p isL T L s
      have r2 := r.2.1 (by omega)
      have r1 := rn_1 (p := isL) (T := T) (L := L) (s := s) (by omega) zl
      have ll := rnL_l (T := T) (L := L) (s := s)
      have lst : isL (T (((rnE isL T L s : Nat) : Int) - 1)) = true := isL_t.mpr (ll (((rnE isL T L s : Nat) : Int) - 1) (by omega) (by omega))
      generalize rnE isL T L s = n at *
      unfold tkW
      by_cases zg : g = true
      · rw [if_pos zg]
        refine ⟨⟨(show (0 : Int) ≤ 5 ∧ (5 : Int) ≤ 6 by decide), ⟨by show s ≤ n; omega, r2⟩, fun _ => r1, fun h => ?_, fun h => absurd rfl h, fun h => ?_, fun h => ?_, fun h => ?_, fun h => ?_, fun h => ?_⟩, a1⟩ <;> exact absurd (show (5 : Int) = _ from h) (by decide)
      · rw [if_neg zg]
        by_cases z1 : n - s ≤ 8 ∧ ownX (w5 T (s : Int) (n - s)) ≠ -1
        · rw [if_pos z1]
          have oc := ownX_c (w5 T (s : Int) (n - s))
          refine ⟨⟨(show (0 : Int) ≤ 4 ∧ (4 : Int) ≤ 6 by decide), ⟨by show s ≤ n; omega, r2⟩, fun _ => r1, fun h => ?_, fun _ => rfl, fun h => ?_, fun h => ?_, fun h => ?_, fun _ => ⟨?_, lst⟩, fun h => ?_⟩, a1⟩
          iterate 4 exact absurd (show (4 : Int) = _ from h) (by decide)
          · show 0 ≤ ownX _ ∧ ownX _ < 23
            omega
          · exact absurd (show (4 : Int) = _ from h) (by decide)
        · rw [if_neg z1]
          by_cases z2 : 6 < n - s
          · rw [if_pos z2]
            refine ⟨⟨(show (0 : Int) ≤ 5 ∧ (5 : Int) ≤ 6 by decide), ⟨by show s ≤ n; omega, r2⟩, fun _ => r1, fun h => ?_, fun h => absurd rfl h, fun h => ?_, fun h => ?_, fun h => ?_, fun h => ?_, fun h => ?_⟩, a1⟩ <;> exact absurd (show (5 : Int) = _ from h) (by decide)
          · rw [if_neg z2]
            have nd := nd_w (T := T) (n - s) 6 (s : Int) (by omega) (fun q x y => ll q x (by omega))
            refine ⟨⟨(show (0 : Int) ≤ 3 ∧ (3 : Int) ≤ 6 by decide), ⟨by show s ≤ n; omega, r2⟩, fun _ => r1, fun h => ?_, fun _ => rfl, fun h => ?_, fun h => ?_, fun _ => ⟨⟨nd, ?_⟩, lst⟩, fun h => ?_, fun h => ?_⟩, a1⟩
            iterate 3 exact absurd (show (3 : Int) = _ from h) (by decide)
            · show ownX (w5 T (s : Int) (n - s)) = -1
              refine Classical.byContradiction fun q => z1 ⟨by omega, q⟩
            iterate 2 exact absurd (show (3 : Int) = _ from h) (by decide)
    · rw [if_neg zl]
      by_cases zd : isD (T (s : Int)) = true
      · rw [if_pos zd]
        have r := rnE_p isD T L s
        have r2 := r.2.1 (by omega)
        have r1 := rn_1 (p := isD) (T := T) (L := L) (s := s) (by omega) zd
        have ll := rnD_l (T := T) (L := L) (s := s)
        have lst : isD (T (((rnE isD T L s : Nat) : Int) - 1)) = true := isD_t.mpr (ll (((rnE isD T L s : Nat) : Int) - 1) (by omega) (by omega))
        generalize rnE isD T L s = n at *
        unfold tkN
        by_cases zg : g = true
        · rw [if_pos zg]
          refine ⟨⟨(show (0 : Int) ≤ 5 ∧ (5 : Int) ≤ 6 by decide), ⟨by show s ≤ n; omega, r2⟩, fun _ => r1, fun h => ?_, fun h => absurd rfl h, fun h => ?_, fun h => ?_, fun h => ?_, fun h => ?_, fun h => ?_⟩, a1⟩ <;> exact absurd (show (5 : Int) = _ from h) (by decide)
        · rw [if_neg zg]
          by_cases z2 : 4 < n - s
          · rw [if_pos z2]
            refine ⟨⟨(show (0 : Int) ≤ 5 ∧ (5 : Int) ≤ 6 by decide), ⟨by show s ≤ n; omega, r2⟩, fun _ => r1, fun h => ?_, fun h => absurd rfl h, fun h => ?_, fun h => ?_, fun h => ?_, fun h => ?_, fun h => ?_⟩, a1⟩ <;> exact absurd (show (5 : Int) = _ from h) (by decide)
          · rw [if_neg z2]
            have nb := numV_b (T := T) (i := (s : Int)) (n - s) (by omega) (fun q x y => ll q x (by omega))
            have p4 : (10 : Int) ^ (n - s) ≤ 10000 := by
              rcases (show n - s = 0 ∨ n - s = 1 ∨ n - s = 2 ∨ n - s = 3 ∨ n - s = 4 by omega) with q | q | q | q | q <;> rw [q] <;> decide
            refine ⟨⟨(show (0 : Int) ≤ 2 ∧ (2 : Int) ≤ 6 by decide), ⟨by show s ≤ n; omega, r2⟩, fun _ => r1, fun h => ?_, fun _ => rfl, fun h => ?_, fun _ => ⟨?_, lst⟩, fun h => ?_, fun h => ?_, fun h => ?_⟩, a1⟩
            iterate 2 exact absurd (show (2 : Int) = _ from h) (by decide)
            · show 0 ≤ numV T (s : Int) (n - s) ∧ numV T (s : Int) (n - s) ≤ 9999
              omega
            iterate 3 exact absurd (show (2 : Int) = _ from h) (by decide)
      · rw [if_neg zd]
        unfold tkC
        by_cases z1 : T (s : Int) ∈ sgL
        · rw [if_pos z1]
          have no := List.all_eq_true.mp sgL_no _ z1
          refine ⟨⟨(show (0 : Int) ≤ 1 ∧ (1 : Int) ≤ 6 by decide), ⟨by show s ≤ s + 1; omega, by show s + 1 ≤ L; omega⟩, fun _ => Nat.lt_succ_self s, fun h => ?_, fun _ => rfl, fun _ => ⟨z1, ?_⟩, fun h => ?_, fun h => ?_, fun h => ?_, fun h => ?_⟩, a1⟩
          · exact absurd (show (1 : Int) = _ from h) (by decide)
          · show isL (T (((s + 1 : Nat) : Int) - 1)) = false ∧ isD (T (((s + 1 : Nat) : Int) - 1)) = false
            rw [show ((s + 1 : Nat) : Int) - 1 = (s : Int) by omega]
            exact ⟨bf zl, bf zd⟩
          iterate 4 exact absurd (show (1 : Int) = _ from h) (by decide)
        · rw [if_neg z1]
          refine ⟨⟨(show (0 : Int) ≤ 6 ∧ (6 : Int) ≤ 6 by decide), ⟨by show s ≤ s + 1; omega, by show s + 1 ≤ L; omega⟩, fun _ => Nat.lt_succ_self s, fun h => ?_, fun _ => rfl, fun h => ?_, fun h => ?_, fun h => ?_, fun h => ?_, fun _ => z1⟩, a1⟩ <;> exact absurd (show (6 : Int) = _ from h) (by decide)
theorem tks_ok (T : Int → Int) (L : Nat) : ∀ i : Nat, TkOK T L (tks T L i)
  | 0 => (tok_ok T (Nat.zero_le _) _).1
  | i + 1 => (tok_ok T (tks_ok T L i).2.1.2 _).1
end PTOK
