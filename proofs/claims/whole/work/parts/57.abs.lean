/-! what both objects say, told apart from where it stands -/
section PABS
theorem lp_rel {σ ρ : Type} {body : σ → Option (σ ⊕ ρ)} (P : Nat → σ → Prop) (X : ρ → Prop) (n : Nat) (h : ∀ i s, i ≤ n → P i s → (i < n ∧ ∃ s', body s = some (.inl s') ∧ P (i + 1) s') ∨ ∃ r, body s = some (.inr r) ∧ X r) : ∀ (N : Nat) (s : σ), n < N → P 0 s → ∃ r, lp body N s = some r ∧ X r := by
  have key : ∀ (N i : Nat) (s : σ), i ≤ n → n - i < N → P i s → ∃ r, lp body N s = some r ∧ X r := by
    intro N
    induction N with
    | zero => intro i s _ hN; omega
    | succ m ih =>
      intro i s hi hN hP
      rcases h i s hi hP with ⟨h1, s', h2, h3⟩ | ⟨r, h1, h2⟩
      · rw [lp_go h2]
        exact ih (i + 1) s' (by omega) (by omega) h3
      · exact ⟨r, lp_st h1, h2⟩
  intro N s hN hP
  exact key N 0 s (Nat.zero_le _) (by omega) hP
/-- what a cell of a formula does to the kinds that wait (true: a test's 0 or 1) -/
def ftS (c : Int) (t : List Bool) : Option (List Bool) :=
  if (0 ≤ c ∧ c ≤ 9999) ∨ (-6 ≤ c ∧ c < 0) then (if t.length < 64 then some (false :: t) else none)
  else if c = 10000 then (if t.length < 64 then some (true :: t) else none)
  else if c = -9 then (match t with
    | true :: r => some (true :: r)
    | _ => none)
  else if c = -7 ∨ c = -8 then (match t with
    | true :: true :: r => some (true :: r)
    | _ => none)
  else if c = -12 ∨ c = -13 ∨ c = -14 then (match t with
    | false :: false :: r => some (true :: r)
    | _ => none)
  else if -19 ≤ c ∧ c ≤ -10 then (match t with
    | false :: false :: r => some (false :: r)
    | _ => none)
  else none
def fty (f : Int → Int) : Nat → Option (List Bool)
  | 0 => some []
  | n + 1 => match fty f n with
    | none => none
    | some t => ftS (f (n : Int)) t
def bnd (x : Int) : Int := max (-1000000) (min 1000000 x)
/-- the greatest whole number not above -/
def fl (a b : Int) : Int := if 0 < b then a / b else (-a) / (-b)
/-- what a deed gives -/
def fop (c a b : Int) : Int :=
  if c = -7 then (if a = 1 ∧ b = 1 then 1 else 0)
  else if c = -8 then (if a = 0 ∧ b = 0 then 0 else 1)
  else if c = -10 then min a b
  else if c = -11 then max a b
  else if c = -12 then (if a < b then 1 else 0)
  else if c = -13 then (if b < a then 1 else 0)
  else if c = -14 then (if a = b then 1 else 0)
  else if c = -15 then bnd (a + b)
  else if c = -16 then bnd (a - b)
  else if c = -17 then bnd (a * b)
  else if c = -18 then (if b = 0 then 0 else bnd (fl a b))
  else (if b = 0 then 0 else bnd (a - b * fl a b))
def fvS (fa : Int → Int) (c : Int) (v : List Int) : List Int :=
  if 0 ≤ c then (if c = 10000 then 1 else c) :: v
  else if -6 ≤ c then fa (-1 - c) :: v
  else if c = -9 then (match v with
    | a :: r => (1 - a) :: r
    | [] => [])
  else (match v with
    | b :: a :: r => fop c a b :: r
    | _ => [])
def fev (f fa : Int → Int) : Nat → List Int
  | 0 => []
  | n + 1 => fvS fa (f (n : Int)) (fev f fa n)
def rng (a : Int) : Prop := -1000000 ≤ a ∧ a ≤ 1000000
def typ (b : Bool) (x : Int) : Prop := if b = true then x = 0 ∨ x = 1 else rng x
def fvT : List Bool → List Int → Prop
  | [], [] => True
  | b :: t, x :: v => typ b x ∧ fvT t v
  | _, _ => False
/-- a row of numbers, the last one first, as it waits in an array -/
def stk (W : Int → Int) : List Int → Prop
  | [] => True
  | x :: r => W (r.length : Int) = x ∧ stk W r
/-- the value of a formula: the last one that waits -/
def fvl (f fa : Int → Int) : Int := match fev f fa (f (-1)).toNat with
  | x :: _ => x
  | [] => 0
/-- a formula that can be reckoned (its size at -1; 0: not told) -/
def FoOK (f : Int → Int) (b : Bool) : Prop := 0 ≤ f (-1) ∧ f (-1) ≤ 1600 ∧ (0 < f (-1) → fty f (f (-1)).toNat = some [b])
/-- a name (five bits a letter, the first one lowest) as the model packs it (eight bits a letter, the first one highest) -/
def n8f : Nat → Int → Int → Int
  | 0, _, a => a
  | k + 1, n, a => if n ≤ 0 then a else n8f k (n / 32) (256 * a + 96 + n % 32)
def n8 (n : Int) : Int := n8f 6 n 0
def ndOK : Nat → Int → Prop
  | 0, n => n = 0
  | k + 1, n => n = 0 ∨ (0 < n ∧ 1 ≤ n % 32 ∧ n % 32 ≤ 26 ∧ ndOK k (n / 32))
/-- a society: 0 counts of people, coins, goods, fades, vogue; 1 ranks; 2 worths; 3 goods' worths; 4 sellers; 5 names; 6 presents; 7 price -/
def SoOK (s : AwM) : Prop :=
  (0 ≤ s 0 0 ∧ s 0 0 ≤ 10) ∧ (0 ≤ s 0 1 ∧ s 0 1 ≤ 12) ∧ (0 ≤ s 0 2 ∧ s 0 2 ≤ 10) ∧ (0 ≤ s 0 3 ∧ s 0 3 ≤ 99) ∧ (0 ≤ s 0 4 ∧ s 0 4 ≤ 100) ∧
  (∀ p : Int, 0 ≤ p → p < s 0 0 → 0 ≤ s 1 p ∧ s 1 p ≤ 9) ∧
  (∀ c : Int, 0 ≤ c → c < s 0 1 → 1 ≤ s 2 c ∧ s 2 c ≤ 99) ∧
  (∀ g : Int, 0 ≤ g → g < s 0 2 → 0 ≤ s 3 g ∧ s 3 g ≤ 99) ∧
  (∀ g : Int, 0 ≤ g → g < s 0 2 → 0 ≤ s 4 g ∧ s 4 g < s 0 0) ∧
  FoOK (s 6) true ∧ FoOK (s 7) false ∧ (0 < s 0 1 → 0 < s 0 0) ∧
  (∀ k w : Int, 0 ≤ k → k < 3 → 0 ≤ w → w < s 0 k → ndOK 6 (s 5 (12 * k + w)))
theorem SoOK.p {s : AwM} (h : SoOK s) : 0 ≤ s 0 0 ∧ s 0 0 ≤ 10 := h.1
theorem SoOK.c {s : AwM} (h : SoOK s) : 0 ≤ s 0 1 ∧ s 0 1 ≤ 12 := h.2.1
theorem SoOK.g {s : AwM} (h : SoOK s) : 0 ≤ s 0 2 ∧ s 0 2 ≤ 10 := h.2.2.1
theorem SoOK.fa {s : AwM} (h : SoOK s) : 0 ≤ s 0 3 ∧ s 0 3 ≤ 99 := h.2.2.2.1
theorem SoOK.vo {s : AwM} (h : SoOK s) : 0 ≤ s 0 4 ∧ s 0 4 ≤ 100 := h.2.2.2.2.1
theorem SoOK.ra {s : AwM} (h : SoOK s) : ∀ p : Int, 0 ≤ p → p < s 0 0 → 0 ≤ s 1 p ∧ s 1 p ≤ 9 := h.2.2.2.2.2.1
theorem SoOK.wo {s : AwM} (h : SoOK s) : ∀ c : Int, 0 ≤ c → c < s 0 1 → 1 ≤ s 2 c ∧ s 2 c ≤ 99 := h.2.2.2.2.2.2.1
theorem SoOK.gw {s : AwM} (h : SoOK s) : ∀ g : Int, 0 ≤ g → g < s 0 2 → 0 ≤ s 3 g ∧ s 3 g ≤ 99 := h.2.2.2.2.2.2.2.1
theorem SoOK.se {s : AwM} (h : SoOK s) : ∀ g : Int, 0 ≤ g → g < s 0 2 → 0 ≤ s 4 g ∧ s 4 g < s 0 0 := h.2.2.2.2.2.2.2.2.1
theorem SoOK.f6 {s : AwM} (h : SoOK s) : FoOK (s 6) true := h.2.2.2.2.2.2.2.2.2.1
theorem SoOK.f7 {s : AwM} (h : SoOK s) : FoOK (s 7) false := h.2.2.2.2.2.2.2.2.2.2.1
theorem SoOK.cp {s : AwM} (h : SoOK s) : 0 < s 0 1 → 0 < s 0 0 := h.2.2.2.2.2.2.2.2.2.2.2.1
theorem SoOK.na {s : AwM} (h : SoOK s) : ∀ k w : Int, 0 ≤ k → k < 3 → 0 ≤ w → w < s 0 k → ndOK 6 (s 5 (12 * k + w)) := h.2.2.2.2.2.2.2.2.2.2.2.2
/-- a ledger: 0 the day; 1 holders; 2 known; 3 snubs; 4 days of meeting (10 coin + person) -/
def LdOK (s d : AwM) : Prop :=
  (0 ≤ d 0 0 ∧ d 0 0 ≤ 1000) ∧
  (∀ c : Int, 0 ≤ c → c < s 0 1 → 0 ≤ d 1 c ∧ d 1 c < s 0 0) ∧
  (∀ c : Int, 0 ≤ c → c < s 0 1 → ms (s 0 0).toNat (d 2 c)) ∧
  (∀ c : Int, 0 ≤ c → c < s 0 1 → ms (s 0 0).toNat (d 3 c)) ∧
  (∀ c : Int, 0 ≤ c → c < s 0 1 → hb (d 2 c) (d 1 c) = true) ∧
  (∀ c p : Int, 0 ≤ c → c < s 0 1 → hb (d 2 c) p = true → hb (d 3 c) p = false) ∧
  (∀ c p : Int, 0 ≤ c → c < s 0 1 → 0 ≤ p → p < s 0 0 → hb (d 2 c) p = true → 0 ≤ d 4 (10 * c + p) ∧ d 4 (10 * c + p) ≤ 1000)
theorem LdOK.day {s d : AwM} (h : LdOK s d) : 0 ≤ d 0 0 ∧ d 0 0 ≤ 1000 := h.1
theorem LdOK.ho {s d : AwM} (h : LdOK s d) : ∀ c : Int, 0 ≤ c → c < s 0 1 → 0 ≤ d 1 c ∧ d 1 c < s 0 0 := h.2.1
theorem LdOK.kn {s d : AwM} (h : LdOK s d) : ∀ c : Int, 0 ≤ c → c < s 0 1 → ms (s 0 0).toNat (d 2 c) := h.2.2.1
theorem LdOK.sn {s d : AwM} (h : LdOK s d) : ∀ c : Int, 0 ≤ c → c < s 0 1 → ms (s 0 0).toNat (d 3 c) := h.2.2.2.1
theorem LdOK.kh {s d : AwM} (h : LdOK s d) : ∀ c : Int, 0 ≤ c → c < s 0 1 → hb (d 2 c) (d 1 c) = true := h.2.2.2.2.1
theorem LdOK.ks {s d : AwM} (h : LdOK s d) : ∀ c p : Int, 0 ≤ c → c < s 0 1 → hb (d 2 c) p = true → hb (d 3 c) p = false := h.2.2.2.2.2.1
theorem LdOK.me {s d : AwM} (h : LdOK s d) : ∀ c p : Int, 0 ≤ c → c < s 0 1 → 0 ≤ p → p < s 0 0 → hb (d 2 c) p = true → 0 ≤ d 4 (10 * c + p) ∧ d 4 (10 * c + p) ≤ 1000 := h.2.2.2.2.2.2
/-- the class's cell of a formula -/
def cce (c : Int) : Int := if c = 10000 then 1 else c
/-- the model's cell of a formula -/
def mce (k v : Int) : Int :=
  if k = 0 then v
  else if k ≤ 6 then -k
  else if k = 9 then 10000
  else if k ≤ 14 then -5 - k
  else if k ≤ 16 then 5 - k
  else if k ≤ 19 then 5 - k
  else if k ≤ 21 then 13 - k
  else -9
/-- the class's society so says s -/
def CS (M : AwM) (so : Int) (s : AwM) : Prop :=
  (M (so + 1) 0 = s 0 0 ∧ M (so + 1) 1 = s 0 1 ∧ M (so + 1) 2 = s 0 2 ∧ M so 11 = s 0 3 ∧ M so 12 = s 0 4) ∧
  (∀ p : Int, 0 ≤ p → p < s 0 0 → M (so + 3) p = s 1 p) ∧
  (∀ c : Int, 0 ≤ c → c < s 0 1 → M (so + 4) c = s 2 c) ∧
  (∀ g : Int, 0 ≤ g → g < s 0 2 → M (so + 8) g = s 3 g) ∧
  (∀ g : Int, 0 ≤ g → g < s 0 2 → M (so + 9) g = s 4 g) ∧
  (∀ k w : Int, 0 ≤ k → k < 3 → 0 ≤ w → w < s 0 k → M (so + 2) (12 * k + w) = s 5 (12 * k + w)) ∧
  (M (so + 10) 1 = s 6 (-1) ∧ ∀ i : Int, 0 ≤ i → i < s 6 (-1) → M (so + 11) i = cce (s 6 i)) ∧
  (M (so + 13) 1 = s 7 (-1) ∧ ∀ i : Int, 0 ≤ i → i < s 7 (-1) → M (so + 14) i = cce (s 7 i))
/-- the class's ledger l says d -/
def CL (M : AwM) (l : Int) (s d : AwM) : Prop :=
  (M l 0 = d 0 0) ∧
  (∀ c : Int, 0 ≤ c → c < s 0 1 → M (l + 1) c = d 1 c) ∧
  (∀ c : Int, 0 ≤ c → c < s 0 1 → M (l + 2) c = d 2 c) ∧
  (∀ c : Int, 0 ≤ c → c < s 0 1 → M (l + 3) c = d 3 c) ∧
  (∀ c p : Int, 0 ≤ c → c < s 0 1 → 0 ≤ p → p < s 0 0 → hb (d 2 c) p = true → M (l + 4) (10 * c + p) = d 4 (10 * c + p))
/-- the class's circle cr with society so says s, d -/
def CC (M : AwM) (cr so : Int) (s d : AwM) : Prop :=
  LAY M ∧ (cr = 153 ∨ cr = 160) ∧ (so = 10 ∨ so = 137) ∧ M cr 1 = so ∧ SoOK s ∧ LdOK s d ∧ CS M so s ∧ CL M (cr + 1) s d
theorem CC.lay {M : AwM} {cr so : Int} {s d : AwM} (h : CC M cr so s d) : LAY M := h.1
theorem CC.hcr {M : AwM} {cr so : Int} {s d : AwM} (h : CC M cr so s d) : cr = 153 ∨ cr = 160 := h.2.1
theorem CC.hso {M : AwM} {cr so : Int} {s d : AwM} (h : CC M cr so s d) : so = 10 ∨ so = 137 := h.2.2.1
theorem CC.ref {M : AwM} {cr so : Int} {s d : AwM} (h : CC M cr so s d) : M cr 1 = so := h.2.2.2.1
theorem CC.ok {M : AwM} {cr so : Int} {s d : AwM} (h : CC M cr so s d) : SoOK s := h.2.2.2.2.1
theorem CC.ld {M : AwM} {cr so : Int} {s d : AwM} (h : CC M cr so s d) : LdOK s d := h.2.2.2.2.2.1
theorem CC.cs {M : AwM} {cr so : Int} {s d : AwM} (h : CC M cr so s d) : CS M so s := h.2.2.2.2.2.2.1
theorem CC.cl {M : AwM} {cr so : Int} {s d : AwM} (h : CC M cr so s d) : CL M (cr + 1) s d := h.2.2.2.2.2.2.2
theorem CC.n0 {M : AwM} {cr so : Int} {s d : AwM} (h : CC M cr so s d) : M (so + 1) 0 = s 0 0 := h.cs.1.1
theorem CC.n1 {M : AwM} {cr so : Int} {s d : AwM} (h : CC M cr so s d) : M (so + 1) 1 = s 0 1 := h.cs.1.2.1
theorem CC.n2 {M : AwM} {cr so : Int} {s d : AwM} (h : CC M cr so s d) : M (so + 1) 2 = s 0 2 := h.cs.1.2.2.1
theorem CC.n3 {M : AwM} {cr so : Int} {s d : AwM} (h : CC M cr so s d) : M so 11 = s 0 3 := h.cs.1.2.2.2.1
theorem CC.n4 {M : AwM} {cr so : Int} {s d : AwM} (h : CC M cr so s d) : M so 12 = s 0 4 := h.cs.1.2.2.2.2
theorem CC.ra {M : AwM} {cr so : Int} {s d : AwM} (h : CC M cr so s d) {p : Int} (p0 : 0 ≤ p) (p1 : p < s 0 0) : M (so + 3) p = s 1 p := h.cs.2.1 p p0 p1
theorem CC.wo {M : AwM} {cr so : Int} {s d : AwM} (h : CC M cr so s d) {c : Int} (c0 : 0 ≤ c) (c1 : c < s 0 1) : M (so + 4) c = s 2 c := h.cs.2.2.1 c c0 c1
theorem CC.gw {M : AwM} {cr so : Int} {s d : AwM} (h : CC M cr so s d) {g : Int} (g0 : 0 ≤ g) (g1 : g < s 0 2) : M (so + 8) g = s 3 g := h.cs.2.2.2.1 g g0 g1
theorem CC.se {M : AwM} {cr so : Int} {s d : AwM} (h : CC M cr so s d) {g : Int} (g0 : 0 ≤ g) (g1 : g < s 0 2) : M (so + 9) g = s 4 g := h.cs.2.2.2.2.1 g g0 g1
theorem CC.na {M : AwM} {cr so : Int} {s d : AwM} (h : CC M cr so s d) {k w : Int} (k0 : 0 ≤ k) (k1 : k < 3) (w0 : 0 ≤ w) (w1 : w < s 0 k) : M (so + 2) (12 * k + w) = s 5 (12 * k + w) := h.cs.2.2.2.2.2.1 k w k0 k1 w0 w1
theorem CC.f6 {M : AwM} {cr so : Int} {s d : AwM} (h : CC M cr so s d) : M (so + 10) 1 = s 6 (-1) ∧ ∀ i : Int, 0 ≤ i → i < s 6 (-1) → M (so + 11) i = cce (s 6 i) := h.cs.2.2.2.2.2.2.1
theorem CC.f7 {M : AwM} {cr so : Int} {s d : AwM} (h : CC M cr so s d) : M (so + 13) 1 = s 7 (-1) ∧ ∀ i : Int, 0 ≤ i → i < s 7 (-1) → M (so + 14) i = cce (s 7 i) := h.cs.2.2.2.2.2.2.2
theorem CC.day {M : AwM} {cr so : Int} {s d : AwM} (h : CC M cr so s d) : M (cr + 1) 0 = d 0 0 := h.cl.1
theorem CC.ho {M : AwM} {cr so : Int} {s d : AwM} (h : CC M cr so s d) {c : Int} (c0 : 0 ≤ c) (c1 : c < s 0 1) : M (cr + 2) c = d 1 c := by
  have := h.cl.2.1 c c0 c1
  rwa [Int.add_assoc] at this
theorem CC.kn {M : AwM} {cr so : Int} {s d : AwM} (h : CC M cr so s d) {c : Int} (c0 : 0 ≤ c) (c1 : c < s 0 1) : M (cr + 3) c = d 2 c := by
  have := h.cl.2.2.1 c c0 c1
  rwa [Int.add_assoc] at this
theorem CC.sn {M : AwM} {cr so : Int} {s d : AwM} (h : CC M cr so s d) {c : Int} (c0 : 0 ≤ c) (c1 : c < s 0 1) : M (cr + 4) c = d 3 c := by
  have := h.cl.2.2.2.1 c c0 c1
  rwa [Int.add_assoc] at this
theorem CC.me {M : AwM} {cr so : Int} {s d : AwM} (h : CC M cr so s d) {c p : Int} (c0 : 0 ≤ c) (c1 : c < s 0 1) (p0 : 0 ≤ p) (p1 : p < s 0 0) (hk : hb (d 2 c) p = true) : M (cr + 5) (10 * c + p) = d 4 (10 * c + p) := by
  have := h.cl.2.2.2.2 c p c0 c1 p0 p1 hk
  rwa [Int.add_assoc] at this
theorem CC.cw {M : AwM} {cr so : Int} {s d : AwM} (h : CC M cr so s d) : CW M cr so := by
  have p := h.ok.p
  have c := h.ok.c
  have g := h.ok.g
  refine ⟨h.lay, h.hcr, h.hso, h.ref, ?_⟩
  rw [h.n0, h.n1, h.n2]
  refine ⟨p.1, p.2, c.1, c.2, g.1, g.2, fun i a b => ?_, fun i a b => ?_, fun i a b => ?_, fun i a b => ?_⟩
  · rw [h.wo a b]
    have := h.ok.wo i a b
    omega
  · rw [h.ho a b]
    exact h.ld.ho i a b
  · rw [h.kn a b]
    exact h.ld.kn i a b
  · rw [h.sn a b]
    exact h.ld.sn i a b
/-- the model's names -/
def mnm (M : AwM) (b k w : Int) : Int := if k = 0 then M 187 (10 * b + w) else if k = 1 then M 188 (12 * b + w) else M 189 (10 * b + w)
/-- the model's formula -/
def MF (M : AwM) (b : Int) (fr bh : Int) (f : Int → Int) : Prop :=
  (f (-1) = 0 → M fr b = -1) ∧
  (0 < f (-1) → 0 ≤ M fr b ∧ M bh b = M fr b + f (-1) ∧ M bh b ≤ 1600 ∧
    ∀ i : Int, 0 ≤ i → i < f (-1) → (0 ≤ M 185 (1600 * b + M fr b + i) ∧ M 185 (1600 * b + M fr b + i) ≤ 22) ∧ (M 185 (1600 * b + M fr b + i) ≤ 6 ∨ 9 ≤ M 185 (1600 * b + M fr b + i)) ∧ (M 185 (1600 * b + M fr b + i) = 0 → 0 ≤ M 186 (1600 * b + M fr b + i) ∧ M 186 (1600 * b + M fr b + i) ≤ 9999) ∧ mce (M 185 (1600 * b + M fr b + i)) (M 186 (1600 * b + M fr b + i)) = f i)
/-- the model's bank b says s -/
def MS (M : AwM) (b : Int) (s : AwM) : Prop :=
  (M 169 b = s 0 0 ∧ M 171 b = s 0 1 ∧ M 176 b = s 0 2 ∧ M 179 b = s 0 3 ∧ M 180 b = s 0 4) ∧
  (∀ p : Int, 0 ≤ p → p < s 0 0 → M 170 (10 * b + p) = s 1 p) ∧
  (∀ c : Int, 0 ≤ c → c < s 0 1 → M 172 (12 * b + c) = s 2 c) ∧
  (∀ g : Int, 0 ≤ g → g < s 0 2 → M 177 (10 * b + g) = s 3 g) ∧
  (∀ g : Int, 0 ≤ g → g < s 0 2 → M 178 (10 * b + g) = s 4 g) ∧
  MF M b 181 182 (s 6) ∧ MF M b 183 184 (s 7) ∧
  (∀ k w : Int, 0 ≤ k → k < 3 → 0 ≤ w → w < s 0 k → mnm M b k w = n8 (s 5 (12 * k + w)))
/-- the model's layer L says d -/
def ML (M : AwM) (L : Int) (s d : AwM) : Prop :=
  (M 197 L = d 0 0) ∧
  (∀ c : Int, 0 ≤ c → c < s 0 1 → M 198 (12 * L + c) = d 1 c) ∧
  (∀ c : Int, 0 ≤ c → c < s 0 1 → M 199 (12 * L + c) = d 2 c) ∧
  (∀ c : Int, 0 ≤ c → c < s 0 1 → M 200 (12 * L + c) = d 3 c) ∧
  (∀ c p : Int, 0 ≤ c → c < s 0 1 → 0 ≤ p → p < s 0 0 → hb (d 2 c) p = true → M 201 (120 * L + (10 * c + p)) = d 4 (10 * c + p))
/-- the model's layer L over bank b says s, d -/
def MM (M : AwM) (b L : Int) (s d : AwM) : Prop :=
  LAY M ∧ M 167 13 = b ∧ (0 ≤ b ∧ b ≤ 1) ∧ (0 ≤ L ∧ L ≤ 21) ∧ SoOK s ∧ LdOK s d ∧ MS M b s ∧ ML M L s d
theorem MM.lay {M : AwM} {b L : Int} {s d : AwM} (h : MM M b L s d) : LAY M := h.1
theorem MM.bk {M : AwM} {b L : Int} {s d : AwM} (h : MM M b L s d) : M 167 13 = b := h.2.1
theorem MM.b01 {M : AwM} {b L : Int} {s d : AwM} (h : MM M b L s d) : 0 ≤ b ∧ b ≤ 1 := h.2.2.1
theorem MM.l21 {M : AwM} {b L : Int} {s d : AwM} (h : MM M b L s d) : 0 ≤ L ∧ L ≤ 21 := h.2.2.2.1
theorem MM.ok {M : AwM} {b L : Int} {s d : AwM} (h : MM M b L s d) : SoOK s := h.2.2.2.2.1
theorem MM.ld {M : AwM} {b L : Int} {s d : AwM} (h : MM M b L s d) : LdOK s d := h.2.2.2.2.2.1
theorem MM.ms {M : AwM} {b L : Int} {s d : AwM} (h : MM M b L s d) : MS M b s := h.2.2.2.2.2.2.1
theorem MM.ml {M : AwM} {b L : Int} {s d : AwM} (h : MM M b L s d) : ML M L s d := h.2.2.2.2.2.2.2
theorem MM.n0 {M : AwM} {b L : Int} {s d : AwM} (h : MM M b L s d) : M 169 b = s 0 0 := h.ms.1.1
theorem MM.n1 {M : AwM} {b L : Int} {s d : AwM} (h : MM M b L s d) : M 171 b = s 0 1 := h.ms.1.2.1
theorem MM.n2 {M : AwM} {b L : Int} {s d : AwM} (h : MM M b L s d) : M 176 b = s 0 2 := h.ms.1.2.2.1
theorem MM.n3 {M : AwM} {b L : Int} {s d : AwM} (h : MM M b L s d) : M 179 b = s 0 3 := h.ms.1.2.2.2.1
theorem MM.n4 {M : AwM} {b L : Int} {s d : AwM} (h : MM M b L s d) : M 180 b = s 0 4 := h.ms.1.2.2.2.2
theorem MM.ra {M : AwM} {b L : Int} {s d : AwM} (h : MM M b L s d) {p : Int} (p0 : 0 ≤ p) (p1 : p < s 0 0) : M 170 (10 * b + p) = s 1 p := h.ms.2.1 p p0 p1
theorem MM.wo {M : AwM} {b L : Int} {s d : AwM} (h : MM M b L s d) {c : Int} (c0 : 0 ≤ c) (c1 : c < s 0 1) : M 172 (12 * b + c) = s 2 c := h.ms.2.2.1 c c0 c1
theorem MM.gw {M : AwM} {b L : Int} {s d : AwM} (h : MM M b L s d) {g : Int} (g0 : 0 ≤ g) (g1 : g < s 0 2) : M 177 (10 * b + g) = s 3 g := h.ms.2.2.2.1 g g0 g1
theorem MM.se {M : AwM} {b L : Int} {s d : AwM} (h : MM M b L s d) {g : Int} (g0 : 0 ≤ g) (g1 : g < s 0 2) : M 178 (10 * b + g) = s 4 g := h.ms.2.2.2.2.1 g g0 g1
theorem MM.f6 {M : AwM} {b L : Int} {s d : AwM} (h : MM M b L s d) : MF M b 181 182 (s 6) := h.ms.2.2.2.2.2.1
theorem MM.f7 {M : AwM} {b L : Int} {s d : AwM} (h : MM M b L s d) : MF M b 183 184 (s 7) := h.ms.2.2.2.2.2.2.1
theorem MM.na {M : AwM} {b L : Int} {s d : AwM} (h : MM M b L s d) {k w : Int} (k0 : 0 ≤ k) (k1 : k < 3) (w0 : 0 ≤ w) (w1 : w < s 0 k) : mnm M b k w = n8 (s 5 (12 * k + w)) := h.ms.2.2.2.2.2.2.2 k w k0 k1 w0 w1
theorem MM.day {M : AwM} {b L : Int} {s d : AwM} (h : MM M b L s d) : M 197 L = d 0 0 := h.ml.1
theorem MM.ho {M : AwM} {b L : Int} {s d : AwM} (h : MM M b L s d) {c : Int} (c0 : 0 ≤ c) (c1 : c < s 0 1) : M 198 (12 * L + c) = d 1 c := h.ml.2.1 c c0 c1
theorem MM.kn {M : AwM} {b L : Int} {s d : AwM} (h : MM M b L s d) {c : Int} (c0 : 0 ≤ c) (c1 : c < s 0 1) : M 199 (12 * L + c) = d 2 c := h.ml.2.2.1 c c0 c1
theorem MM.sn {M : AwM} {b L : Int} {s d : AwM} (h : MM M b L s d) {c : Int} (c0 : 0 ≤ c) (c1 : c < s 0 1) : M 200 (12 * L + c) = d 3 c := h.ml.2.2.2.1 c c0 c1
theorem MM.me {M : AwM} {b L : Int} {s d : AwM} (h : MM M b L s d) {c p : Int} (c0 : 0 ≤ c) (c1 : c < s 0 1) (p0 : 0 ≤ p) (p1 : p < s 0 0) (hk : hb (d 2 c) p = true) : M 201 (120 * L + (10 * c + p)) = d 4 (10 * c + p) := h.ml.2.2.2.2 c p c0 c1 p0 p1 hk
theorem MM.mw {M : AwM} {b L : Int} {s d : AwM} (h : MM M b L s d) : MW M b L := by
  have p := h.ok.p
  have c := h.ok.c
  have g := h.ok.g
  refine ⟨h.lay, h.bk, h.b01.1, h.b01.2, h.l21.1, h.l21.2, ?_⟩
  rw [h.n0, h.n1, h.n2]
  refine ⟨p.1, p.2, c.1, c.2, g.1, g.2, fun i a b => ?_, fun i a b => ?_, fun i a b => ?_, fun i a b => ?_⟩
  · rw [h.wo a b]
    have := h.ok.wo i a b
    omega
  · rw [h.ho a b]
    exact h.ld.ho i a b
  · rw [h.kn a b]
    exact h.ld.kn i a b
  · rw [h.sn a b]
    exact h.ld.sn i a b
end PABS
