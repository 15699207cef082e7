/-! the ways in the list of the search -/
section PWAY
def prv (x : Int × Int × Int × Int) : Int := if x.2.2.2 < 10 then x.2.1 else clb x.2.1 (x.2.2.2 - 10)
def Way (l : List (Int × Int × Int × Int)) : List (Int × Int × Int × Int) → (Int × Int × Int × Int) → Prop
  | [], x => x.2.2.1 = -1
  | y :: ys, x => x.2.2.1 ≠ -1 ∧ y ∈ l ∧ y.1 = x.2.2.1 ∧ y.2.1 = prv x ∧ Way l ys y
theorem Way_mn {l l' : List (Int × Int × Int × Int)} (h : ∀ x ∈ l, x ∈ l') : ∀ (ys : List (Int × Int × Int × Int)) (x : Int × Int × Int × Int), Way l ys x → Way l' ys x
  | [], _, e => e
  | _ :: ys, _, e => ⟨e.1, h _ e.2.1, e.2.2.1, e.2.2.2.1, Way_mn h ys _ e.2.2.2.2⟩
def WL (l : List (Int × Int × Int × Int)) : Prop := ∀ x ∈ l, ∃ ys, Way l ys x ∧ (ys.length : Int) ≤ 2 * (pc x.2.1 - 1) + (if x.2.2.1 ≠ -1 ∧ x.2.2.2 < 10 then 1 else 0)
def WK (P : Int) (l : List (Int × Int × Int × Int)) : Prop := ∀ x ∈ l, x.2.2.1 ≠ -1 → x.2.2.2 < 10 → ∀ q : Int, 0 ≤ q → q < P → hb x.2.1 q = true → inQ l q x.2.1 = true
theorem mem_rch {l : List (Int × Int × Int × Int)} {x z : Int × Int × Int × Int} (h : z ∈ rchQ l x) : z ∈ l ∨ z = x := by
  unfold rchQ at h
  by_cases e : inQ l x.1 x.2.1 = true
  · rw [if_pos e] at h; exact Or.inl h
  · rw [if_neg e] at h
    rcases List.mem_append.mp h with a | a
    · exact Or.inl a
    · exact Or.inr (List.mem_singleton.mp a)
theorem mem_pay {l : List (Int × Int × Int × Int)} {w m : Int} {z : Int × Int × Int × Int} : ∀ t : Nat, z ∈ payQ l w m t → z ∈ l ∨ ∃ q : Int, 0 ≤ q ∧ q < (t : Int) ∧ z = (q, m, w, q)
  | 0, h => Or.inl h
  | t + 1, h => by
    unfold payQ at h
    by_cases c : ¬ (t : Int) = w ∧ hb m (t : Int) = true
    · rw [if_pos c] at h
      rcases mem_rch h with a | a
      · rcases mem_pay t a with b | ⟨q, q0, q1, q2⟩
        · exact Or.inl b
        · exact Or.inr ⟨q, q0, by omega, q2⟩
      · exact Or.inr ⟨(t : Int), by omega, by omega, a⟩
    · rw [if_neg c] at h
      rcases mem_pay t h with b | ⟨q, q0, q1, q2⟩
      · exact Or.inl b
      · exact Or.inr ⟨q, q0, by omega, q2⟩
theorem mem_pre {l : List (Int × Int × Int × Int)} {s d : AwM} {c w m : Int} {z : Int × Int × Int × Int} : ∀ t : Nat, z ∈ preQ l s d c w m t → z ∈ l ∨ ∃ k : Int, 0 ≤ k ∧ k < (t : Int) ∧ hb m k = false ∧ z = (w, stb m k, w, 10 + k)
  | 0, h => Or.inl h
  | t + 1, h => by
    unfold preQ at h
    by_cases c' : (hb m (t : Int) || hb (d 3 c) (t : Int)) = false ∧ tst s d c w (t : Int) (pc m) (cnH s d c w) = true
    · rw [if_pos c'] at h
      rcases mem_rch h with a | a
      · rcases mem_pre t a with b | ⟨q, q0, q1, q2⟩
        · exact Or.inl b
        · exact Or.inr ⟨q, q0, by omega, q2⟩
      · exact Or.inr ⟨(t : Int), by omega, by omega, (Bool.or_eq_false_iff.mp c'.1).1, a⟩
    · rw [if_neg c'] at h
      rcases mem_pre t h with b | ⟨q, q0, q1, q2⟩
      · exact Or.inl b
      · exact Or.inr ⟨q, q0, by omega, q2⟩
theorem in_rch (l : List (Int × Int × Int × Int)) (x : Int × Int × Int × Int) : inQ (rchQ l x) x.1 x.2.1 = true := by
  unfold rchQ
  by_cases e : inQ l x.1 x.2.1 = true
  · rw [if_pos e]; exact e
  · rw [if_neg e]
    exact inQ_t.mpr ⟨x, List.mem_append.mpr (Or.inr (List.mem_singleton.mpr rfl)), rfl, rfl⟩
theorem pf_mem {a b : List (Int × Int × Int × Int)} (h : a <+: b) : ∀ x ∈ a, x ∈ b := by
  obtain ⟨y, rfl⟩ := h
  exact fun x hx => List.mem_append.mpr (Or.inl hx)
theorem in_mn {a b : List (Int × Int × Int × Int)} (h : a <+: b) {w m : Int} (e : inQ a w m = true) : inQ b w m = true := by
  obtain ⟨x, xm, x1⟩ := inQ_t.mp e
  exact inQ_t.mpr ⟨x, pf_mem h x xm, x1⟩
theorem in_pay {l : List (Int × Int × Int × Int)} {w m q : Int} (q0 : 0 ≤ q) (qw : q ≠ w) (hq : hb m q = true) : ∀ t : Nat, q < (t : Int) → inQ (payQ l w m t) q m = true
  | 0, h => by omega
  | t + 1, h => by
    by_cases e : q = (t : Int)
    · subst e
      have e1 : payQ l w m (t + 1) = rchQ (payQ l w m t) ((t : Int), m, w, (t : Int)) := if_pos ⟨qw, hq⟩
      rw [e1]
      exact in_rch _ ((t : Int), m, w, (t : Int))
    · exact in_mn (pf_payt l w m (a := t) (t + 1) (by omega)) (in_pay q0 qw hq t (by omega))
theorem pay_no {P : Int} {l : List (Int × Int × Int × Int)} {w m : Int} (h : ∀ q : Int, 0 ≤ q → q < P → hb m q = true → inQ l q m = true) : ∀ t : Nat, (t : Int) ≤ P → payQ l w m t = l
  | 0, _ => rfl
  | t + 1, ht => by
    have ih := pay_no (w := w) h t (by omega)
    unfold payQ
    by_cases c : ¬ (t : Int) = w ∧ hb m (t : Int) = true
    · rw [if_pos c, ih]
      unfold rchQ
      exact if_pos (h (t : Int) (by omega) (by omega) c.2)
    · rw [if_neg c, ih]
theorem wl_go {s d : AwM} {c : Int} (hP : 0 ≤ s 0 0 ∧ s 0 0 ≤ 10) {l : List (Int × Int × Int × Int)} (hq : QOK (s 0 0) l) {x : Int × Int × Int × Int} (xm : x ∈ l) (hl : WL l) (hk : WK (s 0 0) l) : WL (goQ l s d c x.1 x.2.1) ∧ WK (s 0 0) (goQ l s d c x.1 x.2.1) := by
  have nd := hq.1 x xm
  have nd1 := nd.1
  have m12 := ms_up nd.2.1 (show (s 0 0).toNat ≤ 12 by omega)
  have p1 := pf_pay l x.1 x.2.1 (s 0 0).toNat
  have p2 := pf_pre (payQ l x.1 x.2.1 (s 0 0).toNat) s d c x.1 x.2.1 (s 0 0).toNat
  have p3 : l <+: goQ l s d c x.1 x.2.1 := pf_tr p1 p2
  have x3 := pf_mem p3 x xm
  obtain ⟨xs, xw, xl⟩ := hl x xm
  have xw' := Way_mn (pf_mem p3) xs x xw
  by_cases A : x.2.2.1 ≠ -1 ∧ x.2.2.2 < 10
  · have no := pay_no (w := x.1) (hk x xm A.1 A.2) (s 0 0).toNat (by omega)
    have mem : ∀ z ∈ goQ l s d c x.1 x.2.1, z ∈ l ∨ ∃ k : Int, 0 ≤ k ∧ k < s 0 0 ∧ hb x.2.1 k = false ∧ z = (x.1, stb x.2.1 k, x.1, 10 + k) := fun z hz => by
      unfold goQ at hz
      rw [no] at hz
      rcases mem_pre _ hz with a | ⟨k, k0, k1, k2⟩
      · exact Or.inl a
      · exact Or.inr ⟨k, k0, by omega, k2⟩
    rw [if_pos A] at xl
    refine ⟨fun z hz => ?_, fun z hz z1 z2 => ?_⟩
    · rcases mem z hz with a | ⟨k, k0, k1, k2, rfl⟩
      · obtain ⟨ys, yw, yl⟩ := hl z a
        exact ⟨ys, Way_mn (pf_mem p3) ys z yw, yl⟩
      · have e := (put1 m12 k0 (by omega) k2).1
        refine ⟨x :: xs, ⟨show x.1 ≠ -1 by omega, x3, rfl, ?_, xw'⟩, ?_⟩
        · show x.2.1 = if 10 + k < 10 then stb x.2.1 k else clb (stb x.2.1 k) (10 + k - 10)
          rw [if_neg (by omega), show 10 + k - 10 = k by omega, clb_stb m12 k0 (by omega) k2]
        · show ((x :: xs).length : Int) ≤ 2 * (pc (stb x.2.1 k) - 1) + if x.1 ≠ -1 ∧ 10 + k < 10 then 1 else 0
          rw [if_neg (by omega), e, List.length_cons]
          omega
    · rcases mem z hz with a | ⟨k, k0, k1, k2, rfl⟩
      · exact fun q q0 q1 hq' => in_mn p3 (hk z a z1 z2 q q0 q1 hq')
      · exact absurd (show 10 + k < 10 from z2) (by omega)
  · have mem : ∀ z ∈ goQ l s d c x.1 x.2.1, z ∈ l ∨ (∃ q : Int, 0 ≤ q ∧ q < s 0 0 ∧ z = (q, x.2.1, x.1, q)) ∨ ∃ k : Int, 0 ≤ k ∧ k < s 0 0 ∧ hb x.2.1 k = false ∧ z = (x.1, stb x.2.1 k, x.1, 10 + k) := fun z hz => by
      unfold goQ at hz
      rcases mem_pre _ hz with a | ⟨k, k0, k1, k2⟩
      · rcases mem_pay _ a with b | ⟨q, q0, q1, q2⟩
        · exact Or.inl b
        · exact Or.inr (Or.inl ⟨q, q0, by omega, q2⟩)
      · exact Or.inr (Or.inr ⟨k, k0, by omega, k2⟩)
    rw [if_neg A] at xl
    refine ⟨fun z hz => ?_, fun z hz z1 z2 => ?_⟩
    · rcases mem z hz with a | ⟨q, q0, q1, rfl⟩ | ⟨k, k0, k1, k2, rfl⟩
      · obtain ⟨ys, yw, yl⟩ := hl z a
        exact ⟨ys, Way_mn (pf_mem p3) ys z yw, yl⟩
      · refine ⟨x :: xs, ⟨show x.1 ≠ -1 by omega, x3, rfl, ?_, xw'⟩, ?_⟩
        · show x.2.1 = if q < 10 then x.2.1 else _
          rw [if_pos (by omega)]
        · show ((x :: xs).length : Int) ≤ 2 * (pc x.2.1 - 1) + if x.1 ≠ -1 ∧ q < 10 then 1 else 0
          rw [if_pos (by omega), List.length_cons]
          omega
      · have e := (put1 m12 k0 (by omega) k2).1
        refine ⟨x :: xs, ⟨show x.1 ≠ -1 by omega, x3, rfl, ?_, xw'⟩, ?_⟩
        · show x.2.1 = if 10 + k < 10 then stb x.2.1 k else clb (stb x.2.1 k) (10 + k - 10)
          rw [if_neg (by omega), show 10 + k - 10 = k by omega, clb_stb m12 k0 (by omega) k2]
        · show ((x :: xs).length : Int) ≤ 2 * (pc (stb x.2.1 k) - 1) + if x.1 ≠ -1 ∧ 10 + k < 10 then 1 else 0
          rw [if_neg (by omega), e, List.length_cons]
          omega
    · rcases mem z hz with a | ⟨q, q0, q1, rfl⟩ | ⟨k, k0, k1, k2, rfl⟩
      · exact fun q q0 q1 hq' => in_mn p3 (hk z a z1 z2 q q0 q1 hq')
      · intro q' r0 r1 hr
        change hb x.2.1 q' = true at hr
        show inQ _ q' x.2.1 = true
        by_cases e : q' = x.1
        · exact inQ_t.mpr ⟨x, x3, e.symm, rfl⟩
        · exact in_mn p2 (in_pay r0 e hr _ (by omega))
      · exact absurd (show 10 + k < 10 from z2) (by omega)
theorem rnQ_w {s d : AwM} (ho : SoOK s) (hl : LdOK s d) {c : Int} (c0 : 0 ≤ c) (c1 : c < s 0 1) : ∀ j : Nat, WL (rnQ s d c j) ∧ WK (s 0 0) (rnQ s d c j)
  | 0 => by
    have hP := ho.p
    have e0 : rnQ s d c 0 = [stQ d c] := rfl
    rw [e0]
    have nd := st_nd hl c0 c1
    have m12 := ms_up nd.2.1 (show (s 0 0).toNat ≤ 12 by omega)
    have hh := hl.ho c c0 c1
    have one := pc_1 m12 hh.1 (by omega) (hl.kh c c0 c1)
    refine ⟨fun x hx => ⟨[], ?_, ?_⟩, fun x hx x1 _ => ?_⟩
    · rw [List.mem_singleton.mp hx]; rfl
    · rw [List.mem_singleton.mp hx, if_neg (fun z => z.1 rfl)]
      show (0 : Int) ≤ _
      omega
    · rw [List.mem_singleton.mp hx] at x1
      exact absurd rfl x1
  | j + 1 => by
    obtain ⟨a, b⟩ := rnQ_w ho hl c0 c1 j
    cases e : (rnQ s d c j)[j]? with
    | none =>
      have : rnQ s d c (j + 1) = rnQ s d c j := by
        show (match (rnQ s d c j)[j]? with
          | none => rnQ s d c j
          | some x => goQ (rnQ s d c j) s d c x.1 x.2.1) = _
        rw [e]
      rw [this]
      exact ⟨a, b⟩
    | some x =>
      rw [rnQ_s e]
      exact wl_go ho.p (rnQ_ok ho hl c0 c1 j).1 (List.mem_of_getElem? e) a b
/-- the way of the node that is found -/
theorem fd_way {s d : AwM} (ho : SoOK s) (hl : LdOK s d) {c p : Int} (c0 : 0 ≤ c) (c1 : c < s 0 1) (p0 : 0 ≤ p) (p1 : p < s 0 0) {j : Nat} {y : Int × Int × Int × Int} (h : FD s d c p j y) : ∃ ys, Way (rnQ s d c j) ys (p, y.2.1, y.1, p) ∧ ys.length ≤ 20 := by
  have hP := ho.p
  obtain ⟨hy, hh, pc'⟩ := h
  have ym := List.mem_of_getElem? hy
  obtain ⟨ys, yw, yl⟩ := (rnQ_w ho hl c0 c1 j).1 y ym
  have nd := (rnQ_ok ho hl c0 c1 j).1.1 y ym
  have nd1 := nd.1
  have p10 := pc10 (ms_up nd.2.1 (show (s 0 0).toNat ≤ 10 by omega))
  refine ⟨y :: ys, ⟨show y.1 ≠ -1 by omega, ym, rfl, ?_, yw⟩, ?_⟩
  · show y.2.1 = if p < 10 then y.2.1 else _
    rw [if_pos (by omega)]
  · rw [List.length_cons]
    by_cases A : y.2.2.1 ≠ -1 ∧ y.2.2.2 < 10
    · rw [if_pos A] at yl; omega
    · rw [if_neg A] at yl; omega
/-- the t-th node of a way, the found one first -/
def wat : List (Int × Int × Int × Int) → (Int × Int × Int × Int) → Nat → Int × Int × Int × Int
  | _, x, 0 => x
  | [], x, _ + 1 => x
  | y :: ys, _, t + 1 => wat ys y t
theorem wat_0 (l : List (Int × Int × Int × Int)) (x : Int × Int × Int × Int) : wat l x 0 = x := by cases l <;> rfl
theorem wat_m {l : List (Int × Int × Int × Int)} : ∀ (ys : List (Int × Int × Int × Int)) (x : Int × Int × Int × Int) (t : Nat), x ∈ l → Way l ys x → wat ys x t ∈ l ∧ (t < ys.length → (wat ys x t).2.2.1 ≠ -1)
  | ys, x, 0, xm, h => by
    rw [wat_0]
    refine ⟨xm, fun ht => ?_⟩
    cases ys with
    | nil => exact absurd ht (by simp)
    | cons y ys => exact h.1
  | [], x, t + 1, xm, h => ⟨xm, fun ht => absurd ht (by simp)⟩
  | y :: ys, x, t + 1, xm, h => by
    obtain ⟨a, b⟩ := wat_m ys y t h.2.1 h.2.2.2.2
    exact ⟨a, fun ht => b (by rw [List.length_cons] at ht; omega)⟩
end PWAY
