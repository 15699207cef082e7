/-! the search's queue: what is put in, for the class -/
section PQUE
/-- a state: holder, who know, from whom, by what act; the first: from -1 -/
def NdOK (P : Int) (x : Int × Int × Int × Int) : Prop := (0 ≤ x.1 ∧ x.1 < P) ∧ ms P.toNat x.2.1 ∧ ((x.2.2.1 = -1) ∨ ((0 ≤ x.2.2.1 ∧ x.2.2.1 < P) ∧ 0 ≤ x.2.2.2 ∧ x.2.2.2 < 20))
def hmC (x : Int × Int × Int × Int) : Int := if x.2.2.1 = -1 then -1 else 1 + x.2.2.2 + 20 * x.2.2.1
def inQ (l : List (Int × Int × Int × Int)) (w m : Int) : Bool := l.any (fun x => decide (x.1 = w) && decide (x.2.1 = m))
def rchQ (l : List (Int × Int × Int × Int)) (x : Int × Int × Int × Int) : List (Int × Int × Int × Int) := if inQ l x.1 x.2.1 = true then l else l ++ [x]
def cdM (w m : Int) : Int := 1024 * w + m
def inC (l : List (Int × Int × Int × Int)) (i : Int) : Bool := l.any (fun x => decide (cdM x.1 x.2.1 = i))
def QOK (P : Int) (l : List (Int × Int × Int × Int)) : Prop := (∀ x ∈ l, NdOK P x) ∧ accS (fun i => bi (inC l i)) 10240 = (l.length : Int)
theorem QOK_0 (P : Int) : QOK P [] := by
  refine ⟨fun x hx => absurd hx (List.not_mem_nil), ?_⟩
  have : ∀ n : Nat, accS (fun i => bi (inC [] i)) n = 0 := fun n => by
    induction n with
    | zero => rfl
    | succ n ih => show accS _ n + _ = 0; rw [ih]; rfl
  rw [this]
  rfl
theorem inQ_t {l : List (Int × Int × Int × Int)} {w m : Int} : inQ l w m = true ↔ ∃ x ∈ l, x.1 = w ∧ x.2.1 = m := by
  unfold inQ
  rw [List.any_eq_true]
  constructor
  · rintro ⟨x, a, b⟩
    rw [Bool.and_eq_true, decide_eq_true_iff, decide_eq_true_iff] at b
    exact ⟨x, a, b⟩
  · rintro ⟨x, a, b, c⟩
    exact ⟨x, a, by rw [Bool.and_eq_true, decide_eq_true_iff, decide_eq_true_iff]; exact ⟨b, c⟩⟩
theorem nd_b {P : Int} (hP : 0 ≤ P ∧ P ≤ 10) {x : Int × Int × Int × Int} (h : NdOK P x) : 0 ≤ cdM x.1 x.2.1 ∧ cdM x.1 x.2.1 < 10240 ∧ (0 ≤ x.2.1 ∧ x.2.1 < 1024) := by
  have m := ms_up h.2.1 (show P.toNat ≤ 10 by omega)
  obtain ⟨a, e, ha⟩ := ms_n.mp m
  have := h.1
  unfold cdM
  omega
theorem cdM_i {P : Int} (hP : 0 ≤ P ∧ P ≤ 10) {x y : Int × Int × Int × Int} (h : NdOK P x) (h' : NdOK P y) : cdM x.1 x.2.1 = cdM y.1 y.2.1 ↔ x.1 = y.1 ∧ x.2.1 = y.2.1 := by
  have a := nd_b hP h
  have b := nd_b hP h'
  unfold cdM at *
  omega
theorem inC_q {P : Int} (hP : 0 ≤ P ∧ P ≤ 10) {l : List (Int × Int × Int × Int)} (h : ∀ x ∈ l, NdOK P x) {x : Int × Int × Int × Int} (hx : NdOK P x) : inC l (cdM x.1 x.2.1) = inQ l x.1 x.2.1 := by
  rw [Bool.eq_iff_iff, inQ_t]
  unfold inC
  rw [List.any_eq_true]
  constructor
  · rintro ⟨y, a, b⟩
    exact ⟨y, a, (cdM_i hP (h y a) hx).mp (of_decide_eq_true b)⟩
  · rintro ⟨y, a, b⟩
    exact ⟨y, a, decide_eq_true ((cdM_i hP (h y a) hx).mpr b)⟩
theorem accS_up {f g : Int → Int} {k : Int} (k0 : 0 ≤ k) (hk : g k = f k + 1) (ho : ∀ i : Int, i ≠ k → g i = f i) : ∀ n : Nat, accS g n = accS f n + (if k < n then 1 else 0)
  | 0 => by rw [if_neg (by omega)]; rfl
  | n + 1 => by
    have ih := accS_up k0 hk ho n
    show accS g n + g (n : Int) = accS f n + f (n : Int) + _
    by_cases e : (n : Int) = k
    · rw [ih, e, hk, if_neg (by omega), if_pos (by omega)]; omega
    · rw [ih, ho _ e]
      by_cases c : k < (n : Int)
      · rw [if_pos c, if_pos (by omega)]; omega
      · rw [if_neg c, if_neg (by omega)]; omega
theorem QOK_rch {P : Int} (hP : 0 ≤ P ∧ P ≤ 10) {l : List (Int × Int × Int × Int)} (h : QOK P l) {x : Int × Int × Int × Int} (hx : NdOK P x) : QOK P (rchQ l x) ∧ (inQ l x.1 x.2.1 = false → l.length < 10240) := by
  have b := nd_b hP hx
  have step : inQ l x.1 x.2.1 = false → accS (fun i => bi (inC (l ++ [x]) i)) 10240 = (l.length : Int) + 1 := fun e => by
    have u := accS_up (f := fun i => bi (inC l i)) (g := fun i => bi (inC (l ++ [x]) i)) (k := cdM x.1 x.2.1) b.1 (by
      show bi (inC (l ++ [x]) _) = bi (inC l _) + 1
      rw [inC_q hP h.1 hx, e]
      have : inC (l ++ [x]) (cdM x.1 x.2.1) = true := by
        unfold inC
        rw [List.any_append, Bool.or_eq_true]
        exact Or.inr (by simp)
      rw [this]
      rfl) (fun i hi => by
      show bi (inC (l ++ [x]) _) = bi (inC l _)
      unfold inC
      rw [List.any_append]
      have : [x].any (fun y => decide (cdM y.1 y.2.1 = i)) = false := by simp; exact fun z => hi z.symm
      rw [this, Bool.or_false]) 10240
    rw [if_pos (show cdM x.1 x.2.1 < ((10240 : Nat) : Int) from b.2.1), h.2] at u
    exact u
  unfold rchQ
  by_cases e : inQ l x.1 x.2.1 = true
  · rw [if_pos e]
    exact ⟨h, fun z => by rw [e] at z; exact absurd z (by decide)⟩
  · have e' : inQ l x.1 x.2.1 = false := by cases q : inQ l x.1 x.2.1; rfl; exact absurd q e
    rw [if_neg e]
    refine ⟨⟨fun y hy => ?_, ?_⟩, fun _ => ?_⟩
    · rcases List.mem_append.mp hy with a | a
      · exact h.1 y a
      · rw [List.mem_singleton.mp a]; exact hx
    · rw [step e', List.length_append]
      simp
    · have := accS_b (f := fun i => bi (inC (l ++ [x]) i)) (lo := 0) (hi := 1) 10240 (fun c _ _ => by
        show 0 ≤ bi _ ∧ bi _ ≤ 1
        cases inC (l ++ [x]) c <;> decide)
      have := step e'
      omega
/-- the class's number of a state -/
def cdC (P w m : Int) : Int := ((w.toNat * 2 ^ P.toNat + m.toNat : Nat) : Int)
theorem cdC_n {P w m : Int} (hP : 0 ≤ P ∧ P ≤ 10) (w0 : 0 ≤ w) (w1 : w < P) (hm : ms P.toNat m) : or_ (sl_ w P) m = cdC P w m ∧ 0 ≤ cdC P w m ∧ cdC P w m < 10240 := by
  obtain ⟨a, rfl, ha⟩ := ms_n.mp hm
  obtain ⟨v, rfl⟩ := Int.eq_ofNat_of_zero_le w0
  obtain ⟨k, rfl⟩ := Int.eq_ofNat_of_zero_le hP.1
  rw [Int.toNat_natCast] at ha
  have h10 : 2 ^ k ≤ 2 ^ 10 := Nat.pow_le_pow_right (by decide) (by omega)
  have hv : v * 2 ^ k ≤ 9 * 2 ^ 10 := Nat.mul_le_mul (by omega) h10
  unfold cdC
  rw [Int.toNat_natCast, Int.toNat_natCast, Int.toNat_natCast]
  refine ⟨?_, by omega, by omega⟩
  rw [sl_n (by omega) (by omega), or_n (by omega) (by omega), Nat.mul_comm, ← Nat.two_pow_add_eq_or_of_lt ha]
theorem cdC_i {P w m w' m' : Int} (w0 : 0 ≤ w) (w0' : 0 ≤ w') (hm : ms P.toNat m) (hm' : ms P.toNat m') (h : cdC P w m = cdC P w' m') : w = w' ∧ m = m' := by
  obtain ⟨a, rfl, ha⟩ := ms_n.mp hm
  obtain ⟨b, rfl, hb'⟩ := ms_n.mp hm'
  unfold cdC at h
  rw [Int.toNat_natCast, Int.toNat_natCast] at h
  have h' : w.toNat * 2 ^ P.toNat + a = w'.toNat * 2 ^ P.toNat + b := by omega
  have p := Nat.two_pow_pos P.toNat
  have q1 : (w.toNat * 2 ^ P.toNat + a) / 2 ^ P.toNat = w.toNat := by rw [Nat.mul_comm, Nat.mul_add_div p, Nat.div_eq_of_lt ha]; omega
  have q2 : (w'.toNat * 2 ^ P.toNat + b) / 2 ^ P.toNat = w'.toNat := by rw [Nat.mul_comm, Nat.mul_add_div p, Nat.div_eq_of_lt hb']; omega
  have r1 : (w.toNat * 2 ^ P.toNat + a) % 2 ^ P.toNat = a := by rw [Nat.mul_comm, Nat.mul_add_mod, Nat.mod_eq_of_lt ha]
  have r2 : (w'.toNat * 2 ^ P.toNat + b) % 2 ^ P.toNat = b := by rw [Nat.mul_comm, Nat.mul_add_mod, Nat.mod_eq_of_lt hb']
  rw [h', q2] at q1
  rw [h', r2] at r1
  exact ⟨by omega, by omega⟩
def CQ (M : AwM) (P : Int) (l : List (Int × Int × Int × Int)) : Prop :=
  M 128 5 = P ∧ M 128 2 = (l.length : Int) ∧ (∀ (k : Nat) x, l[k]? = some x → M 130 (k : Int) = cdC P x.1 x.2.1) ∧ (∀ x ∈ l, M 129 (cdC P x.1 x.2.1) = hmC x) ∧ (∀ w m : Int, 0 ≤ w → w < P → ms P.toNat m → inQ l w m = false → M 129 (cdC P w m) = 0)
/-- what the search writes -/
def wfr (M' M : AwM) : Prop := ∀ a i : Int, ¬ (129 ≤ a ∧ a ≤ 130) → ¬ (a = 128 ∧ i = 2) → M' a i = M a i
theorem up_nn {M : AwM} {a i v a' i' : Int} (h : ¬ (a' = a ∧ i' = i)) : up_ M a i v a' i' = M a' i' := if_neg h
theorem wfr_rf {M : AwM} : wfr M M := fun _ _ _ _ => rfl
theorem wfr_tr {M M1 M2 : AwM} (h : wfr M1 M) (h' : wfr M2 M1) : wfr M2 M := fun a i p q => (h' a i p q).trans (h a i p q)
theorem stOf_n {M : AwM} {P w m : Int} (h5 : M 128 5 = P) (hP : 0 ≤ P ∧ P ≤ 10) (w0 : 0 ≤ w) (w1 : w < P) (hm : ms P.toNat m) : fX7_stateOf SH M 128 w m = some (cdC P w m) := by
  unfold fX7_stateOf
  rw [kd128, gd_t rfl, h5, (cdC_n hP w0 w1 hm).1]
theorem reach_n {M : AwM} {P : Int} {l : List (Int × Int × Int × Int)} (hl : LAY M) (hP : 0 ≤ P ∧ P ≤ 10) (hq : QOK P l) (h : CQ M P l) {x : Int × Int × Int × Int} (hx : NdOK P x) : ∃ M', fX7_reach SH M 128 x.1 x.2.1 (hmC x) = some M' ∧ CQ M' P (rchQ l x) ∧ wfr M' M := by
  obtain ⟨h5, h2, hk, hi, hz'⟩ := h
  have ⟨c1, c2, c3⟩ := cdC_n hP hx.1.1 hx.1.2 hx.2.1
  have hh : ∀ y, NdOK P y → hmC y ≠ 0 := fun y hy => by
    unfold hmC
    rcases hy.2.2 with e | e
    · rw [if_pos e]; decide
    · rw [if_neg (by omega)]; omega
  unfold fX7_reach
  rw [kd128, gd_t rfl, stOf_n h5 hP hx.1.1 hx.1.2 hx.2.1, pb_1, u1_1, if_neg (by omega), if_pos c3, ly128_0 hl, kd129, ga_t c2 c3]
  unfold rchQ
  by_cases e : inQ l x.1 x.2.1 = true
  · obtain ⟨y, ym, y1, y2⟩ := inQ_t.mp e
    have := hi y ym
    rw [y1, y2] at this
    rw [if_neg (by rw [this]; exact hh y (hq.1 y ym)), if_pos e]
    exact ⟨M, rfl, ⟨h5, h2, hk, hi, hz'⟩, wfr_rf⟩
  · have e' : inQ l x.1 x.2.1 = false := by cases q : inQ l x.1 x.2.1; rfl; exact absurd q e
    have len := (QOK_rch hP hq hx).2 e'
    rw [if_pos (hz' _ _ hx.1.1 hx.1.2 hx.2.1 e'), h2, if_pos (by omega), bd_1]
    rw [up_of (show (128 : Int) ≠ 129 by decide), up_of (show (128 : Int) ≠ 129 by decide), ly128_1 hl, kd130, h2, ga_t (by omega) (by omega), bd_1, up_of (show (128 : Int) ≠ 130 by decide), up_of (show (128 : Int) ≠ 129 by decide), h2, w32_s (v := (l.length : Int) + 1) (by omega) (by omega), bd_1, if_neg e]
    refine ⟨_, rfl, ⟨?_, ?_, fun k y hy => ?_, fun y hy => ?_, fun w m w0 w1 hm hn => ?_⟩, fun a i p q => ?_⟩
    · rw [up_oi (by decide), up_of (by decide), up_of (by decide)]; exact h5
    · rw [up_at, List.length_append]; simp
    · rw [up_of (by decide)]
      by_cases ek : k = l.length
      · subst ek
        rw [up_at]
        rw [List.getElem?_append_right (Nat.le_refl _)] at hy
        simp at hy
        rw [← hy]
      · have kl : k < l.length := by
          have := (List.getElem?_eq_some_iff.mp hy).1
          rw [List.length_append] at this
          simp at this
          omega
        rw [up_oi (by omega), up_of (by decide)]
        rw [List.getElem?_append_left kl] at hy
        exact hk k y hy
    · rw [up_of (by decide), up_of (by decide)]
      rcases List.mem_append.mp hy with a | a
      · have ya := hq.1 y a
        rw [up_oi (fun z => e (inQ_t.mpr ⟨y, a, cdC_i ya.1.1 hx.1.1 ya.2.1 hx.2.1 z⟩))]
        exact hi y a
      · rw [List.mem_singleton.mp a, up_at]
    · have hn' : inQ l w m = false ∧ ¬ (x.1 = w ∧ x.2.1 = m) := by
        unfold inQ at hn ⊢
        rw [List.any_append, Bool.or_eq_false_iff] at hn
        refine ⟨hn.1, fun z => ?_⟩
        have := hn.2
        simp [z.1, z.2] at this
      rw [up_of (by decide), up_of (by decide), up_oi (fun z => hn'.2 (by
        have := cdC_i w0 hx.1.1 hm hx.2.1 z
        exact ⟨this.1.symm, this.2.symm⟩))]
      exact hz' w m w0 w1 hm hn'.1
    · rw [up_nn (fun z => q z), up_of (by omega), up_of (by omega)]
end PQUE
