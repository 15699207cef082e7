/-! a part, a product, a sum: what the model does over the same tokens -/
section PKSP
section
variable (T : Int → Int) (L K : Nat)
def KSok (rr : Int) (lev i o j : Nat) (c : List Int) : Prop := ∀ (b : Int) (cf : Nat) (M : AwM) (k ph pr : Int) (bg : Bool) (ops0 : List Int) (r : List Fr) (C : List Int), MK T L K b cf M i ((k, ph, bg, pr, ops0) :: r) o C false → ph < 2 → ((isT k && bg) = true → plain (tks T L i) = true) → (∀ x ∈ ops0.head?, rk x < rr) → ops0.length + tot r ≤ 6 * o + lev → ∃ (M' : AwM) (X C1 : List Int), RUN (j - i) M M' ∧ MK T L K b cf M' j ((k, ph, false, pr, X ++ ops0) :: r) o C1 true ∧ mpf b cf M' M ∧ (∀ x ∈ X, rr ≤ rk x ∧ x ≠ 22) ∧ C1 ++ X.map cel = C ++ c
def KSbad (rr : Int) (lev i o : Nat) (kd : Int) (p : Nat) : Prop := ∀ (b : Int) (cf : Nat) (M : AwM) (k ph pr : Int) (bg : Bool) (ops0 : List Int) (r : List Fr) (C : List Int), MK T L K b cf M i ((k, ph, bg, pr, ops0) :: r) o C false → ph < 2 → ((isT k && bg) = true → plain (tks T L i) = true) → (∀ x ∈ ops0.head?, rk x < rr) → ops0.length + tot r ≤ 6 * o + lev → ∃ M' : AwM, FIN (K - i + 2) M M' ∧ BAD b cf M' M kd p
/-- a method of the class that reads such a piece -/
def FSp (g : AwM → Option (Int × AwM)) (rr : Int) (lev o need : Nat) (tl : Tk → Prop) : Prop := ∀ (M : AwM) (fo : Int) (i : Nat) (C : List Int), CFo T L K M fo i o C → C.length + 1 ≤ i →
  (∃ M' j c, g M = some (1, M') ∧ CFo T L K M' fo j o (C ++ c) ∧ ffr fo M' M ∧ (i + c.length ≤ j ∧ i < j) ∧ Ty c false need ∧ KSok T L K rr lev i o j c ∧ tl (tks T L j)) ∨
  (∃ M' k p, g M = some (0, M') ∧ CBAD fo M' M k p ∧ 0 < k ∧ KSbad T L K rr lev i o k p)
end
variable {T : Int → Int} {L K : Nat}
theorem rk_b (x : Int) : 1 ≤ rk x ∧ rk x ≤ 6 := by
  unfold rk
  repeat' split
  all_goals decide
theorem nots_0 : ∀ {X : List Int}, (∀ x ∈ X, x ≠ 22) → nots X = 0
  | [], _ => rfl
  | x :: X, h => by
    show (if x = 22 then 1 else 0) + nots X = 0
    rw [if_neg (h x (List.mem_cons_self)), nots_0 (fun y hy => h y (List.mem_cons_of_mem _ hy))]
theorem nil_7 {X : List Int} (h : ∀ x ∈ X, 7 ≤ rk x ∧ x ≠ 22) : X = [] := by
  cases X with
  | nil => rfl
  | cons x X => have := (h x (List.mem_cons_self)).1; have := (rk_b x).2; omega
theorem opA_22 (x : Tk) : opA x ≠ 22 := by
  unfold opA
  repeat' split
  all_goals decide
/-- two pieces joined by a deed -/
theorem kbin_0 {rr : Int} {lev i o j : Nat} {c : List Int} (h1 : KSok T L K rr lev i o j c) (ha : ar (tks T L j) = true) (hr : leA (tks T L j) = rr) (hl : lev ≤ 4) (ho : o ≤ 7) {b : Int} {cf : Nat} {M : AwM} {k ph pr : Int} {bg : Bool} {ops0 : List Int} {r : List Fr} {C : List Int} (h : MK T L K b cf M i ((k, ph, bg, pr, ops0) :: r) o C false) (hp : ph < 2) (hpl : (isT k && bg) = true → plain (tks T L i) = true) (h0 : ∀ x ∈ ops0.head?, rk x < rr) (hb' : ops0.length + tot r ≤ 6 * o + lev) : ∃ M', RUN (j - i + 1) M M' ∧ MK T L K b cf M' (j + 1) ((k, ph, false, pr, opA (tks T L j) :: ops0) :: r) o (C ++ c) false ∧ mpf b cf M' M ∧ j < K := by
  obtain ⟨M1, X, C1, r1, m1, f1, x1, e1⟩ := h1 b cf M k ph pr bg ops0 r C h hp hpl h0 hb'
  have n0 := nots_0 (fun x hx => (x1 x hx).2)
  have c4 := h.2.2.2.2.2.2
  have jk := m1.lt (by have := ar_k ha; omega)
  obtain ⟨M2, r2, m2, f2⟩ := mgo_ar (bg := false) (X := X) (ops0 := ops0) (o := o) (by rw [n0]; exact m1) hp ha (by rw [hr]; exact h0) (fun x hx => by rw [hr]; exact (x1 x hx).1) (by omega) (by rw [List.length_cons] at c4 ⊢; exact c4)
  rw [e1] at m2
  exact ⟨M2, RUN_tr r1 r2, m2, mpf_tr f1 f2, jk⟩
theorem kbin {rr : Int} {lev i o j j2 : Nat} {c c2 : List Int} (h1 : KSok T L K rr lev i o j c) (ha : ar (tks T L j) = true) (hr : leA (tks T L j) = rr ∧ rk (opA (tks T L j)) = rr) (h2 : KSok T L K (rr + 1) (lev + 1) (j + 1) o j2 c2) (hij : i ≤ j ∧ j + 1 ≤ j2) (hl : lev ≤ 4) (ho : o ≤ 7) : KSok T L K rr lev i o j2 (c ++ c2 ++ [cel (opA (tks T L j))]) := by
  intro b cf M k ph pr bg ops0 r C h hp hpl h0 hb'
  obtain ⟨M2, r2, m2, f2, jk⟩ := kbin_0 h1 ha hr.1 hl ho h hp hpl h0 hb'
  obtain ⟨M3, X3, C3, r3, m3, f3, x3, e3⟩ := h2 b cf M2 k ph pr false (opA (tks T L j) :: ops0) r (C ++ c) m2 hp (fun q => by rw [Bool.and_false] at q; exact absurd q (by decide)) (fun x hx => by
    have : opA (tks T L j) = x := by simpa using hx
    rw [← this, hr.2]; omega) (by rw [List.length_cons]; omega)
  refine ⟨M3, X3 ++ [opA (tks T L j)], C3, RUN_le (RUN_tr r2 r3) (by omega), ?_, mpf_tr f2 f3, fun x hx => ?_, ?_⟩
  · rw [List.append_assoc]; exact m3
  · rcases List.mem_append.mp hx with q | q
    · have := x3 x q; exact ⟨by omega, this.2⟩
    · rw [List.mem_singleton.mp q, hr.2]; exact ⟨Int.le_refl _, opA_22 _⟩
  · rw [List.map_append, ← List.append_assoc, e3, ← List.append_assoc, ← List.append_assoc]; rfl
theorem kbin_b {rr : Int} {lev i o j : Nat} {c : List Int} {kd : Int} {p : Nat} (h1 : KSok T L K rr lev i o j c) (ha : ar (tks T L j) = true) (hr : leA (tks T L j) = rr ∧ rk (opA (tks T L j)) = rr) (h2 : KSbad T L K (rr + 1) (lev + 1) (j + 1) o kd p) (hij : i ≤ j) (hl : lev ≤ 4) (ho : o ≤ 7) : KSbad T L K rr lev i o kd p := by
  intro b cf M k ph pr bg ops0 r C h hp hpl h0 hb'
  obtain ⟨M2, r2, m2, f2, jk⟩ := kbin_0 h1 ha hr.1 hl ho h hp hpl h0 hb'
  obtain ⟨M3, r3, b1, b2, b3⟩ := h2 b cf M2 k ph pr false (opA (tks T L j) :: ops0) r (C ++ c) m2 hp (fun q => by rw [Bool.and_false] at q; exact absurd q (by decide)) (fun x hx => by
    have : opA (tks T L j) = x := by simpa using hx
    rw [← this, hr.2]; omega) (by rw [List.length_cons]; omega)
  exact ⟨M3, FIN_le (RUN_fin r2 r3) (by omega), b1, b2, mpf_tr f2 b3⟩
/-- a weaker bound on what it may stand on -/
theorem KSok_up {rr rr' : Int} {lev lev' i o j : Nat} {c : List Int} (h : KSok T L K rr lev i o j c) (hr : rr' ≤ rr) (hl : lev' ≤ lev) : KSok T L K rr' lev' i o j c := by
  intro b cf M k ph pr bg ops0 r C hm hp hpl h0 hb'
  obtain ⟨M1, X, C1, r1, m1, f1, x1, e1⟩ := h b cf M k ph pr bg ops0 r C hm hp hpl (fun x hx => by have := h0 x hx; omega) (by omega)
  exact ⟨M1, X, C1, r1, m1, f1, fun x hx => ⟨by have := (x1 x hx).1; omega, (x1 x hx).2⟩, e1⟩
theorem KSbad_up {rr rr' : Int} {lev lev' i o : Nat} {kd : Int} {p : Nat} (h : KSbad T L K rr lev i o kd p) (hr : rr' ≤ rr) (hl : lev' ≤ lev) : KSbad T L K rr' lev' i o kd p := by
  intro b cf M k ph pr bg ops0 r C hm hp hpl h0 hb'
  exact h b cf M k ph pr bg ops0 r C hm hp hpl (fun x hx => by have := h0 x hx; omega) (by omega)
/-- a number or a fact -/
theorem ks_cell {i o : Nat} {s v c : Int} (hw : pcell (tks T L i) = some (s, v, c)) {rr : Int} {lev : Nat} : KSok T L K rr lev i o (i + 1) [c] := by
  intro b cf M k ph pr bg ops0 r C h hp hpl h0 hb'
  obtain ⟨M', r1, m1, f1⟩ := mopd_cell h hw
  exact ⟨M', [], C ++ [c], RUN_le r1 (by omega), m1, f1, fun x hx => absurd hx (List.not_mem_nil), by rw [List.map_nil, List.append_nil]⟩
/-- ( sum ) -/
theorem ks_par {i o j : Nat} {c : List Int} (hw : sg (tks T L i) 40 = true) (ho : o < 7) (h1 : KSok T L K 5 3 (i + 1) (o + 1) j c) (ha : ar (tks T L j) = false) (hc : sg (tks T L j) 41 = true) (hij : i + 1 ≤ j) {rr : Int} {lev : Nat} (hl : lev ≤ 5) : KSok T L K rr lev i o (j + 1) c := by
  intro b cf M k ph pr bg ops0 r C h hp hpl h0 hb'
  obtain ⟨M1, r1, m1, f1⟩ := mopd_par h hw ho
  obtain ⟨M2, X, C2, r2, m2, f2, x2, e2⟩ := h1 b cf M1 2 0 0 true [] _ C m1 (by decide) (fun q => absurd q (by decide)) (fun x hx => by simp at hx) (by
    show 0 + (ops0.length + tot r) ≤ _
    omega)
  have n0 := nots_0 (fun x hx => (x2 x hx).2)
  rw [List.append_nil] at m2
  obtain ⟨M3, r3, m3, f3⟩ := mgo_cls (bg2 := false) (o := o) (by rw [n0]; exact m2) (Or.inl rfl) (fun _ => ha) (fun q => absurd q (by decide)) hc (fun x _ => (rk_b x).1) (fun q => absurd q (by decide)) (by have c4 := h.2.2.2.2.2.2; rw [List.length_cons] at c4 ⊢; exact c4)
  rw [if_neg (show ¬ (2 : Int) = 5 by decide), if_neg (show ¬ (2 : Int) = 4 by decide), List.append_nil, e2] at m3
  exact ⟨M3, [], C ++ c, RUN_le (RUN_tr (RUN_tr r1 r2) r3) (by omega), m3, mpf_tr f1 (mpf_tr f2 f3), fun x hx => absurd hx (List.not_mem_nil), by rw [List.map_nil, List.append_nil]⟩
theorem ks_parb {i o : Nat} {kd : Int} {p : Nat} (hw : sg (tks T L i) 40 = true) (hb2 : (o = 7 ∧ kd = 5 ∧ p = (tks T L i).2.2.1) ∨ (o < 7 ∧ (KSbad T L K 5 3 (i + 1) (o + 1) kd p ∨ ∃ j c, KSok T L K 5 3 (i + 1) (o + 1) j c ∧ ar (tks T L j) = false ∧ sg (tks T L j) 41 = false ∧ i + 1 ≤ j ∧ kd = 1 ∧ p = (tks T L j).2.2.2.1))) {rr : Int} {lev : Nat} (hl : lev ≤ 5) : KSbad T L K rr lev i o kd p := by
  intro b cf M k ph pr bg ops0 r C h hp hpl h0 hb'
  rcases hb2 with ⟨rfl, rfl, rfl⟩ | ⟨ho, hb3⟩
  · obtain ⟨M', r1, b1⟩ := mopd_par7 h hw
    exact ⟨M', FIN_le r1 (by omega), b1⟩
  · obtain ⟨M1, r1, m1, f1⟩ := mopd_par h hw ho
    have i1K := m1.2.2.2.1
    have bd : ([] : List Int).length + tot ((k, ph, false, pr, ops0) :: r) ≤ 6 * (o + 1) + 3 := by
      show 0 + (ops0.length + tot r) ≤ _
      omega
    rcases hb3 with hb3 | ⟨j, c, h1, ha, hc, hij, rfl, rfl⟩
    · obtain ⟨M2, r2, b1, b2, b3⟩ := hb3 b cf M1 2 0 0 true [] _ C m1 (by decide) (fun q => absurd q (by decide)) (fun x hx => by simp at hx) bd
      exact ⟨M2, FIN_le (RUN_fin r1 r2) (by omega), b1, b2, mpf_tr f1 b3⟩
    · obtain ⟨M2, X, C2, r2, m2, f2, x2, e2⟩ := h1 b cf M1 2 0 0 true [] _ C m1 (by decide) (fun q => absurd q (by decide)) (fun x hx => by simp at hx) bd
      have jK := m2.2.2.2.1
      obtain ⟨M3, r3, b1, b2, b3⟩ := mgo_nocls m2 (Or.inl rfl) (fun q => by rw [ha] at q; exact absurd q.2 (by decide)) (fun q => absurd q (by decide)) hc
      exact ⟨M3, FIN_le (RUN_fin (RUN_tr r1 r2) r3) (by omega), b1, b2, mpf_tr f1 (mpf_tr f2 b3)⟩
/-- min ( sum , sum ) -/
theorem ks_mm {i o j j2 : Nat} {c c2 : List Int} (hw : ow (tks T L i) 21 = true ∨ ow (tks T L i) 22 = true) (hy : sg (tks T L (i + 1)) 40 = true) (ho : o < 7) (h1 : KSok T L K 5 3 (i + 2) (o + 1) j c) (ha : ar (tks T L j) = false) (hc : sg (tks T L j) 44 = true) (h2 : KSok T L K 5 3 (j + 1) (o + 1) j2 c2) (ha2 : ar (tks T L j2) = false) (hc2 : sg (tks T L j2) 41 = true) (hij : i + 2 ≤ j ∧ j + 1 ≤ j2) {rr : Int} {lev : Nat} (hl : lev ≤ 5) : KSok T L K rr lev i o (j2 + 1) (c ++ c2 ++ [if ow (tks T L i) 21 = true then -10 else -11]) := by
  intro b cf M k ph pr bg ops0 r C h hp hpl h0 hb'
  obtain ⟨M1, r1, m1, f1⟩ := mopd_mm h hw hy ho
  have bd : ([] : List Int).length + tot ((k, ph, false, pr, ops0) :: r) ≤ 6 * (o + 1) + 3 := by
    show 0 + (ops0.length + tot r) ≤ _
    omega
  have cw : cel (if ow (tks T L i) 21 = true then 15 else 16) = if ow (tks T L i) 21 = true then -10 else -11 := by split <;> rfl
  have w15 : 10 ≤ (if ow (tks T L i) 21 = true then (15 : Int) else 16) ∧ (if ow (tks T L i) 21 = true then (15 : Int) else 16) ≤ 22 := by split <;> decide
  generalize (if ow (tks T L i) 21 = true then (15 : Int) else 16) = w at *
  obtain ⟨M2, X, C2, r2, m2, f2, x2, e2⟩ := h1 b cf M1 3 0 w true [] _ C m1 (by decide) (fun q => absurd q (by decide)) (fun x hx => by simp at hx) bd
  have n0 := nots_0 (fun x hx => (x2 x hx).2)
  rw [List.append_nil] at m2
  obtain ⟨M3, r3, m3, f3⟩ := mgo_com (o := o + 1) (by rw [n0]; exact m2) hc (fun x _ => (rk_b x).1) (by have := m2.2.2.2.2.2.2; rw [List.length_cons] at this ⊢; omega)
  rw [e2] at m3
  obtain ⟨M4, X4, C4, r4, m4, f4, x4, e4⟩ := h2 b cf M3 4 0 w false [] _ (C ++ c) m3 (by decide) (fun q => absurd q (by decide)) (fun x hx => by simp at hx) bd
  have n4 := nots_0 (fun x hx => (x4 x hx).2)
  rw [List.append_nil] at m4
  obtain ⟨M5, r5, m5, f5⟩ := mgo_cls (bg2 := false) (o := o) (by rw [n4]; exact m4) (Or.inr (Or.inl rfl)) (fun _ => ha2) (fun q => absurd q (by decide)) hc2 (fun x _ => (rk_b x).1) (fun _ => w15) (by have c4 := h.2.2.2.2.2.2; rw [List.length_cons] at c4 ⊢; exact c4)
  rw [if_neg (show ¬ (4 : Int) = 5 by decide), if_pos rfl, e4, cw] at m5
  refine ⟨M5, [], _, RUN_le (RUN_tr (RUN_tr (RUN_tr (RUN_tr r1 r2) r3) r4) r5) (by omega), m5, mpf_tr f1 (mpf_tr f2 (mpf_tr f3 (mpf_tr f4 f5))), fun x hx => absurd hx (List.not_mem_nil), ?_⟩
  rw [List.map_nil, List.append_nil, ← List.append_assoc, ← List.append_assoc]
theorem ks_mmb {i o : Nat} {kd : Int} {p : Nat} (hw : ow (tks T L i) 21 = true ∨ ow (tks T L i) 22 = true) (hb2 : (sg (tks T L (i + 1)) 40 = false ∧ kd = 1 ∧ p = (tks T L (i + 1)).2.2.2.1) ∨ (sg (tks T L (i + 1)) 40 = true ∧ ((o = 7 ∧ kd = 5 ∧ p = (tks T L (i + 1)).2.2.1) ∨ (o < 7 ∧ (KSbad T L K 5 3 (i + 2) (o + 1) kd p ∨ ∃ j c, (KSok T L K 5 3 (i + 2) (o + 1) j c ∧ ar (tks T L j) = false ∧ i + 2 ≤ j) ∧ ((sg (tks T L j) 44 = false ∧ kd = 1 ∧ p = (tks T L j).2.2.2.1) ∨ (sg (tks T L j) 44 = true ∧ (KSbad T L K 5 3 (j + 1) (o + 1) kd p ∨ ∃ j2 c2, KSok T L K 5 3 (j + 1) (o + 1) j2 c2 ∧ ar (tks T L j2) = false ∧ sg (tks T L j2) 41 = false ∧ j + 1 ≤ j2 ∧ kd = 1 ∧ p = (tks T L j2).2.2.2.1)))))))) {rr : Int} {lev : Nat} (hl : lev ≤ 5) : KSbad T L K rr lev i o kd p := by
  intro b cf M k ph pr bg ops0 r C h hp hpl h0 hb'
  rcases hb2 with ⟨hy, rfl, rfl⟩ | ⟨hy, ⟨rfl, rfl, rfl⟩ | ⟨ho, hb3⟩⟩
  · obtain ⟨M', r1, b1⟩ := mopd_mmb h hw hy
    exact ⟨M', FIN_le r1 (by omega), b1⟩
  · obtain ⟨M', r1, b1⟩ := mopd_mm7 h hw hy
    exact ⟨M', FIN_le r1 (by omega), b1⟩
  · obtain ⟨M1, r1, m1, f1⟩ := mopd_mm h hw hy ho
    have i1K := m1.2.2.2.1
    have bd : ([] : List Int).length + tot ((k, ph, false, pr, ops0) :: r) ≤ 6 * (o + 1) + 3 := by
      show 0 + (ops0.length + tot r) ≤ _
      omega
    generalize (if ow (tks T L i) 21 = true then (15 : Int) else 16) = w at *
    rcases hb3 with hb3 | ⟨j, c, ⟨h1, ha, hij⟩, hb4⟩
    · obtain ⟨M2, r2, b1, b2, b3⟩ := hb3 b cf M1 3 0 w true [] _ C m1 (by decide) (fun q => absurd q (by decide)) (fun x hx => by simp at hx) bd
      exact ⟨M2, FIN_le (RUN_fin r1 r2) (by omega), b1, b2, mpf_tr f1 b3⟩
    · obtain ⟨M2, X, C2, r2, m2, f2, x2, e2⟩ := h1 b cf M1 3 0 w true [] _ C m1 (by decide) (fun q => absurd q (by decide)) (fun x hx => by simp at hx) bd
      have jK := m2.2.2.2.1
      rcases hb4 with ⟨hc, rfl, rfl⟩ | ⟨hc, hb5⟩
      · obtain ⟨M3, r3, b1, b2, b3⟩ := mgo_nocom m2 ha hc
        exact ⟨M3, FIN_le (RUN_fin (RUN_tr r1 r2) r3) (by omega), b1, b2, mpf_tr f1 (mpf_tr f2 b3)⟩
      · have n0 := nots_0 (fun x hx => (x2 x hx).2)
        rw [List.append_nil] at m2
        obtain ⟨M3, r3, m3, f3⟩ := mgo_com (o := o + 1) (by rw [n0]; exact m2) hc (fun x _ => (rk_b x).1) (by have := m2.2.2.2.2.2.2; rw [List.length_cons] at this ⊢; omega)
        have j1K := m3.2.2.2.1
        rcases hb5 with hb5 | ⟨j2, c2, h2, ha2, hc2, hij2, rfl, rfl⟩
        · obtain ⟨M4, r4, b1, b2, b3⟩ := hb5 b cf M3 4 0 w false [] _ _ m3 (by decide) (fun q => absurd q (by decide)) (fun x hx => by simp at hx) bd
          exact ⟨M4, FIN_le (RUN_fin (RUN_tr (RUN_tr r1 r2) r3) r4) (by omega), b1, b2, mpf_tr f1 (mpf_tr f2 (mpf_tr f3 b3))⟩
        · obtain ⟨M4, X4, C4, r4, m4, f4, x4, e4⟩ := h2 b cf M3 4 0 w false [] _ _ m3 (by decide) (fun q => absurd q (by decide)) (fun x hx => by simp at hx) bd
          have j2K := m4.2.2.2.1
          obtain ⟨M5, r5, b1, b2, b3⟩ := mgo_nocls m4 (Or.inr (Or.inl rfl)) (fun q => by rw [ha2] at q; exact absurd q.2 (by decide)) (fun q => absurd q (by decide)) hc2
          exact ⟨M5, FIN_le (RUN_fin (RUN_tr (RUN_tr (RUN_tr r1 r2) r3) r4) r5) (by omega), b1, b2, mpf_tr f1 (mpf_tr f2 (mpf_tr f3 (mpf_tr f4 b3)))⟩
/-- nothing that a part can begin with -/
theorem ks_bad {i o : Nat} (n1 : sg (tks T L i) 40 = false) (n2 : ow (tks T L i) 21 = false) (n3 : ow (tks T L i) 22 = false) (hw : pcell (tks T L i) = none) {rr : Int} {lev : Nat} : KSbad T L K rr lev i o 1 (tks T L i).2.2.2.1 := by
  intro b cf M k ph pr bg ops0 r C h hp hpl h0 hb'
  obtain ⟨M', r1, b1⟩ := mopd_bad h hpl n1 n2 n3 hw
  exact ⟨M', FIN_le r1 (by omega), b1⟩
end PKSP
