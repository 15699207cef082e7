/-! a fact, both, a test: what the model does over the same tokens -/
section PKTE
section
variable (T : Int → Int) (L K : Nat)
def KTok (hd rr : Int) (lev i o j : Nat) (c : List Int) : Prop := ∀ (b : Int) (cf : Nat) (M : AwM) (k pr : Int) (ops0 : List Int) (r : List Fr) (C : List Int), isT k = true → MK T L K b cf M i ((k, 0, true, pr, ops0) :: r) o C false → (∀ x ∈ ops0.head?, rk x < hd) → ops0.length + tot r ≤ 6 * o + lev → ∃ (M' : AwM) (X C1 : List Int) (ph : Int), RUN (j - i) M M' ∧ MK T L K b cf M' j ((k, ph, false, pr, X ++ ops0) :: r) (o + nots X) C1 true ∧ mpf b cf M' M ∧ (∀ x ∈ X, rr ≤ rk x) ∧ C1 ++ X.map cel = C ++ c ∧ ph ≠ 0 ∧ (ph < 2 → ar (tks T L j) = false)
def KTbad (hd : Int) (lev i o : Nat) (kd : Int) (p : Nat) : Prop := ∀ (b : Int) (cf : Nat) (M : AwM) (k pr : Int) (ops0 : List Int) (r : List Fr) (C : List Int), isT k = true → MK T L K b cf M i ((k, 0, true, pr, ops0) :: r) o C false → (∀ x ∈ ops0.head?, rk x < hd) → ops0.length + tot r ≤ 6 * o + lev → ∃ M' : AwM, FIN (K - i + 2) M M' ∧ BAD b cf M' M kd p
def FTs (g : AwM → Option (Int × AwM)) (hd rr : Int) (lev o need : Nat) (tl : Tk → Prop) : Prop := ∀ (M : AwM) (fo : Int) (i : Nat) (C : List Int), CFo T L K M fo i o C → C.length + 1 ≤ i →
  (∃ M' j c, g M = some (1, M') ∧ CFo T L K M' fo j o (C ++ c) ∧ ffr fo M' M ∧ (i + c.length ≤ j ∧ i < j) ∧ Ty c true need ∧ KTok T L K hd rr lev i o j c ∧ tl (tks T L j)) ∨
  (∃ M' k p, g M = some (0, M') ∧ CBAD fo M' M k p ∧ 0 < k ∧ KTbad T L K hd lev i o k p)
end
variable {T : Int → Int} {L K : Nat}
theorem nots_app : ∀ (X Y : List Int), nots (X ++ Y) = nots X + nots Y
  | [], Y => by show nots Y = 0 + nots Y; omega
  | x :: X, Y => by
    show (if x = 22 then 1 else 0) + nots (X ++ Y) = (if x = 22 then 1 else 0) + nots X + nots Y
    rw [nots_app X Y]; omega
theorem tbin_0 {hd rr : Int} {lev i o j : Nat} {c : List Int} (h1 : KTok T L K hd rr lev i o j c) {op : Int} (ha : (ow (tks T L j) 18 = true ∧ rr = 2 ∧ op = 20) ∨ (ow (tks T L j) 17 = true ∧ rr = 1 ∧ op = 21)) (hr : hd ≤ rr) (hl : lev ≤ 4) (ho : o ≤ 7) {b : Int} {cf : Nat} {M : AwM} {k pr : Int} {ops0 : List Int} {r : List Fr} {C : List Int} (hT : isT k = true) (h : MK T L K b cf M i ((k, 0, true, pr, ops0) :: r) o C false) (h0 : ∀ x ∈ ops0.head?, rk x < hd) (hb' : ops0.length + tot r ≤ 6 * o + lev) : ∃ M', RUN (j - i + 1) M M' ∧ MK T L K b cf M' (j + 1) ((k, 0, true, pr, op :: ops0) :: r) o (C ++ c) false ∧ mpf b cf M' M ∧ j < K := by
  obtain ⟨M1, X, C1, ph, r1, m1, f1, x1, e1, p1, p2⟩ := h1 b cf M k pr ops0 r C hT h h0 hb'
  have c4 := h.2.2.2.2.2.2
  have hk : (tks T L j).1 = 4 := by
    rcases ha with ⟨q, _⟩ | ⟨q, _⟩ <;> exact (ow_t.mp q).1
  have jk := m1.lt (by omega)
  obtain ⟨M2, r2, m2, f2⟩ := mgo_ao (bg := false) (X := X) (ops0 := ops0) (o := o) (le := rr) (op := op) m1 hT p1 ha (fun x hx => by have := h0 x hx; omega) x1 (by omega) (by rw [List.length_cons] at c4 ⊢; exact c4)
  rw [e1] at m2
  exact ⟨M2, RUN_tr r1 r2, m2, mpf_tr f1 f2, jk⟩
theorem tbin {hd rr hd2 rr2 : Int} {lev i o j j2 : Nat} {c c2 : List Int} (h1 : KTok T L K hd rr lev i o j c) {op : Int} (ha : (ow (tks T L j) 18 = true ∧ rr = 2 ∧ op = 20) ∨ (ow (tks T L j) 17 = true ∧ rr = 1 ∧ op = 21)) (hr : hd ≤ rr ∧ rr < hd2 ∧ rr ≤ rr2) (h2 : KTok T L K hd2 rr2 (lev + 1) (j + 1) o j2 c2) (hij : i ≤ j ∧ j + 1 ≤ j2) (hl : lev ≤ 4) (ho : o ≤ 7) : KTok T L K hd rr lev i o j2 (c ++ c2 ++ [cel op]) := by
  intro b cf M k pr ops0 r C hT h h0 hb'
  obtain ⟨M2, r2, m2, f2, jk⟩ := tbin_0 h1 ha hr.1 hl ho hT h h0 hb'
  have ro : rk op = rr := by
    rcases ha with ⟨_, rfl, rfl⟩ | ⟨_, rfl, rfl⟩ <;> rfl
  have o22 : op ≠ 22 := by omega
  obtain ⟨M3, X3, C3, ph, r3, m3, f3, x3, e3, p1, p2⟩ := h2 b cf M2 k pr (op :: ops0) r (C ++ c) hT m2 (fun x hx => by
    have : op = x := by simpa using hx
    rw [← this, ro]; omega) (by rw [List.length_cons]; omega)
  refine ⟨M3, X3 ++ [op], C3, ph, RUN_le (RUN_tr r2 r3) (by omega), ?_, mpf_tr f2 f3, fun x hx => ?_, ?_, p1, p2⟩
  · have en : nots (X3 ++ [op]) = nots X3 := by
      rw [nots_app]
      show nots X3 + ((if op = 22 then 1 else 0) + 0) = nots X3
      rw [if_neg o22]; rfl
    rw [en, List.append_assoc]; exact m3
  · rcases List.mem_append.mp hx with q | q
    · have := x3 x q; omega
    · rw [List.mem_singleton.mp q, ro]; exact Int.le_refl _
  · rw [List.map_append, ← List.append_assoc, e3, ← List.append_assoc, ← List.append_assoc]; rfl
theorem tbin_b {hd rr hd2 : Int} {lev i o j : Nat} {c : List Int} {kd : Int} {p : Nat} (h1 : KTok T L K hd rr lev i o j c) {op : Int} (ha : (ow (tks T L j) 18 = true ∧ rr = 2 ∧ op = 20) ∨ (ow (tks T L j) 17 = true ∧ rr = 1 ∧ op = 21)) (hr : hd ≤ rr ∧ rr < hd2) (h2 : KTbad T L K hd2 (lev + 1) (j + 1) o kd p) (hij : i ≤ j) (hl : lev ≤ 4) (ho : o ≤ 7) : KTbad T L K hd lev i o kd p := by
  intro b cf M k pr ops0 r C hT h h0 hb'
  obtain ⟨M2, r2, m2, f2, jk⟩ := tbin_0 h1 ha hr.1 hl ho hT h h0 hb'
  have ro : rk op = rr := by
    rcases ha with ⟨_, rfl, rfl⟩ | ⟨_, rfl, rfl⟩ <;> rfl
  obtain ⟨M3, r3, b1, b2, b3⟩ := h2 b cf M2 k pr (op :: ops0) r (C ++ c) hT m2 (fun x hx => by
    have : op = x := by simpa using hx
    rw [← this, ro]; omega) (by rw [List.length_cons]; omega)
  exact ⟨M3, FIN_le (RUN_fin r2 r3) (by omega), b1, b2, mpf_tr f2 b3⟩
theorem KTok_up {hd rr hd' rr' : Int} {lev lev' i o j : Nat} {c : List Int} (h : KTok T L K hd rr lev i o j c) (hr : hd' ≤ hd ∧ rr' ≤ rr) (hl : lev' ≤ lev) : KTok T L K hd' rr' lev' i o j c := by
  intro b cf M k pr ops0 r C hT hm h0 hb'
  obtain ⟨M1, X, C1, ph, r1, m1, f1, x1, e1, p⟩ := h b cf M k pr ops0 r C hT hm (fun x hx => by have := h0 x hx; omega) (by omega)
  exact ⟨M1, X, C1, ph, r1, m1, f1, fun x hx => by have := x1 x hx; omega, e1, p⟩
theorem KTbad_up {hd hd' : Int} {lev lev' i o : Nat} {kd : Int} {p : Nat} (h : KTbad T L K hd lev i o kd p) (hr : hd' ≤ hd) (hl : lev' ≤ lev) : KTbad T L K hd' lev' i o kd p := by
  intro b cf M k pr ops0 r C hT hm h0 hb'
  exact h b cf M k pr ops0 r C hT hm (fun x hx => by have := h0 x hx; omega) (by omega)
/-- not -/
theorem kt_not {i o j : Nat} {c : List Int} (hw : ow (tks T L i) 19 = true) (ho : o < 7) (h1 : KTok T L K 4 3 2 (i + 1) (o + 1) j c) (hij : i + 1 ≤ j) : KTok T L K 4 3 2 i o j (c ++ [-9]) := by
  intro b cf M k pr ops0 r C hT h h0 hb'
  obtain ⟨M1, r1, m1, f1⟩ := mopd_not h (by rw [hT]; rfl) hw ho (by omega)
  obtain ⟨M2, X, C2, ph, r2, m2, f2, x2, e2, p1, p2⟩ := h1 b cf M1 k pr (22 :: ops0) r C hT m1 (fun x hx => by
    have : (22 : Int) = x := by simpa using hx
    rw [← this]; decide) (by rw [List.length_cons]; omega)
  refine ⟨M2, X ++ [22], C2, ph, RUN_le (RUN_tr r1 r2) (by omega), ?_, mpf_tr f1 f2, fun x hx => ?_, ?_, p1, p2⟩
  · have en : o + nots (X ++ [22]) = o + 1 + nots X := by
      rw [nots_app]
      show o + (nots X + (1 + 0)) = _
      omega
    rw [en, List.append_assoc]; exact m2
  · rcases List.mem_append.mp hx with q | q
    · exact x2 x q
    · rw [List.mem_singleton.mp q]; decide
  · rw [List.map_append, ← List.append_assoc, e2, List.append_assoc]; rfl
theorem kt_notb {i o : Nat} {kd : Int} {p : Nat} (hw : ow (tks T L i) 19 = true) (hb2 : (o = 7 ∧ kd = 5 ∧ p = (tks T L i).2.2.1) ∨ (o < 7 ∧ KTbad T L K 4 2 (i + 1) (o + 1) kd p)) : KTbad T L K 4 2 i o kd p := by
  intro b cf M k pr ops0 r C hT h h0 hb'
  rcases hb2 with ⟨rfl, rfl, rfl⟩ | ⟨ho, h1⟩
  · obtain ⟨M', r1, b1⟩ := mopd_not7 h (by rw [hT]; rfl) hw
    exact ⟨M', FIN_le r1 (by omega), b1⟩
  · obtain ⟨M1, r1, m1, f1⟩ := mopd_not h (by rw [hT]; rfl) hw ho (by omega)
    have i1 := m1.2.2.2.1
    obtain ⟨M2, r2, b1, b2, b3⟩ := h1 b cf M1 k pr (22 :: ops0) r C hT m1 (fun x hx => by
      have : (22 : Int) = x := by simpa using hx
      rw [← this]; decide) (by rw [List.length_cons]; omega)
    exact ⟨M2, FIN_le (RUN_fin r1 r2) (by omega), b1, b2, mpf_tr f1 b3⟩
/-- all -/
theorem kt_all {i o : Nat} (hw : ow (tks T L i) 20 = true) : KTok T L K 4 3 2 i o (i + 1) [10000] := by
  intro b cf M k pr ops0 r C hT h h0 hb'
  obtain ⟨M1, r1, m1, f1⟩ := mopd_all h (by rw [hT]; rfl) hw
  exact ⟨M1, [], _, 2, RUN_le r1 (by omega), m1, f1, fun x hx => absurd hx (List.not_mem_nil), by rw [List.map_nil, List.append_nil], by decide, fun q => absurd q (by decide)⟩
/-- [ test ] -/
theorem kt_sq {i o j : Nat} {c : List Int} (hw : sg (tks T L i) 91 = true) (ho : o < 7) (h1 : KTok T L K 1 1 0 (i + 1) (o + 1) j c) (hc : sg (tks T L j) 93 = true) (hij : i + 1 ≤ j) : KTok T L K 4 3 2 i o (j + 1) c := by
  intro b cf M k pr ops0 r C hT h h0 hb'
  obtain ⟨M1, r1, m1, f1⟩ := mopd_sq h (by rw [hT]; rfl) hw ho
  obtain ⟨M2, X, C2, ph, r2, m2, f2, x2, e2, p1, p2⟩ := h1 b cf M1 5 0 [] _ C rfl m1 (fun x hx => by simp at hx) (by
    show 0 + (ops0.length + tot r) ≤ _
    omega)
  rw [List.append_nil] at m2
  obtain ⟨M3, r3, m3, f3⟩ := mgo_cls (bg2 := false) (o := o) m2 (Or.inr (Or.inr rfl)) p2 (fun _ => p1) hc (fun x _ => (rk_b x).1) (fun q => absurd q (by decide)) (by have c4 := h.2.2.2.2.2.2; rw [List.length_cons] at c4 ⊢; exact c4)
  rw [if_pos rfl, if_neg (show ¬ (5 : Int) = 4 by decide), List.append_nil, e2] at m3
  exact ⟨M3, [], _, 2, RUN_le (RUN_tr (RUN_tr r1 r2) r3) (by omega), m3, mpf_tr f1 (mpf_tr f2 f3), fun x hx => absurd hx (List.not_mem_nil), by rw [List.map_nil, List.append_nil], by decide, fun q => absurd q (by decide)⟩
theorem kt_sqb {i o : Nat} {kd : Int} {p : Nat} (hw : sg (tks T L i) 91 = true) (hb2 : (o = 7 ∧ kd = 5 ∧ p = (tks T L i).2.2.1) ∨ (o < 7 ∧ (KTbad T L K 1 0 (i + 1) (o + 1) kd p ∨ ∃ j c, KTok T L K 1 1 0 (i + 1) (o + 1) j c ∧ (ow (tks T L j) 18 = false ∧ ow (tks T L j) 17 = false) ∧ sg (tks T L j) 93 = false ∧ i + 1 ≤ j ∧ kd = 1 ∧ p = (tks T L j).2.2.2.1))) : KTbad T L K 4 2 i o kd p := by
  intro b cf M k pr ops0 r C hT h h0 hb'
  rcases hb2 with ⟨rfl, rfl, rfl⟩ | ⟨ho, hb3⟩
  · obtain ⟨M', r1, b1⟩ := mopd_sq7 h (by rw [hT]; rfl) hw
    exact ⟨M', FIN_le r1 (by omega), b1⟩
  · obtain ⟨M1, r1, m1, f1⟩ := mopd_sq h (by rw [hT]; rfl) hw ho
    have i1 := m1.2.2.2.1
    have bd : ([] : List Int).length + tot ((k, (0 : Int), false, pr, ops0) :: r) ≤ 6 * (o + 1) + 0 := by
      show 0 + (ops0.length + tot r) ≤ _
      omega
    rcases hb3 with hb3 | ⟨j, c, h1, ha, hc, hij, rfl, rfl⟩
    · obtain ⟨M2, r2, b1, b2, b3⟩ := hb3 b cf M1 5 0 [] _ C rfl m1 (fun x hx => by simp at hx) bd
      exact ⟨M2, FIN_le (RUN_fin r1 r2) (by omega), b1, b2, mpf_tr f1 b3⟩
    · obtain ⟨M2, X, C2, ph, r2, m2, f2, x2, e2, p1, p2⟩ := h1 b cf M1 5 0 [] _ C rfl m1 (fun x hx => by simp at hx) bd
      have jK := m2.2.2.2.1
      obtain ⟨M3, r3, b1, b2, b3⟩ := mgo_nocls m2 (Or.inr (Or.inr rfl)) (fun q => by rw [p2 q.1] at q; exact absurd q.2 (by decide)) (fun _ => ⟨p1, ha⟩) hc
      exact ⟨M3, FIN_le (RUN_fin (RUN_tr r1 r2) r3) (by omega), b1, b2, mpf_tr f1 (mpf_tr f2 b3)⟩
/-- sum < sum -/
theorem rk_C (x : Tk) : rk (opC x) = 4 ∧ opC x ≠ 22 := by
  unfold opC
  split
  · exact ⟨rfl, by decide⟩
  · split
    · exact ⟨rfl, by decide⟩
    · exact ⟨rfl, by decide⟩
theorem kt_cmp0 {i o j : Nat} {c : List Int} (hp : plain (tks T L i) = true) (h1 : KSok T L K 5 3 i o j c) (hc : cm (tks T L j) = true) (ho : o ≤ 7) {b : Int} {cf : Nat} {M : AwM} {k pr : Int} {ops0 : List Int} {r : List Fr} {C : List Int} (hT : isT k = true) (h : MK T L K b cf M i ((k, 0, true, pr, ops0) :: r) o C false) (h0 : ∀ x ∈ ops0.head?, rk x < 4) (hb' : ops0.length + tot r ≤ 6 * o + 2) : ∃ M', RUN (j - i + 1) M M' ∧ MK T L K b cf M' (j + 1) ((k, 1, false, pr, opC (tks T L j) :: ops0) :: r) o (C ++ c) false ∧ mpf b cf M' M ∧ j < K := by
  obtain ⟨M1, X, C1, r1, m1, f1, x1, e1⟩ := h1 b cf M k 0 pr true ops0 r C h (by decide) (fun _ => hp) (fun x hx => by have := h0 x hx; omega) (by omega)
  have n0 := nots_0 (fun x hx => (x1 x hx).2)
  have jk := m1.lt (by have := cm_k hc; omega)
  obtain ⟨M2, r2, m2, f2⟩ := mgo_cmp (bg := false) (X := X) (ops0 := ops0) (o := o) (by rw [n0]; exact m1) hT hc (fun x hx => by have := h0 x hx; omega) (fun x hx => (x1 x hx).1) (by omega) (by have c4 := h.2.2.2.2.2.2; rw [List.length_cons] at c4 ⊢; exact c4)
  rw [e1] at m2
  exact ⟨M2, RUN_tr r1 r2, m2, mpf_tr f1 f2, jk⟩
theorem kt_cmp {i o j j2 : Nat} {c c2 : List Int} (hp : plain (tks T L i) = true) (h1 : KSok T L K 5 3 i o j c) (hc : cm (tks T L j) = true) (h2 : KSok T L K 5 3 (j + 1) o j2 c2) (ha : ar (tks T L j2) = false) (hij : i ≤ j ∧ j + 1 ≤ j2) (ho : o ≤ 7) : KTok T L K 4 3 2 i o j2 (c ++ c2 ++ [cel (opC (tks T L j))]) := by
  intro b cf M k pr ops0 r C hT h h0 hb'
  obtain ⟨M2, r2, m2, f2, jk⟩ := kt_cmp0 hp h1 hc ho hT h h0 hb'
  obtain ⟨ro, o22⟩ := rk_C (tks T L j)
  obtain ⟨M3, X3, C3, r3, m3, f3, x3, e3⟩ := h2 b cf M2 k 1 pr false (opC (tks T L j) :: ops0) r (C ++ c) m2 (by decide) (fun q => by rw [Bool.and_false] at q; exact absurd q (by decide)) (fun x hx => by
    have : opC (tks T L j) = x := by simpa using hx
    rw [← this, ro]; omega) (by rw [List.length_cons]; omega)
  have n3 := nots_0 (fun x hx => (x3 x hx).2)
  refine ⟨M3, X3 ++ [opC (tks T L j)], C3, 1, RUN_le (RUN_tr r2 r3) (by omega), ?_, mpf_tr f2 f3, fun x hx => ?_, ?_, by decide, fun _ => ha⟩
  · have en : o + nots (X3 ++ [opC (tks T L j)]) = o := by
      rw [nots_app, n3]
      show o + (0 + ((if opC (tks T L j) = 22 then 1 else 0) + 0)) = o
      rw [if_neg o22]; rfl
    rw [en, List.append_assoc]; exact m3
  · rcases List.mem_append.mp hx with q | q
    · have := (x3 x q).1; omega
    · rw [List.mem_singleton.mp q, ro]; decide
  · rw [List.map_append, ← List.append_assoc, e3, ← List.append_assoc, ← List.append_assoc]; rfl
theorem kt_cmpb {i o : Nat} {kd : Int} {p : Nat} (hp : plain (tks T L i) = true) (ho : o ≤ 7) (hb2 : KSbad T L K 5 3 i o kd p ∨ ∃ j c, (KSok T L K 5 3 i o j c ∧ ar (tks T L j) = false ∧ i ≤ j) ∧ ((cm (tks T L j) = false ∧ kd = 1 ∧ p = (tks T L j).2.2.2.1) ∨ (cm (tks T L j) = true ∧ KSbad T L K 5 3 (j + 1) o kd p))) : KTbad T L K 4 2 i o kd p := by
  intro b cf M k pr ops0 r C hT h h0 hb'
  rcases hb2 with hb3 | ⟨j, c, ⟨h1, ha, hij⟩, ⟨hc, rfl, rfl⟩ | ⟨hc, h2⟩⟩
  · obtain ⟨M2, r2, b1⟩ := hb3 b cf M k 0 pr true ops0 r C h (by decide) (fun _ => hp) (fun x hx => by have := h0 x hx; omega) (by omega)
    exact ⟨M2, r2, b1⟩
  · obtain ⟨M1, X, C1, r1, m1, f1, x1, e1⟩ := h1 b cf M k 0 pr true ops0 r C h (by decide) (fun _ => hp) (fun x hx => by have := h0 x hx; omega) (by omega)
    have jK := m1.2.2.2.1
    obtain ⟨M2, r2, b1, b2, b3⟩ := mgo_ph0 m1 hT ha hc
    exact ⟨M2, FIN_le (RUN_fin r1 r2) (by omega), b1, b2, mpf_tr f1 b3⟩
  · obtain ⟨M2, r2, m2, f2, jk⟩ := kt_cmp0 hp h1 hc ho hT h h0 hb'
    obtain ⟨ro, o22⟩ := rk_C (tks T L j)
    obtain ⟨M3, r3, b1, b2, b3⟩ := h2 b cf M2 k 1 pr false (opC (tks T L j) :: ops0) r (C ++ c) m2 (by decide) (fun q => by rw [Bool.and_false] at q; exact absurd q (by decide)) (fun x hx => by
      have : opC (tks T L j) = x := by simpa using hx
      rw [← this, ro]; omega) (by rw [List.length_cons]; omega)
    exact ⟨M3, FIN_le (RUN_fin r2 r3) (by omega), b1, b2, mpf_tr f2 b3⟩
end PKTE
