/-! the model reads a part of a formula: brackets, facts, numbers -/
section PMO2
variable {T : Int → Int} {L K : Nat} {b : Int} {cf : Nat}
theorem MK_mk {M3 : AwM} {i' : Nat} {fs' : List Fr} {o' : Nat} {C' : List Int} (fl : Bool) (h : MB T L b cf M3 fs' o' C') (t : MTK M3 (tks T L i')) (hi : i' ≤ K) (hK : ENDS (tks T L) K) (hc : cf + C'.length + tot fs' + p34 fs' + 1 ≤ i') (hf : fs'.length ≤ o' + 1) : MK T L K b cf (up_ M3 167 46 (bi fl)) i' fs' o' C' fl ∧ mpf b cf (up_ M3 167 46 (bi fl)) M3 := by
  obtain ⟨m4, f4⟩ := MB_46 (v := bi fl) h
  exact ⟨⟨m4, MTK_mb t f4, up_at, hi, hK, hc, hf⟩, mpf_mb f4⟩
def pcell (x : Tk) : Option (Int × Int × Int) :=
  if x.1 = 2 then some (0, x.2.1, x.2.1) else if ow x 3 = true then some (1, 0, -1) else if ow x 1 = true then some (2, 0, -2) else if ow x 13 = true then some (3, 0, -3) else if ow x 14 = true then some (4, 0, -4) else if ow x 15 = true then some (5, 0, -5) else if ow x 16 = true then some (6, 0, -6) else none
section
variable {M : AwM} {i : Nat} {k ph pr : Int} {bg : Bool} {ops : List Int} {r : List Fr} {o : Nat} {C : List Int}
theorem MK.nb {fl : Bool} (h : MK T L K b cf M i ((k, ph, bg, pr, ops) :: r) o C fl) : MB T L b cf (up_ M 192 (r.length : Int) 0) ((k, ph, false, pr, ops) :: r) o C ∧ MTK (up_ M 192 (r.length : Int) 0) (tks T L i) ∧ mpf b cf (up_ M 192 (r.length : Int) 0) M ∧ up_ M 192 (r.length : Int) 0 167 46 = bi fl := by
  obtain ⟨g1, g2⟩ := MB_top (a := 192) (v := 0) (k' := k) (ph' := ph) (bg' := false) (pr' := pr) h.mb (Or.inr (Or.inr ⟨rfl, rfl, rfl, rfl, rfl⟩))
  exact ⟨g1, MTK_mb h.tk g2, mpf_mb g2, (up_of (by decide)).trans h.2.2.1⟩
/-- [ -/
theorem mopd_sqe (h : MK T L K b cf M i ((k, ph, bg, pr, ops) :: r) o C false) (hs : (isT k && bg) = true) (hw : sg (tks T L i) 91 = true) : fX9_operand SH M 167 = pb (fX9_opens SH (up_ M 192 (r.length : Int) 0) 167 5) (u1 fun (M98 : AwM) => (some (0, M98))) := by
  have hk := sg_t.mp hw
  have hx : (tks T L i).1 ≠ 5 := by omega
  obtain ⟨t1, t2, t3, t4, t5, _⟩ := h.top
  obtain ⟨m1, k1, f1, q1⟩ := h.nb
  rw [mopd_1 h hx (fun q => by have := ow_t.mp q.2; omega), hs]
  unfold fX9_operand_J110
  rw [kd167, gd_t rfl, ly167_39 h.lay, kd192, gd_t (by refine ⟨rfl, by omega, ?_⟩; show _ < (20 : Int); omega), bd_1, if_neg (by decide), msgn_n k1 (tks_ok T L i) hx (c := 91) (by decide), pb_1, u1_1, bi_if, if_pos hw]
theorem mopd_sq (h : MK T L K b cf M i ((k, ph, bg, pr, ops) :: r) o C false) (hs : (isT k && bg) = true) (hw : sg (tks T L i) 91 = true) (ho : o < 7) : ∃ M', RUN 1 M M' ∧ MK T L K b cf M' (i + 1) ((5, 0, true, 0, []) :: (k, ph, false, pr, ops) :: r) (o + 1) C false ∧ mpf b cf M' M := by
  have hk := sg_t.mp hw
  have lt := h.lt (by omega)
  obtain ⟨m1, k1, f1, q1⟩ := h.nb
  have c4 := h.2.2.2.2.2.2
  rw [List.length_cons] at c4
  obtain ⟨M2, e2, m2, t2, f2⟩ := mopens_n (kd := 5) m1 k1 (by omega) ho (by rw [List.length_cons]; omega)
  have e := (mopd_sqe h hs hw).trans (by rw [e2, pb_1, u1_1])
  obtain ⟨m3, f3⟩ := MK_mk (K := K) false m2 t2 (by omega) h.2.2.2.2.1 (by
    have c3 := h.2.2.2.2.2.1
    show cf + C.length + (0 + (ops.length + tot r)) + (0 + p34 ((k, ph, bg, pr, ops) :: r)) + 1 ≤ i + 1
    have e2 : tot ((k, ph, bg, pr, ops) :: r) = ops.length + tot r := rfl
    rw [e2] at c3; omega) (by rw [List.length_cons, List.length_cons]; omega)
  exact ⟨_, mstp_o h.2.2.1 (f := false) e m2.1.2.2.1, m3, mpf_tr f1 (mpf_tr f2 f3)⟩
theorem mbad_o {M1 : AwM} {x : Tk} {kd : Int} {p : Nat} {v : Int} (h46 : M 167 46 = bi false) (f1 : mpf b cf M1 M) (hv : v = 0 ∨ v = 1) (e : fX9_operand SH M 167 = some (v, up_ (up_ M1 167 8 kd) 167 9 (p : Int))) (hk : 0 < kd) : ∃ M', FIN 2 M M' ∧ BAD b cf M' M kd p := by
  refine ⟨_, mfin_o h46 e hv (by rw [up_oi (by decide), up_at]; exact hk), ?_, ?_, ?_⟩
  · rw [up_oi (by decide), up_oi (by decide), up_at]
  · rw [up_oi (by decide), up_at]
  · exact mpf_tr f1 (mpf_tr (mpf_up (by omega)) (mpf_tr (mpf_up (by omega)) (mpf_up (by omega))))
theorem mopd_sq7 (h : MK T L K b cf M i ((k, ph, bg, pr, ops) :: r) 7 C false) (hs : (isT k && bg) = true) (hw : sg (tks T L i) 91 = true) : ∃ M', FIN 2 M M' ∧ BAD b cf M' M 5 (tks T L i).2.2.1 := by
  obtain ⟨m1, k1, f1, q1⟩ := h.nb
  exact mbad_o (x := tks T L i) h.2.2.1 f1 (Or.inl rfl) ((mopd_sqe h hs hw).trans (by rw [mopens_7 m1 k1, pb_1, u1_1])) (by decide)
/-- all -/
theorem mopd_all (h : MK T L K b cf M i ((k, ph, bg, pr, ops) :: r) o C false) (hs : (isT k && bg) = true) (hw : ow (tks T L i) 20 = true) : ∃ M', RUN 1 M M' ∧ MK T L K b cf M' (i + 1) ((k, 2, false, pr, ops) :: r) o (C ++ [10000]) true ∧ mpf b cf M' M := by
  have hk := ow_t.mp hw
  have hx : (tks T L i).1 ≠ 5 := by omega
  have lt := h.lt (by omega)
  obtain ⟨t1, t2, t3, t4, t5, _⟩ := h.top
  obtain ⟨m1, k1, f1, q1⟩ := h.nb
  have c3 := h.2.2.2.2.2.1
  have hK := h.2.2.2.2.1.1.2
  have hiK := h.2.2.2.1
  obtain ⟨M2, e2, m2, f2, g2, _⟩ := MB_add (s := 9) (v := 0) (c := 10000) m1 (by decide) (fun z => absurd z (by decide)) rfl (by omega)
  obtain ⟨m3, f3⟩ := MB_top (a := 191) (v := 2) (k' := k) (ph' := 2) (bg' := false) (pr' := pr) m2 (Or.inr (Or.inl ⟨rfl, rfl, rfl, rfl, rfl⟩))
  obtain ⟨M4, e4, m4, t4', q4, f4⟩ := MB_adv m3 (MTK_mb (MTK_mb k1 f2) f3) (by omega)
  have e : fX9_operand SH M 167 = some (bi true, M4) := by
    rw [mopd_1 h hx (fun q => by have := ow_t.mp q.2; omega), hs]
    unfold fX9_operand_J110 fX9_operand_J137
    rw [kd167, gd_t rfl, ly167_39 h.lay, kd192, gd_t (by refine ⟨rfl, by omega, ?_⟩; show _ < (20 : Int); omega), bd_1, if_neg (by decide), msgn_n k1 (tks_ok T L i) hx (c := 91) (by decide), pb_1, u1_1, bi_if, if_neg (fun q => by have := sg_t.mp q; omega), if_neg (by decide), gd_t rfl, mwrd_n k1 (tks_ok T L i) hx (w := 6384748) (k := 20) (by decide) (by decide) rfl, pb_1, u1_1, bi_if, if_pos hw, e2, pb_1, u1_1, ly167_38 m2.1.1, kd191, ga_t (by omega) (by omega), bd_1, e4, pb_1, u1_1]
    rfl
  obtain ⟨m5, f5⟩ := MK_mk (K := K) true m4 t4' (by omega) h.2.2.2.2.1 (by
    show cf + (C ++ [10000]).length + (ops.length + tot r) + p34 ((k, ph, bg, pr, ops) :: r) + 1 ≤ i + 1
    have e2 : tot ((k, ph, bg, pr, ops) :: r) = ops.length + tot r := rfl
    rw [e2] at c3; rw [List.length_append, List.length_singleton]; omega) (by have c4 := h.2.2.2.2.2.2; rw [List.length_cons] at c4 ⊢; omega)
  exact ⟨_, mstp_o h.2.2.1 (f := true) e m4.1.2.2.1, m5, mpf_tr f1 (mpf_tr (mpf_mb f2) (mpf_tr (mpf_mb f3) (mpf_tr f4 f5)))⟩
/-- no bracket, not, all ahead of a test -/
def plain (x : Tk) : Bool := !(ow x 19) && !(sg x 91) && !(ow x 20)
theorem mopd_171 (h : MK T L K b cf M i ((k, ph, bg, pr, ops) :: r) o C false) (hx : (tks T L i).1 ≠ 5) (hp : (isT k && bg) = true → plain (tks T L i) = true) : fX9_operand SH M 167 = fX9_operand_J171 SH (up_ M 192 (r.length : Int) 0) 167 := by
  obtain ⟨t1, t2, t3, t4, t5, _⟩ := h.top
  obtain ⟨m1, k1, f1, q1⟩ := h.nb
  have hp' : (isT k && bg) = true → (ow (tks T L i) 19 = false ∧ sg (tks T L i) 91 = false) ∧ ow (tks T L i) 20 = false := fun z => by
    have := hp z
    unfold plain at this
    rw [Bool.and_eq_true, Bool.and_eq_true] at this
    simpa using this
  rw [mopd_1 h hx (fun q => by rw [(hp' q.1).1.1] at q; exact absurd q.2 (by decide))]
  unfold fX9_operand_J110 fX9_operand_J137
  rw [kd167, gd_t rfl, ly167_39 h.lay, kd192, gd_t (by refine ⟨rfl, by omega, ?_⟩; show _ < (20 : Int); omega), bd_1, bi_if, bi_if]
  by_cases z : (isT k && bg) = true
  · rw [if_pos z, msgn_n k1 (tks_ok T L i) hx (c := 91) (by decide), pb_1, u1_1, bi_if, if_neg (by rw [(hp' z).1.2]; decide), if_pos z, gd_t rfl, mwrd_n k1 (tks_ok T L i) hx (w := 6384748) (k := 20) (by decide) (by decide) rfl, pb_1, u1_1, bi_if, if_neg (by rw [(hp' z).2]; decide)]
  · rw [if_neg z, if_neg z]
/-- ( -/
theorem mopd_pare (h : MK T L K b cf M i ((k, ph, bg, pr, ops) :: r) o C false) (hw : sg (tks T L i) 40 = true) : fX9_operand SH M 167 = pb (fX9_opens SH (up_ M 192 (r.length : Int) 0) 167 2) (u1 fun (M98 : AwM) => (some (0, M98))) := by
  have hk := sg_t.mp hw
  have hx : (tks T L i).1 ≠ 5 := by omega
  obtain ⟨m1, k1, f1, q1⟩ := h.nb
  have pl : plain (tks T L i) = true := by
    unfold plain
    rw [bf (fun q => by have := ow_t.mp q; omega : ¬ ow (tks T L i) 19 = true), bf (fun q => by have := sg_t.mp q; omega : ¬ sg (tks T L i) 91 = true), bf (fun q => by have := ow_t.mp q; omega : ¬ ow (tks T L i) 20 = true)]
    rfl
  rw [mopd_171 h hx (fun _ => pl)]
  unfold fX9_operand_J171
  rw [kd167, gd_t rfl, msgn_n k1 (tks_ok T L i) hx (c := 40) (by decide), pb_1, u1_1, bi_if, if_pos hw]
theorem mopd_par (h : MK T L K b cf M i ((k, ph, bg, pr, ops) :: r) o C false) (hw : sg (tks T L i) 40 = true) (ho : o < 7) : ∃ M', RUN 1 M M' ∧ MK T L K b cf M' (i + 1) ((2, 0, true, 0, []) :: (k, ph, false, pr, ops) :: r) (o + 1) C false ∧ mpf b cf M' M := by
  have hk := sg_t.mp hw
  have lt := h.lt (by omega)
  obtain ⟨m1, k1, f1, q1⟩ := h.nb
  have c4 := h.2.2.2.2.2.2
  rw [List.length_cons] at c4
  obtain ⟨M2, e2, m2, t2, f2⟩ := mopens_n (kd := 2) m1 k1 (by omega) ho (by rw [List.length_cons]; omega)
  have e := (mopd_pare h hw).trans (by rw [e2, pb_1, u1_1])
  obtain ⟨m3, f3⟩ := MK_mk (K := K) false m2 t2 (by omega) h.2.2.2.2.1 (by
    have c3 := h.2.2.2.2.2.1
    show cf + C.length + (0 + (ops.length + tot r)) + (0 + p34 ((k, ph, bg, pr, ops) :: r)) + 1 ≤ i + 1
    have e2 : tot ((k, ph, bg, pr, ops) :: r) = ops.length + tot r := rfl
    rw [e2] at c3; omega) (by rw [List.length_cons, List.length_cons]; omega)
  exact ⟨_, mstp_o h.2.2.1 (f := false) e m2.1.2.2.1, m3, mpf_tr f1 (mpf_tr f2 f3)⟩
theorem mopd_par7 (h : MK T L K b cf M i ((k, ph, bg, pr, ops) :: r) 7 C false) (hw : sg (tks T L i) 40 = true) : ∃ M', FIN 2 M M' ∧ BAD b cf M' M 5 (tks T L i).2.2.1 := by
  obtain ⟨m1, k1, f1, q1⟩ := h.nb
  exact mbad_o (x := tks T L i) h.2.2.1 f1 (Or.inl rfl) ((mopd_pare h hw).trans (by rw [mopens_7 m1 k1, pb_1, u1_1])) (by decide)
/-- a number, a fact -/
theorem mopd_cell (h : MK T L K b cf M i ((k, ph, bg, pr, ops) :: r) o C false) {s v c : Int} (hw : pcell (tks T L i) = some (s, v, c)) : ∃ M', RUN 1 M M' ∧ MK T L K b cf M' (i + 1) ((k, ph, false, pr, ops) :: r) o (C ++ [c]) true ∧ mpf b cf M' M := by
  obtain ⟨m1, k1, f1, q1⟩ := h.nb
  have tok := tks_ok T L i
  have c3 := h.2.2.2.2.2.1
  have hK := h.2.2.2.2.1.1.2
  have hiK := h.2.2.2.1
  -- from the kind on
  have fin : (1 ≤ (tks T L i).1 ∧ (tks T L i).1 ≤ 4) → ∀ s' : Int, (0 ≤ s' ∧ s' ≤ 6) → (s' = 0 → 0 ≤ up_ M 192 (r.length : Int) 0 167 6 ∧ up_ M 192 (r.length : Int) 0 167 6 ≤ 9999) → mce s' (up_ M 192 (r.length : Int) 0 167 6) = c → fX9_operand SH M 167 = fX9_operand_J375 SH (up_ M 192 (r.length : Int) 0) 167 s' → ∃ M', RUN 1 M M' ∧ MK T L K b cf M' (i + 1) ((k, ph, false, pr, ops) :: r) o (C ++ [c]) true ∧ mpf b cf M' M := by
    intro hk s' hs' hv' hc' he
    have lt := h.lt hk
    obtain ⟨M2, e2, m2, f2, g2, _⟩ := MB_add (s := s') (v := up_ M 192 (r.length : Int) 0 167 6) (c := c) m1 ⟨by omega, by omega⟩ hv' hc' (by omega)
    obtain ⟨M4, e4, m4, t4', q4, f4⟩ := MB_adv m2 (MTK_mb k1 f2) hk
    have e : fX9_operand SH M 167 = some (bi true, M4) := by
      rw [he]
      unfold fX9_operand_J375
      rw [if_neg (by omega), kd167, gd_t rfl, m1.1.2.2.1, if_neg (by decide), e2, pb_1, u1_1, e4, pb_1, u1_1]
      rfl
    obtain ⟨m5, f5⟩ := MK_mk (K := K) true m4 t4' (by omega) h.2.2.2.2.1 (by
      show cf + (C ++ [c]).length + (ops.length + tot r) + p34 ((k, ph, bg, pr, ops) :: r) + 1 ≤ i + 1
      have e2 : tot ((k, ph, bg, pr, ops) :: r) = ops.length + tot r := rfl
      rw [e2] at c3; rw [List.length_append, List.length_singleton]; omega) (by have c4 := h.2.2.2.2.2.2; rw [List.length_cons] at c4 ⊢; omega)
    exact ⟨_, mstp_o h.2.2.1 (f := true) e m4.1.2.2.1, m5, mpf_tr f1 (mpf_tr (mpf_mb f2) (mpf_tr f4 f5))⟩
  have base : ∀ hx : (tks T L i).1 ≠ 5, ((isT k && bg) = true → plain (tks T L i) = true) → sg (tks T L i) 40 = false → ow (tks T L i) 21 = false → ow (tks T L i) 22 = false → fX9_operand SH M 167 = (if up_ M 192 (r.length : Int) 0 167 3 = 2 then fX9_operand_J375 SH (up_ M 192 (r.length : Int) 0) 167 0 else if ow (tks T L i) 3 = true then fX9_operand_J375 SH (up_ M 192 (r.length : Int) 0) 167 1 else if ow (tks T L i) 1 = true then fX9_operand_J375 SH (up_ M 192 (r.length : Int) 0) 167 2 else if ow (tks T L i) 13 = true then fX9_operand_J375 SH (up_ M 192 (r.length : Int) 0) 167 3 else if ow (tks T L i) 14 = true then fX9_operand_J375 SH (up_ M 192 (r.length : Int) 0) 167 4 else if ow (tks T L i) 15 = true then fX9_operand_J375 SH (up_ M 192 (r.length : Int) 0) 167 5 else if ow (tks T L i) 16 = true then fX9_operand_J375 SH (up_ M 192 (r.length : Int) 0) 167 6 else fX9_operand_J375 SH (up_ M 192 (r.length : Int) 0) 167 (-1)) := by
    intro hx hp n1 n2 n3
    rw [mopd_171 h hx hp]
    unfold fX9_operand_J171
    rw [kd167, gd_t rfl, msgn_n k1 tok hx (c := 40) (by decide), pb_1, u1_1, bi_if, if_neg (by rw [n1]; decide), mwrd_n k1 tok hx (w := 7170414) (k := 21) (by decide) (by decide) rfl, pb_1, u1_1, bi_if, if_neg (by rw [n2]; decide), mwrd_n k1 tok hx (w := 7168376) (k := 22) (by decide) (by decide) rfl, pb_1, u1_1, bi_if, if_neg (by rw [n3]; decide), mwrd_n k1 tok hx (w := 512970880104) (k := 3) (by decide) (by decide) rfl, pb_1, u1_1, bi_if, mwrd_n k1 tok hx (w := 1918987883) (k := 1) (by decide) (by decide) rfl, pb_1, u1_1, bi_if, mwrd_n k1 tok hx (w := 478694368626) (k := 13) (by decide) (by decide) rfl, pb_1, u1_1, bi_if, mwrd_n k1 tok hx (w := 109304541834341) (k := 14) (by decide) (by decide) rfl, pb_1, u1_1, bi_if, mwrd_n k1 tok hx (w := 6578553) (k := 15) (by decide) (by decide) rfl, pb_1, u1_1, bi_if, mwrd_n k1 tok hx (w := 448545973363) (k := 16) (by decide) (by decide) rfl, pb_1, u1_1, bi_if]
  have wrd : ∀ j : Int, ow (tks T L i) j = true → j ≠ 19 → j ≠ 20 → j ≠ 21 → j ≠ 22 → ((1 ≤ (tks T L i).1 ∧ (tks T L i).1 ≤ 4) ∧ (tks T L i).1 ≠ 5 ∧ ((isT k && bg) = true → plain (tks T L i) = true) ∧ sg (tks T L i) 40 = false ∧ ow (tks T L i) 21 = false ∧ ow (tks T L i) 22 = false) ∧ ¬ up_ M 192 (r.length : Int) 0 167 3 = 2 := by
    intro j hj n1 n2 n3 n4
    have hk := ow_t.mp hj
    have e3 := (k1.2.2.2.2.2.2.2.2 hk.1).1
    refine ⟨⟨by omega, by omega, fun _ => ?_, bf (fun q => by have := sg_t.mp q; omega), bf (fun q => by have := ow_t.mp q; omega), bf (fun q => by have := ow_t.mp q; omega)⟩, by rw [e3]; decide⟩
    unfold plain
    rw [bf (fun q => by have := ow_t.mp q; omega : ¬ ow (tks T L i) 19 = true), bf (fun q => by have := sg_t.mp q; omega : ¬ sg (tks T L i) 91 = true), bf (fun q => by have := ow_t.mp q; omega : ¬ ow (tks T L i) 20 = true)]
    rfl
  unfold pcell at hw
  by_cases z : (tks T L i).1 = 2
  · rw [if_pos z] at hw
    have e3 := k1.2.2.2.2.2.2.1 z
    have vv := (tok.2.2.2.2.2.2.1 z).1
    have nw : ∀ j, ow (tks T L i) j = false := fun j => bf (fun q => by have := ow_t.mp q; omega)
    have ns : ∀ j, sg (tks T L i) j = false := fun j => bf (fun q => by have := sg_t.mp q; omega)
    have he := base (by omega) (fun _ => by unfold plain; rw [nw, ns, nw]; rfl) (ns _) (nw _) (nw _)
    rw [if_pos e3.1] at he
    have hc : (tks T L i).2.1 = c := by
      have := Option.some.inj hw
      rw [Prod.mk.injEq, Prod.mk.injEq] at this
      exact this.2.2
    refine fin (by omega) 0 (by decide) (fun _ => by rw [e3.2]; exact vv) ?_ he
    rw [e3.2]
    unfold mce
    rw [if_pos rfl, hc]
  · rw [if_neg z] at hw
    have go : ∀ j s' : Int, ow (tks T L i) j = true → j ≠ 19 → j ≠ 20 → j ≠ 21 → j ≠ 22 → (1 ≤ s' ∧ s' ≤ 6) → c = -s' → (∀ hx hp n1 n2 n3, base hx hp n1 n2 n3 = base hx hp n1 n2 n3) → (fX9_operand SH M 167 = fX9_operand_J375 SH (up_ M 192 (r.length : Int) 0) 167 s') → ∃ M', RUN 1 M M' ∧ MK T L K b cf M' (i + 1) ((k, ph, false, pr, ops) :: r) o (C ++ [c]) true ∧ mpf b cf M' M := by
      intro j s' hj n1 n2 n3 n4 hs' hc _ he
      obtain ⟨⟨hk, _⟩, _⟩ := wrd j hj n1 n2 n3 n4
      refine fin hk s' (by omega) (fun q => by omega) ?_ he
      unfold mce
      rw [if_neg (by omega), if_pos (by omega), hc]
    have cc : ∀ s1 v1 c1 : Int, some (s1, v1, c1) = some (s, v, c) → c = c1 := fun s1 v1 c1 q => by
      have := Option.some.inj q
      rw [Prod.mk.injEq, Prod.mk.injEq] at this
      exact this.2.2.symm
    by_cases z3 : ow (tks T L i) 3 = true
    · rw [if_pos z3] at hw
      obtain ⟨⟨_, x1, x2, x3, x4, x5⟩, x6⟩ := wrd 3 z3 (by decide) (by decide) (by decide) (by decide)
      have he := base x1 x2 x3 x4 x5
      rw [if_neg x6, if_pos z3] at he
      exact go 3 1 z3 (by decide) (by decide) (by decide) (by decide) (by decide) (cc _ _ _ hw) (fun _ _ _ _ _ => rfl) he
    · rw [if_neg z3] at hw
      by_cases z1 : ow (tks T L i) 1 = true
      · rw [if_pos z1] at hw
        obtain ⟨⟨_, x1, x2, x3, x4, x5⟩, x6⟩ := wrd 1 z1 (by decide) (by decide) (by decide) (by decide)
        have he := base x1 x2 x3 x4 x5
        rw [if_neg x6, if_neg z3, if_pos z1] at he
        exact go 1 2 z1 (by decide) (by decide) (by decide) (by decide) (by decide) (cc _ _ _ hw) (fun _ _ _ _ _ => rfl) he
      · rw [if_neg z1] at hw
        by_cases za : ow (tks T L i) 13 = true
        · rw [if_pos za] at hw
          obtain ⟨⟨_, x1, x2, x3, x4, x5⟩, x6⟩ := wrd 13 za (by decide) (by decide) (by decide) (by decide)
          have he := base x1 x2 x3 x4 x5
          rw [if_neg x6, if_neg z3, if_neg z1, if_pos za] at he
          exact go 13 3 za (by decide) (by decide) (by decide) (by decide) (by decide) (cc _ _ _ hw) (fun _ _ _ _ _ => rfl) he
        · rw [if_neg za] at hw
          by_cases zb : ow (tks T L i) 14 = true
          · rw [if_pos zb] at hw
            obtain ⟨⟨_, x1, x2, x3, x4, x5⟩, x6⟩ := wrd 14 zb (by decide) (by decide) (by decide) (by decide)
            have he := base x1 x2 x3 x4 x5
            rw [if_neg x6, if_neg z3, if_neg z1, if_neg za, if_pos zb] at he
            exact go 14 4 zb (by decide) (by decide) (by decide) (by decide) (by decide) (cc _ _ _ hw) (fun _ _ _ _ _ => rfl) he
          · rw [if_neg zb] at hw
            by_cases zc : ow (tks T L i) 15 = true
            · rw [if_pos zc] at hw
              obtain ⟨⟨_, x1, x2, x3, x4, x5⟩, x6⟩ := wrd 15 zc (by decide) (by decide) (by decide) (by decide)
              have he := base x1 x2 x3 x4 x5
              rw [if_neg x6, if_neg z3, if_neg z1, if_neg za, if_neg zb, if_pos zc] at he
              exact go 15 5 zc (by decide) (by decide) (by decide) (by decide) (by decide) (cc _ _ _ hw) (fun _ _ _ _ _ => rfl) he
            · rw [if_neg zc] at hw
              by_cases zd : ow (tks T L i) 16 = true
              · rw [if_pos zd] at hw
                obtain ⟨⟨_, x1, x2, x3, x4, x5⟩, x6⟩ := wrd 16 zd (by decide) (by decide) (by decide) (by decide)
                have he := base x1 x2 x3 x4 x5
                rw [if_neg x6, if_neg z3, if_neg z1, if_neg za, if_neg zb, if_neg zc, if_pos zd] at he
                exact go 16 6 zd (by decide) (by decide) (by decide) (by decide) (by decide) (cc _ _ _ hw) (fun _ _ _ _ _ => rfl) he
              · rw [if_neg zd] at hw
                exact absurd hw (by simp)
end
end PMO2
