/-! the model goes on behind a part -/
section PMGO
variable {T : Int → Int} {L K : Nat} {b : Int} {cf : Nat}
def ar (x : Tk) : Bool := sg x 43 || sg x 45 || sg x 42 || sg x 47 || sg x 37
def cm (x : Tk) : Bool := sg x 60 || sg x 62 || sg x 61
def opA (x : Tk) : Int := if sg x 43 = true then 10 else if sg x 45 = true then 11 else if sg x 42 = true then 12 else if sg x 47 = true then 13 else 14
def leA (x : Tk) : Int := if (sg x 43 || sg x 45) = true then 5 else 6
def opC (x : Tk) : Int := if sg x 60 = true then 17 else if sg x 62 = true then 18 else 19
theorem ar_k {x : Tk} (h : ar x = true) : x.1 = 1 ∧ (x.2.1 = 43 ∨ x.2.1 = 45 ∨ x.2.1 = 42 ∨ x.2.1 = 47 ∨ x.2.1 = 37) := by
  unfold ar at h
  rw [Bool.or_eq_true, Bool.or_eq_true, Bool.or_eq_true, Bool.or_eq_true, sg_t, sg_t, sg_t, sg_t, sg_t] at h
  omega
theorem cm_k {x : Tk} (h : cm x = true) : x.1 = 1 ∧ (x.2.1 = 60 ∨ x.2.1 = 62 ∨ x.2.1 = 61) := by
  unfold cm at h
  rw [Bool.or_eq_true, Bool.or_eq_true, sg_t, sg_t, sg_t] at h
  omega
section
variable {M : AwM} {i : Nat} {k ph pr : Int} {bg : Bool} {ops ops0 X : List Int} {r : List Fr} {o : Nat} {C : List Int}
theorem mgo_5 (h : MK T L K b cf M i ((k, ph, bg, pr, ops) :: r) o C true) (hx : (tks T L i).1 = 5) : ∃ M', FIN 2 M M' ∧ BAD b cf M' M 1 (tks T L i).2.2.2.1 := by
  have e : fX9_goesOn SH M 167 = some (0, up_ (up_ M 167 8 1) 167 9 ((tks T L i).2.2.2.1 : Int)) := by
    unfold fX9_goesOn
    rw [kd167, gd_t rfl, mlex_5 h.tk hx h.h8, pb_1, u1_1, if_pos (by rw [up_oi (by decide), up_at]; decide)]
  refine ⟨_, mfin_g h.2.2.1 e (Or.inl rfl), ?_, ?_, ?_⟩
  · rw [up_oi (by decide), up_at]
  · rw [up_at]
  · exact mpf_tr (mpf_up (by omega)) (mpf_up (by omega))
theorem mgo_0 {fl : Bool} (h : MK T L K b cf M i ((k, ph, bg, pr, ops) :: r) o C fl) (hx : (tks T L i).1 ≠ 5) : fX9_goesOn SH M 167 = if ph < 2 ∧ ar (tks T L i) = true then fX9_goesOn_J87 SH M 167 else fX9_goesOn_J188 SH M 167 (r.length : Int) k (bi (isT k)) := by
  obtain ⟨t1, t2, t3, t4, t5, _⟩ := h.top
  have l := h.lay
  have tok := tks_ok T L i
  unfold fX9_goesOn ar
  rw [kd167, gd_t rfl, mlex_n h.tk hx, pb_1, u1_1, h.h8, if_neg (by decide), t1, ly167_37 l, kd190, ga_t (by omega) (by omega), t2, mist_n, pb_1, u1_1, ly167_38 l, kd191, ga_t (by omega) (by omega), t3, msgn_n h.tk tok hx (c := 43) (by decide), pb_1, u1_1, bi_if, msgn_n h.tk tok hx (c := 45) (by decide), pb_1, u1_1, bi_if, msgn_n h.tk tok hx (c := 42) (by decide), pb_1, u1_1, bi_if, msgn_n h.tk tok hx (c := 47) (by decide), pb_1, u1_1, bi_if, msgn_n h.tk tok hx (c := 37) (by decide), pb_1, u1_1, bi_if]
  by_cases z : ph < 2
  · rw [if_pos z]
    cases sg (tks T L i) 43
    · rw [if_neg (by decide)]
      cases sg (tks T L i) 45
      · rw [if_neg (by decide)]
        cases sg (tks T L i) 42
        · rw [if_neg (by decide)]
          cases sg (tks T L i) 47
          · rw [if_neg (by decide)]
            cases sg (tks T L i) 37
            · rw [if_neg (by decide), if_neg (fun q => absurd q.2 (by decide))]
            · rw [if_pos rfl, if_pos ⟨z, rfl⟩]
          · rw [if_pos rfl, if_pos ⟨z, rfl⟩]
        · rw [if_pos rfl, if_pos ⟨z, rfl⟩]
      · rw [if_pos rfl, if_pos ⟨z, rfl⟩]
    · rw [if_pos rfl, if_pos ⟨z, rfl⟩]
  · rw [if_neg z, if_neg (fun q => z q.1)]
/-- + - * / % -/
theorem mgo_ar (h : MK T L K b cf M i ((k, ph, bg, pr, X ++ ops0) :: r) (o + nots X) C true) (hp : ph < 2) (hx : ar (tks T L i) = true) (h0 : ∀ x ∈ ops0.head?, rk x < leA (tks T L i)) (hX : ∀ x ∈ X, leA (tks T L i) ≤ rk x) (ht : ops0.length + tot r + 1 ≤ 60) (hf : ((k, ph, bg, pr, ops0) :: r).length ≤ o + 1) : ∃ M', RUN 1 M M' ∧ MK T L K b cf M' (i + 1) ((k, ph, bg, pr, opA (tks T L i) :: ops0) :: r) o (C ++ X.map cel) false ∧ mpf b cf M' M := by
  have hk := ar_k hx
  have h5 : (tks T L i).1 ≠ 5 := by omega
  have lt := h.lt (by omega)
  have tok := tks_ok T L i
  have c3 := h.2.2.2.2.2.1
  have e2 : tot ((k, ph, bg, pr, X ++ ops0) :: r) = (X ++ ops0).length + tot r := rfl
  rw [e2, List.length_append] at c3
  have hK := h.2.2.2.2.1.1.2
  have hiK := h.2.2.2.1
  obtain ⟨M2, j2, m2, f2, q2, _⟩ := MB_joins h.mb h0 hX (by omega)
  have k2 := MTK_mb h.tk f2
  have hop : 10 ≤ opA (tks T L i) ∧ opA (tks T L i) ≤ 22 := by
    unfold opA
    split
    · decide
    · split
      · decide
      · split
        · decide
        · split <;> decide
  obtain ⟨M3, j3, m3, f3⟩ := MB_hold (op := opA (tks T L i)) m2 hop ht
  obtain ⟨M4, j4, m4, t4, q4, f4⟩ := MB_adv m3 (MTK_mb k2 f3) (by omega)
  have e : fX9_goesOn SH M 167 = some (1, up_ M4 167 46 0) := by
    rw [mgo_0 h h5, if_pos ⟨hp, hx⟩]
    unfold fX9_goesOn_J87 fX9_goesOn_J106
    rw [kd167, gd_t rfl, msgn_n h.tk tok h5 (c := 43) (by decide), pb_1, u1_1, bi_if, msgn_n h.tk tok h5 (c := 45) (by decide), pb_1, u1_1, bi_if]
    have pre : (if sg (tks T L i) 43 = true then fX9_goesOn_J112 SH M 167 167 5 else if sg (tks T L i) 45 = true then fX9_goesOn_J112 SH M 167 167 5 else fX9_goesOn_J112 SH M 167 167 6) = fX9_goesOn_J112 SH M 167 167 (leA (tks T L i)) := by
      unfold leA
      cases sg (tks T L i) 43
      · rw [if_neg (by decide)]
        cases sg (tks T L i) 45
        · rfl
        · rfl
      · rfl
    rw [pre]
    unfold fX9_goesOn_J112
    rw [kd167, gd_t rfl, j2, pb_1, u1_1, gd_t rfl, msgn_n k2 tok h5 (c := 43) (by decide), pb_1, u1_1, bi_if, msgn_n k2 tok h5 (c := 45) (by decide), pb_1, u1_1, bi_if, msgn_n k2 tok h5 (c := 42) (by decide), pb_1, u1_1, bi_if, msgn_n k2 tok h5 (c := 47) (by decide), pb_1, u1_1, bi_if]
    have pre2 : (if sg (tks T L i) 43 = true then fX9_goesOn_J174 SH M2 167 167 10 else if sg (tks T L i) 45 = true then fX9_goesOn_J174 SH M2 167 167 11 else if sg (tks T L i) 42 = true then fX9_goesOn_J174 SH M2 167 167 12 else if sg (tks T L i) 47 = true then fX9_goesOn_J174 SH M2 167 167 13 else fX9_goesOn_J174 SH M2 167 167 14) = fX9_goesOn_J174 SH M2 167 167 (opA (tks T L i)) := by
      unfold opA
      split
      · rfl
      · split
        · rfl
        · split
          · rfl
          · split <;> rfl
    rw [pre2]
    unfold fX9_goesOn_J174
    rw [kd167, gd_t rfl, j3, pb_1, u1_1, gd_t rfl, j4, pb_1, u1_1, bd_1]
  obtain ⟨m5, f5⟩ := MK_mk (K := K) false m4 t4 (by omega) h.2.2.2.2.1 (by
    show cf + (C ++ X.map cel).length + (ops0.length + 1 + tot r) + p34 ((k, ph, bg, pr, X ++ ops0) :: r) + 1 ≤ i + 1
    rw [List.length_append, List.length_map]; omega) hf
  exact ⟨_, mstp_g h.2.2.1 e m5.h8, m5, mpf_tr (mpf_mb f2) (mpf_tr (mpf_mb f3) (mpf_tr f4 f5))⟩
theorem arF {x : Tk} (h : ¬ (x.1 = 1 ∧ (x.2.1 = 43 ∨ x.2.1 = 45 ∨ x.2.1 = 42 ∨ x.2.1 = 47 ∨ x.2.1 = 37))) : ¬ ar x = true := fun q => h (ar_k q)
/-- < > = -/
theorem mgo_cmp (h : MK T L K b cf M i ((k, 0, bg, pr, X ++ ops0) :: r) (o + nots X) C true) (hT : isT k = true) (hx : cm (tks T L i) = true) (h0 : ∀ x ∈ ops0.head?, rk x < 5) (hX : ∀ x ∈ X, 5 ≤ rk x) (ht : ops0.length + tot r + 1 ≤ 60) (hf : ((k, (0 : Int), bg, pr, ops0) :: r).length ≤ o + 1) : ∃ M', RUN 1 M M' ∧ MK T L K b cf M' (i + 1) ((k, 1, bg, pr, opC (tks T L i) :: ops0) :: r) o (C ++ X.map cel) false ∧ mpf b cf M' M := by
  have hk := cm_k hx
  have h5 : (tks T L i).1 ≠ 5 := by omega
  have lt := h.lt (by omega)
  have tok := tks_ok T L i
  obtain ⟨t1, t2, t3, t4, t5, _⟩ := h.top
  have c3 := h.2.2.2.2.2.1
  have e2 : tot ((k, (0 : Int), bg, pr, X ++ ops0) :: r) = (X ++ ops0).length + tot r := rfl
  rw [e2, List.length_append] at c3
  have hK := h.2.2.2.2.1.1.2
  have hiK := h.2.2.2.1
  obtain ⟨M2, j2, m2, f2, q2, g2⟩ := MB_joins h.mb h0 hX (by omega)
  have k2 := MTK_mb h.tk f2
  have hop : 10 ≤ opC (tks T L i) ∧ opC (tks T L i) ≤ 22 := by
    unfold opC
    split
    · decide
    · split <;> decide
  obtain ⟨M3, j3, m3, f3⟩ := MB_hold (op := opC (tks T L i)) m2 hop ht
  obtain ⟨m4, f4⟩ := MB_top (a := 191) (v := 1) (k' := k) (ph' := 1) (bg' := bg) (pr' := pr) m3 (Or.inr (Or.inl ⟨rfl, rfl, rfl, rfl, rfl⟩))
  obtain ⟨M5, j5, m5, t5', q5, f5⟩ := MB_adv m4 (MTK_mb (MTK_mb k2 f3) f4) (by omega)
  have e : fX9_goesOn SH M 167 = some (1, up_ M5 167 46 0) := by
    rw [mgo_0 h h5, if_neg (fun q => arF (by omega) q.2)]
    unfold fX9_goesOn_J188
    rw [hT, show bi true = 1 from rfl, if_neg (show ¬ (1 : Int) = 0 by decide), kd167, gd_t rfl, ly167_38 h.lay, kd191, ga_t (by omega) (by omega), t3, if_pos rfl, msgn_n h.tk tok h5 (c := 60) (by decide), pb_1, u1_1, bi_if, msgn_n h.tk tok h5 (c := 62) (by decide), pb_1, u1_1, bi_if, msgn_n h.tk tok h5 (c := 61) (by decide), pb_1, u1_1, bi_if]
    have pre : ∀ Y : Option (Int × AwM), (if sg (tks T L i) 60 = true then fX9_goesOn_J228 SH M 167 (r.length : Int) else if sg (tks T L i) 62 = true then fX9_goesOn_J228 SH M 167 (r.length : Int) else if sg (tks T L i) 61 = true then fX9_goesOn_J228 SH M 167 (r.length : Int) else Y) = fX9_goesOn_J228 SH M 167 (r.length : Int) := fun Y => by
      unfold cm at hx
      cases a : sg (tks T L i) 60
      · rw [if_neg (by decide)]
        cases c : sg (tks T L i) 62
        · rw [if_neg (by decide)]
          rw [a, c] at hx
          rw [if_pos (by simpa using hx)]
        · rfl
      · rfl
    rw [pre]
    unfold fX9_goesOn_J228
    rw [kd167, gd_t rfl, j2, pb_1, u1_1, msgn_n k2 tok h5 (c := 60) (by decide), pb_1, u1_1, bi_if, msgn_n k2 tok h5 (c := 62) (by decide), pb_1, u1_1, bi_if]
    have pre2 : (if sg (tks T L i) 60 = true then fX9_goesOn_J264 SH M2 167 (r.length : Int) 167 17 else if sg (tks T L i) 62 = true then fX9_goesOn_J264 SH M2 167 (r.length : Int) 167 18 else fX9_goesOn_J264 SH M2 167 (r.length : Int) 167 19) = fX9_goesOn_J264 SH M2 167 (r.length : Int) 167 (opC (tks T L i)) := by
      unfold opC
      split
      · rfl
      · split <;> rfl
    rw [pre2]
    unfold fX9_goesOn_J264
    rw [kd167, gd_t rfl, j3, pb_1, u1_1, gd_t rfl, ly167_38 m3.1.1, kd191, ga_t (by omega) (by omega), bd_1, j5, pb_1, u1_1, bd_1]
  obtain ⟨m6, f6⟩ := MK_mk (K := K) false m5 t5' (by omega) h.2.2.2.2.1 (by
    show cf + (C ++ X.map cel).length + (ops0.length + 1 + tot r) + p34 ((k, (0 : Int), bg, pr, X ++ ops0) :: r) + 1 ≤ i + 1
    rw [List.length_append, List.length_map]; omega) hf
  exact ⟨_, mstp_g h.2.2.1 e m6.h8, m6, mpf_tr (mpf_mb f2) (mpf_tr (mpf_mb f3) (mpf_tr (mpf_mb f4) (mpf_tr f5 f6)))⟩
/-- and, or -/
theorem mgo_ao (h : MK T L K b cf M i ((k, ph, bg, pr, X ++ ops0) :: r) (o + nots X) C true) (hT : isT k = true) (hp : ph ≠ 0) {le op : Int} (hx : (ow (tks T L i) 18 = true ∧ le = 2 ∧ op = 20) ∨ (ow (tks T L i) 17 = true ∧ le = 1 ∧ op = 21)) (h0 : ∀ x ∈ ops0.head?, rk x < le) (hX : ∀ x ∈ X, le ≤ rk x) (ht : ops0.length + tot r + 1 ≤ 60) (hf : ((k, ph, bg, pr, ops0) :: r).length ≤ o + 1) : ∃ M', RUN 1 M M' ∧ MK T L K b cf M' (i + 1) ((k, 0, true, pr, op :: ops0) :: r) o (C ++ X.map cel) false ∧ mpf b cf M' M := by
  have hk : (tks T L i).1 = 4 := by
    rcases hx with ⟨q, _⟩ | ⟨q, _⟩ <;> exact (ow_t.mp q).1
  have h5 : (tks T L i).1 ≠ 5 := by omega
  have lt := h.lt (by omega)
  have tok := tks_ok T L i
  obtain ⟨t1, t2, t3, t4, t5, _⟩ := h.top
  have c3 := h.2.2.2.2.2.1
  have e2 : tot ((k, ph, bg, pr, X ++ ops0) :: r) = (X ++ ops0).length + tot r := rfl
  rw [e2, List.length_append] at c3
  have hK := h.2.2.2.2.1.1.2
  have hiK := h.2.2.2.1
  obtain ⟨M2, j2, m2, f2, q2, g2⟩ := MB_joins h.mb h0 hX (by omega)
  have k2 := MTK_mb h.tk f2
  obtain ⟨M3, j3, m3, f3⟩ := MB_hold (op := op) m2 (by omega) ht
  obtain ⟨m4, f4⟩ := MB_top (a := 191) (v := 0) (k' := k) (ph' := 0) (bg' := bg) (pr' := pr) m3 (Or.inr (Or.inl ⟨rfl, rfl, rfl, rfl, rfl⟩))
  obtain ⟨m5, f5⟩ := MB_top (a := 192) (v := 1) (k' := k) (ph' := 0) (bg' := true) (pr' := pr) m4 (Or.inr (Or.inr ⟨rfl, rfl, rfl, rfl, rfl⟩))
  obtain ⟨M6, j6, m6, t6, q6, f6⟩ := MB_adv m5 (MTK_mb (MTK_mb (MTK_mb k2 f3) f4) f5) (by omega)
  have e : fX9_goesOn SH M 167 = some (1, up_ M6 167 46 0) := by
    rw [mgo_0 h h5, if_neg (fun q => arF (by omega) q.2)]
    unfold fX9_goesOn_J188 fX9_goesOn_J285 fX9_goesOn_J309 fX9_goesOn_J327
    rw [hT, show bi true = 1 from rfl, if_neg (show ¬ (1 : Int) = 0 by decide), kd167, gd_t rfl, ly167_38 h.lay, kd191, ga_t (by omega) (by omega), t3, if_neg hp, if_neg (show ¬ (1 : Int) = 0 by decide), mwrd_n h.tk tok h5 (w := 6385252) (k := 18) (by decide) (by decide) rfl, pb_1, u1_1, bi_if, mwrd_n h.tk tok h5 (w := 28530) (k := 17) (by decide) (by decide) rfl, pb_1, u1_1, bi_if, gd_t rfl, ga_t (by omega) (by omega), if_neg hp, gd_t rfl, h.h8, if_neg (show ¬ (0 : Int) < 0 by decide), pb_1, u1_1, bi_if]
    have j356 : ∀ v4 : Int, (v4 = 0 ∧ op = 21 ∨ v4 ≠ 0 ∧ op = 20) → fX9_goesOn_J356 SH M 167 (r.length : Int) v4 167 le = some (1, up_ M6 167 46 0) := fun v4 hv => by
      unfold fX9_goesOn_J356
      have p : (if v4 = 0 then fX9_goesOn_J372 SH M2 167 (r.length : Int) 167 21 else fX9_goesOn_J372 SH M2 167 (r.length : Int) 167 20) = fX9_goesOn_J372 SH M2 167 (r.length : Int) 167 op := by
        rcases hv with ⟨a, c⟩ | ⟨a, c⟩
        · rw [if_pos a, c]
        · rw [if_neg a, c]
      rw [kd167, gd_t rfl, j2, pb_1, u1_1, p]
      unfold fX9_goesOn_J372
      rw [kd167, gd_t rfl, j3, pb_1, u1_1, gd_t rfl, ly167_38 m3.1.1, kd191, ga_t (by omega) (by omega), bd_1, ly167_39 m4.1.1, kd192, gd_t (by refine ⟨rfl, by omega, ?_⟩; show _ < (20 : Int); omega), bd_1, j6, pb_1, u1_1, bd_1]
    rcases hx with ⟨q, rfl, rfl⟩ | ⟨q, rfl, rfl⟩
    · rw [if_pos q, if_pos q, q]
      exact j356 (bi true) (Or.inr ⟨by decide, rfl⟩)
    · have n18 : ow (tks T L i) 18 = false := bf (fun w => by have := ow_t.mp w; have := ow_t.mp q; omega)
      rw [n18, if_neg (show ¬ (false : Bool) = true by decide), if_pos q, if_neg (show ¬ (false : Bool) = true by decide)]
      exact j356 (bi false) (Or.inl ⟨rfl, rfl⟩)
  obtain ⟨m7, f7⟩ := MK_mk (K := K) false m6 t6 (by omega) h.2.2.2.2.1 (by
    show cf + (C ++ X.map cel).length + (ops0.length + 1 + tot r) + p34 ((k, ph, bg, pr, X ++ ops0) :: r) + 1 ≤ i + 1
    rw [List.length_append, List.length_map]; omega) hf
  exact ⟨_, mstp_g h.2.2.1 e m7.h8, m7, mpf_tr (mpf_mb f2) (mpf_tr (mpf_mb f3) (mpf_tr (mpf_mb f4) (mpf_tr (mpf_mb f5) (mpf_tr f6 f7))))⟩
end
end PMGO
