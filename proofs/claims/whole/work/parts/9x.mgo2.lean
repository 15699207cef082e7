/-! the model goes on behind a part: commas, brackets, the end, what can't be -/
section PMG2
variable {T : Int → Int} {L K : Nat} {b : Int} {cf : Nat}
section
variable {M : AwM} {i : Nat} {k ph pr : Int} {bg : Bool} {ops ops0 X : List Int} {r : List Fr} {o : Nat} {C : List Int}
/-- to the end of a frame -/
theorem mgo_422 (h : MK T L K b cf M i ((k, ph, bg, pr, ops) :: r) o C true) (h5 : (tks T L i).1 ≠ 5) (ha : ¬ (ph < 2 ∧ ar (tks T L i) = true)) (hT : isT k = true → ph ≠ 0 ∧ ow (tks T L i) 18 = false ∧ ow (tks T L i) 17 = false) : fX9_goesOn SH M 167 = fX9_goesOn_J422 SH M 167 (r.length : Int) k := by
  obtain ⟨t1, t2, t3, t4, t5, _⟩ := h.top
  have tok := tks_ok T L i
  rw [mgo_0 h h5, if_neg ha]
  unfold fX9_goesOn_J188 fX9_goesOn_J285 fX9_goesOn_J400
  rw [bi_if]
  by_cases z : isT k = true
  · obtain ⟨p, n1, n2⟩ := hT z
    rw [if_pos z, kd167, gd_t rfl, ly167_38 h.lay, kd191, ga_t (by omega) (by omega), t3, if_neg p, z, show bi true = 1 from rfl, if_neg (show ¬ (1 : Int) = 0 by decide), gd_t rfl, mwrd_n h.tk tok h5 (w := 6385252) (k := 18) (by decide) (by decide) rfl, pb_1, u1_1, bi_if, n1, if_neg (show ¬ (false : Bool) = true by decide), mwrd_n h.tk tok h5 (w := 28530) (k := 17) (by decide) (by decide) rfl, pb_1, u1_1, bi_if, n2, if_neg (show ¬ (false : Bool) = true by decide), if_neg (show ¬ (1 : Int) = 0 by decide), gd_t rfl, ga_t (by omega) (by omega), if_neg p]
  · rw [if_neg z, bf z, show bi false = 0 from rfl, if_pos (show (0 : Int) = 0 from rfl), if_pos (show (0 : Int) = 0 from rfl)]
theorem mbad_g {kd : Int} {p : Nat} {v : Int} {M1 : AwM} (h46 : M 167 46 = bi true) (f1 : mpf b cf M1 M) (e : fX9_goesOn SH M 167 = some (v, up_ (up_ M1 167 8 kd) 167 9 (p : Int))) (hk : 0 < kd) : ∃ M', FIN 2 M M' ∧ BAD b cf M' M kd p := by
  refine ⟨_, mfin_g h46 e (Or.inr (by rw [up_oi (by decide), up_at]; exact hk)), ?_, ?_, ?_⟩
  · rw [up_oi (by decide), up_at]
  · rw [up_at]
  · exact mpf_tr f1 (mpf_tr (mpf_up (by omega)) (mpf_up (by omega)))
/-- a fault's memory -/
theorem p8_1 {M : AwM} {p : Int} : 0 < up_ (up_ M 167 8 1) 167 9 p 167 8 := by rw [up_oi (by decide), up_at]; decide
theorem isS_any {M : AwM} {c : Int} : ∃ v, fX9_isSign SH M 167 c = some v := by
  unfold fX9_isSign
  rw [kd167, gd_t rfl]
  by_cases q : M 167 3 = 3
  · rw [if_pos q]
    by_cases q' : M 167 6 = c
    · rw [if_pos q']; exact ⟨_, rfl⟩
    · rw [if_neg q']; exact ⟨_, rfl⟩
  · rw [if_neg q]; exact ⟨_, rfl⟩
theorem j422_f {f : Int} {M1 : AwM} (h8 : 0 < M1 167 8) : ∃ v, fX9_goesOn_J422 SH M1 167 f k = some (v, M1) := by
  have j509 : ∀ s1 : Int, ∃ v, fX9_goesOn_J509 SH M1 167 f k 167 s1 = some (v, M1) := fun s1 => by
    obtain ⟨v, ev⟩ := isS_any (M := M1) (c := s1)
    unfold fX9_goesOn_J509 fX9_goesOn_J524
    rw [kd167, gd_t rfl, ev, pb_1, u1_1]
    by_cases q : v = 0
    · rw [if_pos q, gd_t rfl, mblm_f h8, pb_1, u1_1, gd_t rfl, if_pos h8]; exact ⟨_, rfl⟩
    · rw [if_neg q, gd_t rfl, if_pos h8]; exact ⟨_, rfl⟩
  unfold fX9_goesOn_J422
  by_cases z : k < 2
  · rw [if_pos z, kd167, gd_t rfl, if_neg (by omega)]; exact ⟨_, rfl⟩
  · rw [if_neg z]
    by_cases z3 : k = 3
    · obtain ⟨v, ev⟩ := isS_any (M := M1) (c := 44)
      rw [if_pos z3, kd167, gd_t rfl, ev, pb_1, u1_1]
      unfold fX9_goesOn_J464
      rw [kd167]
      by_cases q : v = 0
      · rw [if_pos q, mblm_f h8, pb_1, u1_1, gd_t rfl, if_pos h8]; exact ⟨_, rfl⟩
      · rw [if_neg q, gd_t rfl, if_pos h8]; exact ⟨_, rfl⟩
    · rw [if_neg z3]
      by_cases z5 : k = 5
      · rw [if_pos z5]; exact j509 93
      · rw [if_neg z5]; exact j509 41
/-- a test without < > = -/
theorem mgo_ph0 (h : MK T L K b cf M i ((k, 0, bg, pr, ops) :: r) o C true) (hT : isT k = true) (ha : ar (tks T L i) = false) (hc : cm (tks T L i) = false) : ∃ M', FIN 2 M M' ∧ BAD b cf M' M 1 (tks T L i).2.2.2.1 := by
  by_cases h5 : (tks T L i).1 = 5
  · exact mgo_5 h h5
  · obtain ⟨t1, t2, t3, t4, t5, _⟩ := h.top
    have tok := tks_ok T L i
    have n : (sg (tks T L i) 60 = false ∧ sg (tks T L i) 62 = false) ∧ sg (tks T L i) 61 = false := by
      unfold cm at hc
      rw [Bool.or_eq_false_iff, Bool.or_eq_false_iff] at hc
      exact hc
    have e0 : ∃ v, fX9_goesOn SH M 167 = some (v, up_ (up_ M 167 8 1) 167 9 ((tks T L i).2.2.2.1 : Int)) := by
      rw [mgo_0 h h5, if_neg (fun q => by rw [ha] at q; exact absurd q.2 (by decide))]
      unfold fX9_goesOn_J188 fX9_goesOn_J285
      rw [hT, show bi true = 1 from rfl, if_neg (show ¬ (1 : Int) = 0 by decide), kd167, gd_t rfl, ly167_38 h.lay, kd191, ga_t (by omega) (by omega), t3, if_pos rfl, msgn_n h.tk tok h5 (c := 60) (by decide), pb_1, u1_1, bi_if, n.1.1, if_neg (show ¬ (false : Bool) = true by decide), msgn_n h.tk tok h5 (c := 62) (by decide), pb_1, u1_1, bi_if, n.1.2, if_neg (show ¬ (false : Bool) = true by decide), msgn_n h.tk tok h5 (c := 61) (by decide), pb_1, u1_1, bi_if, n.2, if_neg (show ¬ (false : Bool) = true by decide), if_neg (show ¬ (1 : Int) = 0 by decide), mwrd_n h.tk tok h5 (w := 6385252) (k := 18) (by decide) (by decide) rfl, pb_1, u1_1, bi_if, mwrd_n h.tk tok h5 (w := 28530) (k := 17) (by decide) (by decide) rfl, pb_1, u1_1, bi_if]
      have j309 : fX9_goesOn_J309 SH M 167 (r.length : Int) = some (0, up_ (up_ M 167 8 1) 167 9 ((tks T L i).2.2.2.1 : Int)) := by
        unfold fX9_goesOn_J309 fX9_goesOn_J327
        rw [kd167, gd_t rfl, ly167_38 h.lay, kd191, ga_t (by omega) (by omega), t3, if_pos rfl, h.tk.1, mblm_n h.h8, pb_1, u1_1, gd_t rfl, if_pos p8_1, tkP_s T L i h5]
      by_cases q1 : ow (tks T L i) 18 = true
      · rw [if_pos q1]; exact ⟨_, j309⟩
      · rw [if_neg q1]
        by_cases q2 : ow (tks T L i) 17 = true
        · rw [if_pos q2]; exact ⟨_, j309⟩
        · rw [if_neg q2]
          unfold fX9_goesOn_J400
          rw [if_neg (show ¬ (1 : Int) = 0 by decide), kd167, gd_t rfl, ly167_38 h.lay, kd191, ga_t (by omega) (by omega), t3, if_pos rfl, h.tk.1, mblm_n h.h8, pb_1, u1_1, tkP_s T L i h5]
          exact j422_f p8_1
    obtain ⟨v, e⟩ := e0
    exact mbad_g h.2.2.1 mpf_rf e (by decide)
/-- , -/
theorem mgo_com (h : MK T L K b cf M i ((3, 0, bg, pr, X) :: r) (o + nots X) C true) (hx : sg (tks T L i) 44 = true) (hX : ∀ x ∈ X, 1 ≤ rk x) (hf : ((4, (0 : Int), bg, pr, ([] : List Int)) :: r).length ≤ o + 1) : ∃ M', RUN 1 M M' ∧ MK T L K b cf M' (i + 1) ((4, 0, bg, pr, []) :: r) o (C ++ X.map cel) false ∧ mpf b cf M' M := by
  have hk := sg_t.mp hx
  have h5 : (tks T L i).1 ≠ 5 := by omega
  have lt := h.lt (by omega)
  have tok := tks_ok T L i
  obtain ⟨t1, t2, t3, t4, t5, _⟩ := h.top
  have c3 := h.2.2.2.2.2.1
  have e2 : tot ((3, (0 : Int), bg, pr, X) :: r) = X.length + tot r := rfl
  rw [e2] at c3
  have hK := h.2.2.2.2.1.1.2
  have hiK := h.2.2.2.1
  have hm := h.mb
  rw [← List.append_nil X] at hm
  obtain ⟨M2, j2, m2, f2, q2, g2⟩ := MB_joins (ops0 := []) (by rw [List.append_nil] at hm; rw [List.append_nil]; exact hm) (le := 1) (fun x hx => by simp at hx) hX (by omega)
  have k2 := MTK_mb h.tk f2
  obtain ⟨m3, f3⟩ := MB_top (a := 190) (v := 4) (k' := 4) (ph' := 0) (bg' := bg) (pr' := pr) m2 (Or.inl ⟨rfl, rfl, rfl, rfl, rfl⟩)
  obtain ⟨M4, j4, m4, t4', q4, f4⟩ := MB_adv m3 (MTK_mb k2 f3) (by omega)
  have e : fX9_goesOn SH M 167 = some (1, up_ M4 167 46 0) := by
    rw [mgo_422 h h5 (fun q => arF (by omega) q.2) (fun q => absurd q (by decide))]
    unfold fX9_goesOn_J422 fX9_goesOn_J464
    rw [if_neg (by decide), if_pos rfl, kd167, gd_t rfl, msgn_n h.tk tok h5 (c := 44) (by decide), pb_1, u1_1, bi_if, if_pos hx, gd_t rfl, h.h8, if_neg (by decide), j2, pb_1, u1_1, ly167_37 m2.1.1, kd190, ga_t (by omega) (by omega), bd_1, j4, pb_1, u1_1, bd_1]
  obtain ⟨m5, f5⟩ := MK_mk (K := K) false m4 t4' (by omega) h.2.2.2.2.1 (by
    have c3' := h.2.2.2.2.2.1
    have ep : p34 ((3, (0 : Int), bg, pr, X) :: r) = 1 + p34 r := rfl
    rw [e2, ep] at c3'
    show cf + (C ++ X.map cel).length + (0 + tot r) + (1 + p34 r) + 1 ≤ i + 1
    rw [List.length_append, List.length_map]; omega) hf
  exact ⟨_, mstp_g h.2.2.1 e m5.h8, m5, mpf_tr (mpf_mb f2) (mpf_tr (mpf_mb f3) (mpf_tr f4 f5))⟩
theorem mgo_nocom (h : MK T L K b cf M i ((3, 0, bg, pr, ops) :: r) o C true) (ha : ar (tks T L i) = false) (hx : sg (tks T L i) 44 = false) : ∃ M', FIN 2 M M' ∧ BAD b cf M' M 1 (tks T L i).2.2.2.1 := by
  by_cases h5 : (tks T L i).1 = 5
  · exact mgo_5 h h5
  · have tok := tks_ok T L i
    have e : fX9_goesOn SH M 167 = some (0, up_ (up_ M 167 8 1) 167 9 ((tks T L i).2.2.2.1 : Int)) := by
      rw [mgo_422 h h5 (fun q => by rw [ha] at q; exact absurd q.2 (by decide)) (fun q => absurd q (by decide))]
      unfold fX9_goesOn_J422 fX9_goesOn_J464
      rw [if_neg (by decide), if_pos rfl, kd167, gd_t rfl, msgn_n h.tk tok h5 (c := 44) (by decide), pb_1, u1_1, bi_if, if_neg (by rw [hx]; decide), h.tk.1, mblm_n h.h8, pb_1, u1_1, gd_t rfl, if_pos p8_1, tkP_s T L i h5]
    exact mbad_g h.2.2.1 mpf_rf e (by decide)
/-- the sign that closes -/
def clS (k : Int) : Int := if k = 5 then 93 else 41
theorem mgo_nocls (h : MK T L K b cf M i ((k, ph, bg, pr, ops) :: r) o C true) (hk : k = 2 ∨ k = 4 ∨ k = 5) (ha : ¬ (ph < 2 ∧ ar (tks T L i) = true)) (hT : isT k = true → ph ≠ 0 ∧ ow (tks T L i) 18 = false ∧ ow (tks T L i) 17 = false) (hx : sg (tks T L i) (clS k) = false) : ∃ M', FIN 2 M M' ∧ BAD b cf M' M 1 (tks T L i).2.2.2.1 := by
  by_cases h5 : (tks T L i).1 = 5
  · exact mgo_5 h h5
  · have tok := tks_ok T L i
    have j509 : fX9_goesOn_J509 SH M 167 (r.length : Int) k 167 (clS k) = some (0, up_ (up_ M 167 8 1) 167 9 ((tks T L i).2.2.2.1 : Int)) := by
      unfold fX9_goesOn_J509 fX9_goesOn_J524
      rw [kd167, gd_t rfl, msgn_n h.tk tok h5 (c := clS k) (by unfold clS; split <;> decide), pb_1, u1_1, bi_if, if_neg (by rw [hx]; decide), gd_t rfl, h.tk.1, mblm_n h.h8, pb_1, u1_1, gd_t rfl, if_pos p8_1, tkP_s T L i h5]
    have e : fX9_goesOn SH M 167 = some (0, up_ (up_ M 167 8 1) 167 9 ((tks T L i).2.2.2.1 : Int)) := by
      rw [mgo_422 h h5 ha hT]
      unfold fX9_goesOn_J422
      rw [if_neg (by omega), if_neg (by omega)]
      unfold clS at j509
      by_cases z : k = 5
      · rw [if_pos z] at j509 ⊢; exact j509
      · rw [if_neg z] at j509 ⊢; exact j509
    exact mbad_g h.2.2.1 mpf_rf e (by decide)
/-- a frame is closed -/
theorem mgo_cls {k2 ph2 pr2 : Int} {bg2 : Bool} {ops2 : List Int} (h : MK T L K b cf M i ((k, ph, bg, pr, X) :: (k2, ph2, bg2, pr2, ops2) :: r) (o + 1 + nots X) C true) (hk : k = 2 ∨ k = 4 ∨ k = 5) (ha : ph < 2 → ar (tks T L i) = false) (hT : isT k = true → ph ≠ 0) (hx : sg (tks T L i) (clS k) = true) (hX : ∀ x ∈ X, 1 ≤ rk x) (hpr : k = 4 → 10 ≤ pr ∧ pr ≤ 22) (hf : ((k2, ph2, bg2, pr2, ops2) :: r).length ≤ o + 1) : ∃ M', RUN 1 M M' ∧ MK T L K b cf M' (i + 1) ((k2, (if k = 5 then 2 else ph2), bg2, pr2, ops2) :: r) o (C ++ X.map cel ++ (if k = 4 then [cel pr] else [])) true ∧ mpf b cf M' M := by
  have hkk := sg_t.mp hx
  have h5 : (tks T L i).1 ≠ 5 := by omega
  have lt := h.lt (by omega)
  have tok := tks_ok T L i
  obtain ⟨t1, t2, t3, t4, t5, t6⟩ := h.top
  rw [List.length_cons] at t1 t2 t3 t4 t5 t6
  have c3 := h.2.2.2.2.2.1
  have e2 : tot ((k, ph, bg, pr, X) :: (k2, ph2, bg2, pr2, ops2) :: r) = X.length + tot ((k2, ph2, bg2, pr2, ops2) :: r) := rfl
  have ep : p34 ((k, ph, bg, pr, X) :: (k2, ph2, bg2, pr2, ops2) :: r) = (if k = 3 ∨ k = 4 then 1 else 0) + p34 ((k2, ph2, bg2, pr2, ops2) :: r) := rfl
  rw [e2, ep] at c3
  have hK := h.2.2.2.2.1.1.2
  have hiK := h.2.2.2.1
  have hm := h.mb
  obtain ⟨M2, j2, m2, f2, q2, g2⟩ := MB_joins (ops0 := []) (X := X) (by rw [List.append_nil]; exact hm) (le := 1) (fun x hx => by simp at hx) hX (by omega)
  have k2' := MTK_mb h.tk f2
  obtain ⟨m3, f3⟩ := MB_pop m2
  rw [List.length_cons] at m3 f3
  have b42 : M2 167 42 = ((r.length + 1 : Nat) : Int) + 1 := by rw [m2.2.1.1, List.length_cons, List.length_cons]; omega
  have b43 : M2 167 43 = (o : Int) + 1 := by rw [m2.2.1.2.1]; omega
  have o7 := m2.2.2.2.1.2.2.2
  have pp : k = 4 → M 193 ((r.length + 1 : Nat) : Int) = pr := fun q => (t6 (by have := hpr q; omega)).1
  -- the pair's code
  have s4 : ∃ M4, (if k = 4 then gd_ ((kd_ SH (up_ (up_ M2 167 42 ((r.length + 1 : Nat) : Int)) 167 43 (o : Int) 167 40)).1 = 1 ∧ (0 : Int) ≤ ((r.length + 1 : Nat) : Int) ∧ ((r.length + 1 : Nat) : Int) < ((kd_ SH (up_ (up_ M2 167 42 ((r.length + 1 : Nat) : Int)) 167 43 (o : Int) 167 40)).2 : Int)) (pb (fX9_add SH (up_ (up_ M2 167 42 ((r.length + 1 : Nat) : Int)) 167 43 (o : Int)) 167 (up_ (up_ M2 167 42 ((r.length + 1 : Nat) : Int)) 167 43 (o : Int) (up_ (up_ M2 167 42 ((r.length + 1 : Nat) : Int)) 167 43 (o : Int) 167 40) ((r.length + 1 : Nat) : Int)) 0) <| u1 fun (M41 : AwM) => (fX9_goesOn_J574 SH M41 167 k)) else fX9_goesOn_J574 SH (up_ (up_ M2 167 42 ((r.length + 1 : Nat) : Int)) 167 43 (o : Int)) 167 k) = fX9_goesOn_J574 SH M4 167 k ∧ MB T L b cf M4 ((k2, ph2, bg2, pr2, ops2) :: r) o (C ++ X.map cel ++ (if k = 4 then [cel pr] else [])) ∧ mbf b cf M4 M2 ∧ M4 167 46 = M2 167 46 := by
    by_cases z : k = 4
    · have hp := hpr z
      have lc : (C ++ X.map cel).length = C.length + X.length := by rw [List.length_append, List.length_map]
      have d1 := m3.2.2.2.1.1
      rw [if_pos (Or.inr z)] at c3
      obtain ⟨M4, j4, m4, f4, g4, _⟩ := MB_add (s := pr) (v := 0) (c := cel pr) m3 ⟨by omega, by omega⟩ (fun q => by omega) rfl (by rw [lc]; omega)
      have e193 : up_ (up_ M2 167 42 ((r.length + 1 : Nat) : Int)) 167 43 (o : Int) 193 ((r.length + 1 : Nat) : Int) = pr := by
        rw [up_of (by decide), up_of (by decide), g2 _ _ (by omega)]; exact pp z
      refine ⟨M4, ?_, ?_, mbf_tr f3 f4, by rw [g4 _ (by decide), up_oi (by decide), up_oi (by decide)]⟩
      · rw [if_pos z, ly167_40 m3.1.1, kd193, ga_t (by omega) (by omega), e193, j4, pb_1, u1_1]
      · rw [if_pos z]; exact m4
    · refine ⟨_, if_neg z, ?_, f3, by rw [up_oi (by decide), up_oi (by decide)]⟩
      rw [if_neg z, List.append_nil]; exact m3
  obtain ⟨M4, j4, m4, f4, r46⟩ := s4
  -- behind a bracket
  have s5 : ∃ M5, MB T L b cf M5 ((k2, (if k = 5 then 2 else ph2), bg2, pr2, ops2) :: r) o (C ++ X.map cel ++ (if k = 4 then [cel pr] else [])) ∧ (mbf b cf M5 M4 ∧ M5 167 46 = M4 167 46) ∧ fX9_goesOn_J574 SH M4 167 k = pb (fX9_ahead SH M5 167) (u1 fun (M38 : AwM) => (some (1, M38))) := by
    have b42' : M4 167 42 = (r.length : Int) + 1 := by rw [m4.2.1.1, List.length_cons]; omega
    by_cases z : k = 5
    · obtain ⟨g1, g3⟩ := MB_top (a := 191) (v := 2) (k' := k2) (ph' := 2) (bg' := bg2) (pr' := pr2) m4 (Or.inr (Or.inl ⟨rfl, rfl, rfl, rfl, rfl⟩))
      refine ⟨_, by rw [if_pos z]; exact g1, ⟨g3, up_of (by decide)⟩, ?_⟩
      unfold fX9_goesOn_J574
      rw [if_pos z, kd167, gd_t rfl, ly167_38 m4.1.1, kd191, b42', w32_s (v := (r.length : Int) + 1 - 1) (by omega) (by omega), show (r.length : Int) + 1 - 1 = (r.length : Int) by omega, ga_t (by omega) (by omega), bd_1]
    · refine ⟨M4, by rw [if_neg z]; exact m4, ⟨mbf_rf, rfl⟩, ?_⟩
      unfold fX9_goesOn_J574
      rw [if_neg z, kd167, gd_t rfl]
  obtain ⟨M5, m5, ⟨f5, r46'⟩, j5⟩ := s5
  have k5 := MTK_mb (MTK_mb k2' f4) f5
  obtain ⟨M6, j6, m6, t6', q6, f6⟩ := MB_adv m5 k5 (by omega)
  have e : fX9_goesOn SH M 167 = some (1, M6) := by
    have nw : ∀ j, ow (tks T L i) j = false := fun j => noW (by omega) j
    rw [mgo_422 h h5 (fun q => by rw [ha q.1] at q; exact absurd q.2 (by decide)) (fun q => ⟨hT q, nw _, nw _⟩), List.length_cons]
    have j524 : fX9_goesOn_J524 SH M 167 ((r.length + 1 : Nat) : Int) k = some (1, M6) := by
      unfold fX9_goesOn_J524
      rw [kd167, gd_t rfl, h.h8, if_neg (by decide), j2, pb_1, u1_1, b42, w32_s (v := ((r.length + 1 : Nat) : Int) + 1 - 1) (by omega) (by omega), show ((r.length + 1 : Nat) : Int) + 1 - 1 = ((r.length + 1 : Nat) : Int) by omega, bd_1, up_oi (show (43 : Int) ≠ 42 by decide), b43, w32_s (v := (o : Int) + 1 - 1) (by omega) (by omega), show (o : Int) + 1 - 1 = (o : Int) by omega, bd_1, j4, j5, j6, pb_1, u1_1]
    have j509 : fX9_goesOn_J509 SH M 167 ((r.length + 1 : Nat) : Int) k 167 (clS k) = some (1, M6) := by
      unfold fX9_goesOn_J509
      rw [kd167, gd_t rfl, msgn_n h.tk tok h5 (c := clS k) (by unfold clS; split <;> decide), pb_1, u1_1, bi_if, if_pos hx]
      exact j524
    unfold fX9_goesOn_J422
    rw [if_neg (by omega), if_neg (by omega)]
    unfold clS at j509
    by_cases z : k = 5
    · rw [if_pos z] at j509 ⊢; exact j509
    · rw [if_neg z] at j509 ⊢; exact j509
  have q46 : M6 167 46 = bi true := by rw [q6, r46', r46, q2]; exact h.2.2.1
  have hc : cf + (C ++ X.map cel ++ (if k = 4 then [cel pr] else [])).length + tot ((k2, (if k = 5 then 2 else ph2), bg2, pr2, ops2) :: r) + p34 ((k2, (if k = 5 then 2 else ph2), bg2, pr2, ops2) :: r) + 1 ≤ i + 1 := by
    have a1 : tot ((k2, (if k = 5 then 2 else ph2), bg2, pr2, ops2) :: r) = tot ((k2, ph2, bg2, pr2, ops2) :: r) := rfl
    have a2 : p34 ((k2, (if k = 5 then 2 else ph2), bg2, pr2, ops2) :: r) = p34 ((k2, ph2, bg2, pr2, ops2) :: r) := rfl
    rw [a1, a2, List.length_append, List.length_append, List.length_map]
    by_cases z : k = 4
    · rw [if_pos (Or.inr z)] at c3
      rw [if_pos z, List.length_singleton]; omega
    · rw [if_neg z, List.length_nil]; omega
  exact ⟨M6, mstp_g h.2.2.1 e m6.1.2.2.1, ⟨m6, t6', q46, by omega, h.2.2.2.2.1, hc, hf⟩, mpf_tr (mpf_mb f2) (mpf_tr (mpf_mb f4) (mpf_tr (mpf_mb f5) f6))⟩
/-- the end of it all -/
theorem mgo_end (h : MK T L K b cf M i ((k, ph, bg, pr, X) :: r) (o + nots X) C true) (hk : k = 0 ∨ k = 1) (h5 : (tks T L i).1 ≠ 5) (ha : ph < 2 → ar (tks T L i) = false) (hT : isT k = true → ph ≠ 0 ∧ ow (tks T L i) 18 = false ∧ ow (tks T L i) 17 = false) (hX : ∀ x ∈ X, 1 ≤ rk x) : ∃ M', FIN 2 M M' ∧ MB T L b cf M' ((k, ph, bg, pr, []) :: r) o (C ++ X.map cel) ∧ MTK M' (tks T L i) ∧ mpf b cf M' M := by
  have c3 := h.2.2.2.2.2.1
  have e2 : tot ((k, ph, bg, pr, X) :: r) = X.length + tot r := rfl
  rw [e2] at c3
  have hK := h.2.2.2.2.1.1.2
  have hiK := h.2.2.2.1
  have hm := h.mb
  obtain ⟨M2, j2, m2, f2, q2, g2⟩ := MB_joins (ops0 := []) (X := X) (by rw [List.append_nil]; exact hm) (le := 1) (fun x hx => by simp at hx) hX (by omega)
  have e : fX9_goesOn SH M 167 = some (0, M2) := by
    rw [mgo_422 h h5 (fun q => by rw [ha q.1] at q; exact absurd q.2 (by decide)) hT]
    unfold fX9_goesOn_J422
    rw [if_pos (by omega), kd167, gd_t rfl, h.h8, if_pos rfl, j2, pb_1, u1_1]
  exact ⟨M2, mfin_g h.2.2.1 e (Or.inl rfl), m2, MTK_mb h.tk f2, mpf_mb f2⟩
end
end PMG2
