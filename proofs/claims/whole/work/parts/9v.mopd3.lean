/-! the model reads a part of a formula: min, max, and what can't be -/
section PMO3
variable {T : Int → Int} {L K : Nat} {b : Int} {cf : Nat}
section
variable {M : AwM} {i : Nat} {k ph pr : Int} {bg : Bool} {ops : List Int} {r : List Fr} {o : Nat} {C : List Int}
theorem tkP_s (T : Int → Int) (L i : Nat) (h : (tks T L i).1 ≠ 5) : (tks T L i).2.2.2.1 = (tks T L i).2.2.1 := (tks_ok T L i).2.2.2.2.1 h
theorem noW {x : Tk} (h : x.1 ≠ 4) (j : Int) : ow x j = false := bf (fun q => h (ow_t.mp q).1)
theorem noS {x : Tk} (h : x.1 ≠ 1) (j : Int) : sg x j = false := bf (fun q => h (sg_t.mp q).1)
theorem mopd_mme (h : MK T L K b cf M i ((k, ph, bg, pr, ops) :: r) o C false) (hw : ow (tks T L i) 21 = true ∨ ow (tks T L i) 22 = true) : fX9_operand SH M 167 = fX9_operand_J224 SH (up_ M 192 (r.length : Int) 0) 167 (if ow (tks T L i) 21 = true then 15 else 16) := by
  have hk : (tks T L i).1 = 4 ∧ ((tks T L i).2.1 = 21 ∨ (tks T L i).2.1 = 22) := by
    rcases hw with q | q <;> have := ow_t.mp q <;> omega
  have hx : (tks T L i).1 ≠ 5 := by omega
  have tok := tks_ok T L i
  obtain ⟨m1, k1, f1, q1⟩ := h.nb
  have pl : plain (tks T L i) = true := by
    unfold plain
    rw [bf (fun q => by have := ow_t.mp q; omega : ¬ ow (tks T L i) 19 = true), bf (fun q => by have := sg_t.mp q; omega : ¬ sg (tks T L i) 91 = true), bf (fun q => by have := ow_t.mp q; omega : ¬ ow (tks T L i) 20 = true)]
    rfl
  rw [mopd_171 h hx (fun _ => pl)]
  unfold fX9_operand_J171 fX9_operand_J207
  rw [kd167, gd_t rfl, msgn_n k1 tok hx (c := 40) (by decide), pb_1, u1_1, bi_if, if_neg (by rw [noS (by omega)]; decide), mwrd_n k1 tok hx (w := 7170414) (k := 21) (by decide) (by decide) rfl, pb_1, u1_1, bi_if]
  by_cases z : ow (tks T L i) 21 = true
  · rw [if_pos z, if_pos z, gd_t rfl, pb_1, u1_1, bi_if, if_pos z]
  · rw [if_neg z, if_neg z, mwrd_n k1 tok hx (w := 7168376) (k := 22) (by decide) (by decide) rfl, pb_1, u1_1, bi_if, if_pos (hw.resolve_left z), gd_t rfl, pb_1, u1_1, bi_if, if_neg z]
theorem mopd_mm (h : MK T L K b cf M i ((k, ph, bg, pr, ops) :: r) o C false) (hw : ow (tks T L i) 21 = true ∨ ow (tks T L i) 22 = true) (hy : sg (tks T L (i + 1)) 40 = true) (ho : o < 7) : ∃ M', RUN 1 M M' ∧ MK T L K b cf M' (i + 2) ((3, 0, true, (if ow (tks T L i) 21 = true then 15 else 16), []) :: (k, ph, false, pr, ops) :: r) (o + 1) C false ∧ mpf b cf M' M := by
  have hk : (tks T L i).1 = 4 := by
    rcases hw with q | q <;> have := ow_t.mp q <;> omega
  have hky := sg_t.mp hy
  have hw15 : 10 ≤ (if ow (tks T L i) 21 = true then (15 : Int) else 16) ∧ (if ow (tks T L i) 21 = true then (15 : Int) else 16) ≤ 22 := by split <;> decide
  have lt := h.lt (by omega)
  obtain ⟨m1, k1, f1, q1⟩ := h.nb
  have c4 := h.2.2.2.2.2.2
  rw [List.length_cons] at c4
  obtain ⟨M2, e2, m2, t2, q2, f2⟩ := MB_adv m1 k1 (by omega)
  obtain ⟨M3, e3, m3, t3, f3⟩ := mopens_n (kd := 3) m2 t2 (by omega) ho (by rw [List.length_cons]; omega)
  have b42 : M3 167 42 = ((r.length + 1 : Nat) : Int) + 1 := by rw [m3.2.1.1, List.length_cons, List.length_cons]; omega
  have r8 := m3.2.2.2.1.2.2.1
  rw [List.length_cons, List.length_cons] at r8
  generalize hwv : (if ow (tks T L i) 21 = true then (15 : Int) else 16) = w at *
  obtain ⟨m4, f4⟩ := MB_pair (w := w) m3 hw15
  have e : fX9_operand SH M 167 = some (bi false, up_ M3 193 (((k, ph, false, pr, ops) :: r).length : Int) w) := by
    rw [mopd_mme h hw, hwv]
    unfold fX9_operand_J224 fX9_operand_J251
    rw [kd167, gd_t rfl, e2, pb_1, u1_1, mlex_n t2 (by omega), pb_1, u1_1, msgn_n t2 (tks_ok T L (i + 1)) (by omega) (c := 40) (by decide), pb_1, u1_1, bi_if, if_pos hy, gd_t rfl, e3, pb_1, u1_1, m3.1.2.2.1, if_pos rfl, ly167_40 m3.1.1, kd193, b42, w32_s (v := ((r.length + 1 : Nat) : Int) + 1 - 1) (by omega) (by omega), show ((r.length + 1 : Nat) : Int) + 1 - 1 = ((r.length + 1 : Nat) : Int) by omega, ga_t (by omega) (by omega), bd_1]
    rfl
  have lt2 : i + 1 < K := by
    refine Classical.byContradiction fun z => ?_
    have eK : i + 1 = K := by omega
    have := h.2.2.2.2.1.1.1
    rw [← eK] at this
    unfold isE at this
    omega
  obtain ⟨m5, f5⟩ := MK_mk (K := K) false m4 (MTK_mb t3 f4) (by omega) h.2.2.2.2.1 (by
    have c3 := h.2.2.2.2.2.1
    show cf + C.length + (0 + (ops.length + tot r)) + (1 + p34 ((k, ph, bg, pr, ops) :: r)) + 1 ≤ i + 2
    have e2 : tot ((k, ph, bg, pr, ops) :: r) = ops.length + tot r := rfl
    rw [e2] at c3; omega) (by rw [List.length_cons, List.length_cons]; omega)
  exact ⟨_, mstp_o h.2.2.1 (f := false) e m4.1.2.2.1, m5, mpf_tr f1 (mpf_tr f2 (mpf_tr f3 (mpf_tr (mpf_mb f4) f5)))⟩
theorem mopens_f {M : AwM} {kd : Int} (h8 : 0 < M 167 8) : fX9_opens SH M 167 kd = some M := by
  unfold fX9_opens fX9_opens_J18
  rw [kd167, gd_t rfl, mblm_f h8, pb_1, u1_1, gd_t rfl, if_pos h8]
  by_cases z : M 167 43 = 7
  · rw [if_pos z]
  · rw [if_neg z]
theorem m251_f {M : AwM} {s : Int} (h8 : 0 < M 167 8) : fX9_operand_J251 SH M 167 s = some (0, M) := by
  unfold fX9_operand_J251
  rw [kd167, gd_t rfl, mopens_f h8, pb_1, u1_1, if_neg (by omega)]
theorem mopd_mm7 (h : MK T L K b cf M i ((k, ph, bg, pr, ops) :: r) 7 C false) (hw : ow (tks T L i) 21 = true ∨ ow (tks T L i) 22 = true) (hy : sg (tks T L (i + 1)) 40 = true) : ∃ M', FIN 2 M M' ∧ BAD b cf M' M 5 (tks T L (i + 1)).2.2.1 := by
  have hk : (tks T L i).1 = 4 := by
    rcases hw with q | q <;> have := ow_t.mp q <;> omega
  have hky := sg_t.mp hy
  obtain ⟨m1, k1, f1, q1⟩ := h.nb
  obtain ⟨M2, e2, m2, t2, q2, f2⟩ := MB_adv m1 k1 (by omega)
  refine mbad_o (x := tks T L i) h.2.2.1 (mpf_tr f1 f2) (Or.inl rfl) ?_ (by decide)
  rw [mopd_mme h hw]
  unfold fX9_operand_J224 fX9_operand_J251
  rw [kd167, gd_t rfl, e2, pb_1, u1_1, mlex_n t2 (by omega), pb_1, u1_1, msgn_n t2 (tks_ok T L (i + 1)) (by omega) (c := 40) (by decide), pb_1, u1_1, bi_if, if_pos hy, gd_t rfl, mopens_7 m2 t2, pb_1, u1_1, if_neg (by rw [up_oi (by decide), up_at]; decide)]
theorem mopd_mmb (h : MK T L K b cf M i ((k, ph, bg, pr, ops) :: r) o C false) (hw : ow (tks T L i) 21 = true ∨ ow (tks T L i) 22 = true) (hy : sg (tks T L (i + 1)) 40 = false) : ∃ M', FIN 2 M M' ∧ BAD b cf M' M 1 (tks T L (i + 1)).2.2.2.1 := by
  have hk : (tks T L i).1 = 4 := by
    rcases hw with q | q <;> have := ow_t.mp q <;> omega
  obtain ⟨m1, k1, f1, q1⟩ := h.nb
  obtain ⟨M2, e2, m2, t2, q2, f2⟩ := MB_adv m1 k1 (by omega)
  refine mbad_o (x := tks T L i) h.2.2.1 (mpf_tr f1 f2) (Or.inl rfl) ?_ (by decide)
  rw [mopd_mme h hw]
  unfold fX9_operand_J224
  rw [kd167, gd_t rfl, e2, pb_1, u1_1]
  by_cases z5 : (tks T L (i + 1)).1 = 5
  · have p8 : 0 < up_ (up_ M2 167 8 1) 167 9 ((tks T L (i + 1)).2.2.2.1 : Int) 167 8 := by rw [up_oi (by decide), up_at]; decide
    rw [mlex_5 t2 z5 m2.1.2.2.1, pb_1, u1_1]
    generalize up_ (up_ M2 167 8 1) 167 9 ((tks T L (i + 1)).2.2.2.1 : Int) = M3 at *
    unfold fX9_isSign
    rw [kd167, gd_t rfl]
    have fin : ∀ v : Int, pb (some v) (u1 fun (x33 : Int) => ((if x33 = 0 then pb (fX9_blame SH M3 167 1 (M3 167 4)) <| u1 fun (M43 : AwM) => (fX9_operand_J251 SH M43 167 (if ow (tks T L i) 21 = true then 15 else 16)) else fX9_operand_J251 SH M3 167 (if ow (tks T L i) 21 = true then 15 else 16)))) = some (0, M3) := fun v => by
      rw [pb_1, u1_1]
      by_cases q : v = 0
      · rw [if_pos q, mblm_f p8, pb_1, u1_1, m251_f p8]
      · rw [if_neg q, m251_f p8]
    by_cases q : M3 167 3 = 3
    · rw [if_pos q]
      by_cases q' : M3 167 6 = 40
      · rw [if_pos q']; exact fin 1
      · rw [if_neg q']; exact fin 0
    · rw [if_neg q]; exact fin 0
  · rw [mlex_n t2 z5, pb_1, u1_1, msgn_n t2 (tks_ok T L (i + 1)) z5 (c := 40) (by decide), pb_1, u1_1, bi_if, if_neg (by rw [hy]; decide), t2.1, mblm_n m2.1.2.2.1, pb_1, u1_1, m251_f (by rw [up_oi (by decide), up_at]; decide), tkP_s T L (i + 1) z5]
/-- nothing that a part can begin with -/
theorem mopd_bad (h : MK T L K b cf M i ((k, ph, bg, pr, ops) :: r) o C false) (hp : (isT k && bg) = true → plain (tks T L i) = true) (n1 : sg (tks T L i) 40 = false) (n2 : ow (tks T L i) 21 = false) (n3 : ow (tks T L i) 22 = false) (hw : pcell (tks T L i) = none) : ∃ M', FIN 2 M M' ∧ BAD b cf M' M 1 (tks T L i).2.2.2.1 := by
  by_cases hx : (tks T L i).1 = 5
  · exact mopd_5 h hx
  · have tok := tks_ok T L i
    obtain ⟨m1, k1, f1, q1⟩ := h.nb
    refine mbad_o (x := tks T L i) h.2.2.1 f1 (Or.inr rfl) ?_ (by decide)
    unfold pcell at hw
    have z2 : ¬ (tks T L i).1 = 2 := fun q => by rw [if_pos q] at hw; exact absurd hw (by simp)
    rw [if_neg z2] at hw
    have w3 : ¬ ow (tks T L i) 3 = true := fun q => by rw [if_pos q] at hw; exact absurd hw (by simp)
    rw [if_neg w3] at hw
    have w1 : ¬ ow (tks T L i) 1 = true := fun q => by rw [if_pos q] at hw; exact absurd hw (by simp)
    rw [if_neg w1] at hw
    have wa : ¬ ow (tks T L i) 13 = true := fun q => by rw [if_pos q] at hw; exact absurd hw (by simp)
    rw [if_neg wa] at hw
    have wb : ¬ ow (tks T L i) 14 = true := fun q => by rw [if_pos q] at hw; exact absurd hw (by simp)
    rw [if_neg wb] at hw
    have wc : ¬ ow (tks T L i) 15 = true := fun q => by rw [if_pos q] at hw; exact absurd hw (by simp)
    rw [if_neg wc] at hw
    have wd : ¬ ow (tks T L i) 16 = true := fun q => by rw [if_pos q] at hw; exact absurd hw (by simp)
    have k06 := tok.1
    have e3 : ¬ up_ M 192 (r.length : Int) 0 167 3 = 2 := by
      obtain ⟨_, _, _, _, m0, m1', m2, m3, m4⟩ := k1
      rcases (show (tks T L i).1 = 0 ∨ (tks T L i).1 = 1 ∨ (tks T L i).1 = 3 ∨ (tks T L i).1 = 4 ∨ (tks T L i).1 = 6 by omega) with q | q | q | q | q
      · rw [m0 q]; decide
      · rw [(m1' (Or.inl q)).1]; decide
      · rw [(m3 q).1]; decide
      · rw [(m4 q).1]; decide
      · rw [(m1' (Or.inr q)).1]; decide
    rw [mopd_171 h hx hp]
    unfold fX9_operand_J171 fX9_operand_J375
    rw [kd167, gd_t rfl, msgn_n k1 tok hx (c := 40) (by decide), pb_1, u1_1, bi_if, if_neg (by rw [n1]; decide), mwrd_n k1 tok hx (w := 7170414) (k := 21) (by decide) (by decide) rfl, pb_1, u1_1, bi_if, if_neg (by rw [n2]; decide), mwrd_n k1 tok hx (w := 7168376) (k := 22) (by decide) (by decide) rfl, pb_1, u1_1, bi_if, if_neg (by rw [n3]; decide), if_neg e3, mwrd_n k1 tok hx (w := 512970880104) (k := 3) (by decide) (by decide) rfl, pb_1, u1_1, bi_if, if_neg w3, mwrd_n k1 tok hx (w := 1918987883) (k := 1) (by decide) (by decide) rfl, pb_1, u1_1, bi_if, if_neg w1, mwrd_n k1 tok hx (w := 478694368626) (k := 13) (by decide) (by decide) rfl, pb_1, u1_1, bi_if, if_neg wa, mwrd_n k1 tok hx (w := 109304541834341) (k := 14) (by decide) (by decide) rfl, pb_1, u1_1, bi_if, if_neg wb, mwrd_n k1 tok hx (w := 6578553) (k := 15) (by decide) (by decide) rfl, pb_1, u1_1, bi_if, if_neg wc, mwrd_n k1 tok hx (w := 448545973363) (k := 16) (by decide) (by decide) rfl, pb_1, u1_1, bi_if, if_neg wd, if_pos rfl, gd_t rfl, k1.1, mblm_n m1.1.2.2.1, pb_1, u1_1, if_pos (by rw [up_oi (by decide), up_at]; decide), tkP_s T L i hx]
end
end PMO3
