/-! the model reads a part of a formula -/
section PMOP
section
variable (T : Int → Int) (L K : Nat) (b : Int) (cf : Nat)
def MK (M : AwM) (i : Nat) (fs : List Fr) (o : Nat) (C : List Int) (fl : Bool) : Prop :=
  MB T L b cf M fs o C ∧ MTK M (tks T L i) ∧ M 167 46 = bi fl ∧ (i ≤ K ∧ ENDS (tks T L) K ∧ cf + C.length + tot fs + p34 fs + 1 ≤ i ∧ fs.length ≤ o + 1)
/-- all that the reading of a formula writes -/
def mpf (M' M : AwM) : Prop := ∀ a i : Int, ¬ (a = 167 ∧ (3 ≤ i ∧ i ≤ 9 ∨ i = 12 ∨ i = 35 ∨ i = 42 ∨ i = 43 ∨ i = 45 ∨ i = 46)) → ¬ (190 ≤ a ∧ a ≤ 195) → ¬ ((a = 185 ∨ a = 186) ∧ 1600 * b + (cf : Int) ≤ i ∧ i < 1600 * b + 1600) → M' a i = M a i
end
def RUN (d : Nat) (M M' : AwM) : Prop := ∃ n, n ≤ d ∧ ∀ N, lp (u2 (fX9_reads_L43 SH 167)) (N + n) (1, M) = lp (u2 (fX9_reads_L43 SH 167)) N (1, M')
def FIN (d : Nat) (M M' : AwM) : Prop := ∃ n, n ≤ d ∧ ∀ N, lp (u2 (fX9_reads_L43 SH 167)) (N + n) (1, M) = some M'
theorem RUN_tr {d e : Nat} {M M1 M2 : AwM} (h : RUN d M M1) (h' : RUN e M1 M2) : RUN (d + e) M M2 := by
  obtain ⟨n, hn, f⟩ := h
  obtain ⟨m, hm, g⟩ := h'
  refine ⟨m + n, by omega, fun N => ?_⟩
  rw [← Nat.add_assoc, f, g]
theorem RUN_fin {d e : Nat} {M M1 M2 : AwM} (h : RUN d M M1) (h' : FIN e M1 M2) : FIN (d + e) M M2 := by
  obtain ⟨n, hn, f⟩ := h
  obtain ⟨m, hm, g⟩ := h'
  refine ⟨m + n, by omega, fun N => ?_⟩
  rw [← Nat.add_assoc, f, g]
theorem RUN_le {d e : Nat} {M M1 : AwM} (h : RUN d M M1) (hd : d ≤ e) : RUN e M M1 := by
  obtain ⟨n, hn, f⟩ := h
  exact ⟨n, by omega, f⟩
theorem FIN_le {d e : Nat} {M M1 : AwM} (h : FIN d M M1) (hd : d ≤ e) : FIN e M M1 := by
  obtain ⟨n, hn, f⟩ := h
  exact ⟨n, by omega, f⟩
theorem RUN_0 {M : AwM} : RUN 0 M M := ⟨0, Nat.le_refl _, fun _ => rfl⟩
variable {T : Int → Int} {L K : Nat} {b : Int} {cf : Nat}
theorem mpf_rf {M : AwM} : mpf b cf M M := fun _ _ _ _ _ => rfl
theorem mpf_tr {M M1 M2 : AwM} (h : mpf b cf M1 M) (h' : mpf b cf M2 M1) : mpf b cf M2 M := fun a i p q r => (h' a i p q r).trans (h a i p q r)
theorem mpf_ma {M M1 : AwM} (h : maf M1 M) : mpf b cf M1 M := fun a i p _ _ => h a i (by omega)
theorem mpf_mb {M M1 : AwM} (h : mbf b cf M1 M) : mpf b cf M1 M := fun a i p q r => h a i (by omega) q r
theorem mpf_up {M : AwM} {k v : Int} (h : k = 8 ∨ k = 9 ∨ k = 46 ∨ k = 43) : mpf b cf (up_ M 167 k v) M := fun a i p _ _ => up_nn (fun z => p ⟨z.1, by omega⟩)
theorem LAY_mp {M M' : AwM} (h : LAY M) (f : mpf b cf M' M) : LAY M' := LAY_fq h (fun q hq => by
  have t := of_decide_eq_true (List.all_eq_true.mp lay_ma q hq)
  have u := of_decide_eq_true (List.all_eq_true.mp lay_mb q hq)
  exact f _ _ (by omega) (by omega) (by omega))
theorem MK.mb {M : AwM} {i : Nat} {fs : List Fr} {o : Nat} {C : List Int} {fl : Bool} (h : MK T L K b cf M i fs o C fl) : MB T L b cf M fs o C := h.1
theorem MK.lay {M : AwM} {i : Nat} {fs : List Fr} {o : Nat} {C : List Int} {fl : Bool} (h : MK T L K b cf M i fs o C fl) : LAY M := h.1.1.1
theorem MK.h8 {M : AwM} {i : Nat} {fs : List Fr} {o : Nat} {C : List Int} {fl : Bool} (h : MK T L K b cf M i fs o C fl) : M 167 8 = 0 := h.1.1.2.2.1
theorem MK.tk {M : AwM} {i : Nat} {fs : List Fr} {o : Nat} {C : List Int} {fl : Bool} (h : MK T L K b cf M i fs o C fl) : MTK M (tks T L i) := h.2.1
theorem MK.lt {M : AwM} {i : Nat} {fs : List Fr} {o : Nat} {C : List Int} {fl : Bool} (h : MK T L K b cf M i fs o C fl) (hk : 1 ≤ (tks T L i).1 ∧ (tks T L i).1 ≤ 4) : i < K := by
  obtain ⟨_, _, _, a, b, _⟩ := h
  refine Classical.byContradiction fun z => ?_
  have e : i = K := by omega
  subst e
  have := b.1.1
  unfold isE at this
  omega
/-- it stopped with a fault -/
def BAD (b : Int) (cf : Nat) (M' M : AwM) (k : Int) (p : Nat) : Prop := M' 167 8 = k ∧ M' 167 9 = (p : Int) ∧ mpf b cf M' M
theorem mfin_o {M M1 : AwM} {v : Int} (h46 : M 167 46 = bi false) (e : fX9_operand SH M 167 = some (v, M1)) (hv : v = 0 ∨ v = 1) (h8 : 0 < M1 167 8) : FIN 2 M (up_ M1 167 46 v) := by
  refine ⟨2, Nat.le_refl _, fun N => ?_⟩
  have e1 : u2 (fX9_reads_L43 SH 167) (1, M) = some (.inl (0, up_ M1 167 46 v)) := by
    rw [u2_1]
    unfold fX9_reads_L43 fX9_reads_J70_43
    rw [if_neg (by decide), kd167, gd_t rfl, h46, if_pos (show bi false = 0 from rfl), e, pb_1, u2_1, gd_t hv, bd_1, if_neg (by decide), gd_t rfl, up_oi (by decide), if_neg (by omega)]
  have e2 : u2 (fX9_reads_L43 SH 167) (0, up_ M1 167 46 v) = some (.inr (up_ M1 167 46 v)) := by
    rw [u2_1]
    unfold fX9_reads_L43
    rw [if_pos rfl]
  rw [lp_go e1, lp_st e2]
theorem mstp_o {M M1 : AwM} {f : Bool} (h46 : M 167 46 = bi false) (e : fX9_operand SH M 167 = some (bi f, M1)) (h8 : M1 167 8 = 0) : RUN 1 M (up_ M1 167 46 (bi f)) := by
  refine ⟨1, Nat.le_refl _, fun N => ?_⟩
  have e1 : u2 (fX9_reads_L43 SH 167) (1, M) = some (.inl (1, up_ M1 167 46 (bi f))) := by
    rw [u2_1]
    unfold fX9_reads_L43 fX9_reads_J70_43
    rw [if_neg (by decide), kd167, gd_t rfl, h46, if_pos (show bi false = 0 from rfl), e, pb_1, u2_1, gd_t (by cases f; exact Or.inl rfl; exact Or.inr rfl), bd_1, if_neg (by decide), gd_t rfl, up_oi (by decide), if_pos h8]
  rw [lp_go e1]
theorem mfin_g {M M1 : AwM} {v : Int} (h46 : M 167 46 = bi true) (e : fX9_goesOn SH M 167 = some (v, M1)) (hv : v = 0 ∨ 0 < M1 167 8) : FIN 2 M M1 := by
  refine ⟨2, Nat.le_refl _, fun N => ?_⟩
  have e1 : u2 (fX9_reads_L43 SH 167) (1, M) = some (.inl (0, M1)) := by
    rw [u2_1]
    unfold fX9_reads_L43 fX9_reads_J70_43
    rw [if_neg (by decide), kd167, gd_t rfl, h46, if_neg (by decide), e, pb_1, u2_1]
    by_cases z : v = 0
    · rw [if_pos z]
    · rw [if_neg z, gd_t rfl, if_neg (by have := hv.resolve_left z; omega)]
  have e2 : u2 (fX9_reads_L43 SH 167) (0, M1) = some (.inr M1) := by
    rw [u2_1]
    unfold fX9_reads_L43
    rw [if_pos rfl]
  rw [lp_go e1, lp_st e2]
theorem mstp_g {M M1 : AwM} (h46 : M 167 46 = bi true) (e : fX9_goesOn SH M 167 = some (1, M1)) (h8 : M1 167 8 = 0) : RUN 1 M M1 := by
  refine ⟨1, Nat.le_refl _, fun N => ?_⟩
  have e1 : u2 (fX9_reads_L43 SH 167) (1, M) = some (.inl (1, M1)) := by
    rw [u2_1]
    unfold fX9_reads_L43 fX9_reads_J70_43
    rw [if_neg (by decide), kd167, gd_t rfl, h46, if_neg (by decide), e, pb_1, u2_1, if_neg (by decide), gd_t rfl, if_pos h8]
  rw [lp_go e1]
/-- on to the next token -/
theorem MB_adv {M : AwM} {i : Nat} {fs : List Fr} {o : Nat} {C : List Int} (h : MB T L b cf M fs o C) (t : MTK M (tks T L i)) (hk : 1 ≤ (tks T L i).1 ∧ (tks T L i).1 ≤ 4) : ∃ M', fX9_ahead SH M 167 = some M' ∧ MB T L b cf M' fs o C ∧ MTK M' (tks T L (i + 1)) ∧ M' 167 46 = M 167 46 ∧ mpf b cf M' M := by
  obtain ⟨M', e, f, t'⟩ := mnext_n h.1.1 h.1.2.2.2 t hk
  exact ⟨M', e, MB_ma h f, t', f _ _ (by omega), mpf_ma f⟩
theorem mopens_n {M : AwM} {i : Nat} {fs : List Fr} {o : Nat} {C : List Int} {kd : Int} (h : MB T L b cf M fs o C) (t : MTK M (tks T L i)) (hk : 1 ≤ (tks T L i).1 ∧ (tks T L i).1 ≤ 4) (ho : o < 7) (hf : fs.length < 8) : ∃ M', fX9_opens SH M 167 kd = some M' ∧ MB T L b cf M' ((kd, 0, true, 0, []) :: fs) (o + 1) C ∧ MTK M' (tks T L (i + 1)) ∧ mpf b cf M' M := by
  have h43 : M 167 43 = (o : Int) := h.2.1.2.1
  obtain ⟨g1, g2⟩ := MB_43 (o' := o + 1) h (by omega)
  obtain ⟨M2, e2, m2, t2, _, f2⟩ := MB_adv g1 (MTK_mb t g2) hk
  obtain ⟨M3, e3, m3, f3⟩ := MB_push (kd := kd) m2 hf
  refine ⟨M3, ?_, m3, MTK_mb t2 f3, mpf_tr (mpf_mb g2) (mpf_tr f2 (mpf_mb f3))⟩
  unfold fX9_opens fX9_opens_J18
  rw [kd167, gd_t rfl, h43, if_neg (by omega), gd_t rfl, h.1.2.2.1, if_neg (by decide), w32_s (v := (o : Int) + 1) (by omega) (by omega), bd_1, show (o : Int) + 1 = ((o + 1 : Nat) : Int) by omega, e2, pb_1, u1_1, e3, pb_1, u1_1]
theorem mopens_7 {M : AwM} {fs : List Fr} {C : List Int} {kd : Int} {x : Tk} (h : MB T L b cf M fs 7 C) (t : MTK M x) : fX9_opens SH M 167 kd = some (up_ (up_ M 167 8 5) 167 9 (x.2.2.1 : Int)) := by
  have h43 : M 167 43 = ((7 : Nat) : Int) := h.2.1.2.1
  unfold fX9_opens fX9_opens_J18
  rw [kd167, gd_t rfl, h43, if_pos (show ((7 : Nat) : Int) = 7 from rfl), t.1, mblm_n h.1.2.2.1, pb_1, u1_1, gd_t rfl, if_pos (by rw [up_oi (by decide), up_at]; decide)]
def isT (k : Int) : Bool := decide (k = 1 ∨ k = 5)
theorem mist_n {sh : AwS} {M : AwM} {k : Int} : fX9_isTest sh M k = some (bi (isT k)) := by
  unfold fX9_isTest isT
  by_cases a : k = 1
  · rw [if_pos a, decide_eq_true (Or.inl a)]; rfl
  · rw [if_neg a]
    by_cases c : k = 5
    · rw [if_pos c, decide_eq_true (Or.inr c)]; rfl
    · rw [if_neg c, decide_eq_false (by omega)]; rfl
section
variable {M : AwM} {i : Nat} {k ph pr : Int} {bg : Bool} {ops : List Int} {r : List Fr} {o : Nat} {C : List Int} {fl : Bool}
theorem MK.top (h : MK T L K b cf M i ((k, ph, bg, pr, ops) :: r) o C fl) : w32 (M 167 42 - 1) = (r.length : Int) ∧ M 190 (r.length : Int) = k ∧ M 191 (r.length : Int) = ph ∧ M 192 (r.length : Int) = bi bg ∧ r.length < 8 ∧ (pr ≠ 0 → M 193 (r.length : Int) = pr ∧ 10 ≤ pr ∧ pr ≤ 22) := by
  obtain ⟨⟨_, ⟨b1, _, _, _⟩, ⟨c1, _⟩, d, _⟩, _⟩ := h
  rw [List.length_cons] at b1 d
  obtain ⟨⟨f1, f2, f3, f4, f5, f6⟩, f7⟩ := c1
  refine ⟨?_, f1, f2, f3, by omega, f4⟩
  rw [b1, w32_s (by omega) (by omega)]
  omega
/-- the first look -/
theorem mopd_5 (h : MK T L K b cf M i ((k, ph, bg, pr, ops) :: r) o C false) (hx : (tks T L i).1 = 5) : ∃ M', FIN 2 M M' ∧ BAD b cf M' M 1 (tks T L i).2.2.2.1 := by
  have e : fX9_operand SH M 167 = some (1, up_ (up_ M 167 8 1) 167 9 ((tks T L i).2.2.2.1 : Int)) := by
    unfold fX9_operand
    rw [kd167, gd_t rfl, mlex_5 h.tk hx h.h8, pb_1, u1_1, if_pos (by rw [up_oi (by decide), up_at]; decide)]
  refine ⟨_, mfin_o h.2.2.1 e (Or.inr rfl) (by rw [up_oi (by decide), up_at]; decide), ?_, ?_, ?_⟩
  · rw [up_oi (by decide), up_oi (by decide), up_at]
  · rw [up_oi (by decide), up_at]
  · exact mpf_tr (mpf_up (by omega)) (mpf_tr (mpf_up (by omega)) (mpf_up (by omega)))
theorem mopd_0 (h : MK T L K b cf M i ((k, ph, bg, pr, ops) :: r) o C fl) (hx : (tks T L i).1 ≠ 5) : fX9_operand SH M 167 = fX9_operand_J46 SH M 167 (r.length : Int) (bi (isT k && bg)) := by
  obtain ⟨t1, t2, t3, t4, t5, _⟩ := h.top
  have l := h.lay
  unfold fX9_operand
  rw [kd167, gd_t rfl, mlex_n h.tk hx, pb_1, u1_1, h.h8, if_neg (by decide), t1, ly167_37 l, kd190, ga_t (by omega) (by omega), t2, mist_n, pb_1, u1_1, bi_if]
  by_cases a : isT k = true
  · rw [if_pos a, ly167_39 l, kd192, gd_t (by refine ⟨rfl, by omega, ?_⟩; show _ < (20 : Int); omega), t4, bi_if, a, Bool.true_and]
    cases bg
    · rw [if_neg (by decide)]; rfl
    · rw [if_pos rfl]; rfl
  · rw [if_neg a, bf a, Bool.false_and]; rfl
theorem mopd_1 (h : MK T L K b cf M i ((k, ph, bg, pr, ops) :: r) o C fl) (hx : (tks T L i).1 ≠ 5) (hn : ¬ ((isT k && bg) = true ∧ ow (tks T L i) 19 = true)) : fX9_operand SH M 167 = fX9_operand_J110 SH M 167 (r.length : Int) (bi (isT k && bg)) := by
  rw [mopd_0 h hx]
  unfold fX9_operand_J46
  rw [bi_if]
  by_cases a : (isT k && bg) = true
  · rw [if_pos a, kd167, gd_t rfl, mwrd_n h.tk (tks_ok T L i) hx (w := 7237492) (k := 19) (by decide) (by decide) rfl, pb_1, u1_1, bi_if, if_neg (fun q => hn ⟨a, q⟩)]
  · rw [if_neg a]
/-- not -/
theorem mopd_not (h : MK T L K b cf M i ((k, ph, bg, pr, ops) :: r) o C false) (hs : (isT k && bg) = true) (hw : ow (tks T L i) 19 = true) (ho : o < 7) (ht : ops.length + tot r + 1 ≤ 60) : ∃ M', RUN 1 M M' ∧ MK T L K b cf M' (i + 1) ((k, ph, bg, pr, 22 :: ops) :: r) (o + 1) C false ∧ mpf b cf M' M := by
  have hk := ow_t.mp hw
  have hx : (tks T L i).1 ≠ 5 := by omega
  have lt := h.lt (by omega)
  obtain ⟨g1, g2⟩ := MB_43 (o' := o + 1) h.mb (by omega)
  obtain ⟨M2, e2, m2, f2⟩ := MB_hold (op := 22) g1 (by decide) ht
  obtain ⟨M3, e3, m3, t3, q3, f3⟩ := MB_adv m2 (MTK_mb (MTK_mb h.tk g2) f2) (by omega)
  obtain ⟨m4, f4⟩ := MB_46 (v := bi false) m3
  have h43 : M 167 43 = (o : Int) := h.1.2.1.2.1
  have e : fX9_operand SH M 167 = some (bi false, M3) := by
    rw [mopd_0 h hx]
    unfold fX9_operand_J46 fX9_operand_J79
    rw [hs, if_neg (by decide), kd167, gd_t rfl, mwrd_n h.tk (tks_ok T L i) hx (w := 7237492) (k := 19) (by decide) (by decide) rfl, pb_1, u1_1, bi_if, if_pos hw, h43, if_neg (by omega), gd_t rfl, h.h8, if_neg (by decide), w32_s (v := (o : Int) + 1) (by omega) (by omega), bd_1, show (o : Int) + 1 = ((o + 1 : Nat) : Int) by omega, e2, pb_1, u1_1, e3, pb_1, u1_1]
    rfl
  obtain ⟨_, _, _, c1, c2, c3, c4⟩ := h
  refine ⟨_, mstp_o (by assumption) e m3.1.2.2.1, ⟨m4, MTK_mb t3 f4, up_at, by omega, c2, ?_, ?_⟩, mpf_tr (mpf_tr (mpf_mb g2) (mpf_mb f2)) (mpf_tr f3 (mpf_mb f4))⟩
  · have e1 : tot ((k, ph, bg, pr, 22 :: ops) :: r) = ops.length + 1 + tot r := rfl
    have e2 : tot ((k, ph, bg, pr, ops) :: r) = ops.length + tot r := rfl
    have e3 : p34 ((k, ph, bg, pr, 22 :: ops) :: r) = p34 ((k, ph, bg, pr, ops) :: r) := rfl
    rw [e1, e3]; rw [e2] at c3; omega
  · rw [List.length_cons] at c4 ⊢; omega
theorem mopd_not7 (h : MK T L K b cf M i ((k, ph, bg, pr, ops) :: r) 7 C false) (hs : (isT k && bg) = true) (hw : ow (tks T L i) 19 = true) : ∃ M', FIN 2 M M' ∧ BAD b cf M' M 5 (tks T L i).2.2.1 := by
  have hk := ow_t.mp hw
  have hx : (tks T L i).1 ≠ 5 := by omega
  have h43 : M 167 43 = ((7 : Nat) : Int) := h.1.2.1.2.1
  have e : fX9_operand SH M 167 = some (1, up_ (up_ M 167 8 5) 167 9 ((tks T L i).2.2.1 : Int)) := by
    rw [mopd_0 h hx]
    unfold fX9_operand_J46 fX9_operand_J79
    rw [hs, if_neg (by decide), kd167, gd_t rfl, mwrd_n h.tk (tks_ok T L i) hx (w := 7237492) (k := 19) (by decide) (by decide) rfl, pb_1, u1_1, bi_if, if_pos hw, h43, if_pos (show ((7 : Nat) : Int) = 7 from rfl), h.tk.1, mblm_n h.h8, pb_1, u1_1, gd_t rfl, if_pos (by rw [up_oi (by decide), up_at]; decide)]
  refine ⟨_, mfin_o h.2.2.1 e (Or.inr rfl) (by rw [up_oi (by decide), up_at]; decide), ?_, ?_, ?_⟩
  · rw [up_oi (by decide), up_oi (by decide), up_at]
  · rw [up_oi (by decide), up_at]
  · exact mpf_tr (mpf_up (by omega)) (mpf_tr (mpf_up (by omega)) (mpf_up (by omega)))
end
end PMOP
