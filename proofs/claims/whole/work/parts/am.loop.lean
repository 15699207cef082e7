/-! the loop over statements: both sides -/
section PLOO
variable {T : Int → Int} {L K : Nat} {b : Int} {D : AwM} {i : Nat}
theorem tok_s {e : Nat} {gl : Bool} : (tok T L e gl).2.2.1 = rnE isB T L e := by
  unfold tok
  generalize rnE isB T L e = s
  unfold tkA tkW tkN tkC
  repeat' split
  all_goals rfl
theorem tks_s : (tks T L (i + 1)).2.2.1 = rnE isB T L (tks T L i).2.2.2.2 := tok_s
theorem tk_end : (tks T L i).1 = 0 ↔ (tks T L i).2.2.1 = L := by
  have tok := tks_ok T L i
  refine ⟨fun q => (tok.2.2.2.1 q).1, fun q => Classical.byContradiction fun z => ?_⟩
  have := tok.2.2.1 z
  have := tok.2.1
  omega
theorem mfsk_n {M : AwM} {e : Nat} {w : Int} (hl : LAY M) (hT : MTp M T L) (he : e ≤ L) : lp (u1 (fX9_finishes_L17 SH M 167 w)) FU (e : Int) = some ((rnE isB T L e : Nat) : Int) := mskip_n hl hT he
/-- what stands behind a statement -/
def finR (T : Int → Int) (L i : Nat) (w : Int) : Option (Int × Nat) := if sg (tks T L i) 59 = true then (if w = 80 ∧ (tks T L (i + 1)).1 ≠ 0 then some (6, (tks T L (i + 1)).2.2.1) else none) else some (1, (tks T L i).2.2.2.1)
theorem mfin_f {M : AwM} {w : Int} (h8 : 0 < M 167 8) : fX9_finishes SH M 167 w = some M := by
  unfold fX9_finishes
  rw [kd167, gd_t rfl, mlex_f h8, pb_1, u1_1, if_pos h8]
theorem mfin_n {M : AwM} (h : MD T L K M b D i) {w : Int} : (finR T L i w = none → ∃ M', fX9_finishes SH M 167 w = some M' ∧ MD T L K M' b D (i + 1) ∧ maf M' M) ∧ (∀ k p, finR T L i w = some (k, p) → ∃ M', fX9_finishes SH M 167 w = some M' ∧ MBd b M' M k p) := by
  have tok := tks_ok T L i
  unfold finR fX9_finishes
  rw [kd167, gd_t rfl]
  by_cases z5 : (tks T L i).1 = 5
  · rw [if_neg (fun q => by have := sg_t.mp q; omega)]
    refine ⟨fun q => absurd q (by simp), fun k p q => ?_⟩
    have hh' := Option.some.inj q
    rw [Prod.mk.injEq] at hh'
    obtain ⟨rfl, rfl⟩ := hh'
    exact ⟨_, by rw [mlex_5 h.tk z5 h.h8, pb_1, u1_1, if_pos p8_1], mbd_u rfl⟩
  · have sk := mfsk_n (w := w) h.lay h.1.2.1 tok.2.1.2
    have sgn := msgn_n (c := 59) h.tk tok z5 (by decide)
    rw [mlex_n h.tk z5, pb_1, u1_1, h.h8, if_neg (show ¬ (0 : Int) < 0 by decide), h.tk.2.1, sk, pb_1, u1_1, ← tks_s]
    unfold fX9_finishes_J53
    rw [kd167, gd_t rfl, sgn, pb_1, u1_1, bi_if, h.1.2.1.1.1]
    by_cases zs : sg (tks T L i) 59 = true
    · have hi := sg_t.mp zs
      obtain ⟨M1, e1, h1, f1⟩ := mdnx_n h (by omega)
      have good : fX9_must SH M 167 59 = some M1 := by
        unfold fX9_must
        rw [kd167, gd_t rfl, mlex_n h.tk z5, pb_1, u1_1, sgn, pb_1, u1_1, bi_if, if_pos zs, h.h8, if_pos rfl, e1, pb_1, u1_1]
      have te := tk_end (T := T) (L := L) (i := i + 1)
      have tk1 := (tks_ok T L (i + 1)).2.1
      rw [if_pos zs, if_pos zs]
      by_cases zw : w = 80
      · rw [if_pos zw]
        by_cases z0 : (tks T L (i + 1)).1 = 0
        · have := te.mp z0
          rw [if_neg (fun q => q.2 z0), if_neg (by omega), good, pb_1, u1_1]
          exact ⟨fun _ => ⟨M1, rfl, h1, f1⟩, fun k p q => absurd q (by simp)⟩
        · have : ¬ (tks T L (i + 1)).2.2.1 = L := fun q => z0 (te.mpr q)
          rw [if_pos ⟨zw, z0⟩, if_pos (by omega), mblm_n h.h8, pb_1, u1_1, mmust_f (by rw [up_oi (by decide), up_at]; decide), pb_1, u1_1]
          refine ⟨fun q => absurd q (by simp), fun k p q => ?_⟩
          have hh' := Option.some.inj q
          rw [Prod.mk.injEq] at hh'
          obtain ⟨rfl, rfl⟩ := hh'
          exact ⟨_, rfl, mbd_u rfl⟩
      · rw [if_neg zw, if_neg (fun q => zw q.1), good, pb_1, u1_1]
        exact ⟨fun _ => ⟨M1, rfl, h1, f1⟩, fun k p q => absurd q (by simp)⟩
    · rw [if_neg zs, if_neg zs]
      refine ⟨fun q => absurd q (by simp), fun k p q => ?_⟩
      have hh' := Option.some.inj q
      rw [Prod.mk.injEq] at hh'
      obtain ⟨rfl, rfl⟩ := hh'
      have bad : fX9_must SH M 167 59 = some (up_ (up_ M 167 8 1) 167 9 ((tks T L i).2.2.1 : Int)) := by
        unfold fX9_must
        rw [kd167, gd_t rfl, mlex_n h.tk z5, pb_1, u1_1, sgn, pb_1, u1_1, bi_if, if_neg zs, h.tk.1, mblm_n h.h8, pb_1, u1_1, if_neg (by rw [up_oi (by decide), up_at]; decide)]
      exact ⟨_, by rw [bad, pb_1, u1_1], mbd_u (p := ((tks T L i).2.2.1 : Int)) (by rw [tkP_s T L i z5])⟩
theorem m3_0 {M : AwM} (h : MTK M (tks T L i)) : M 167 3 = 0 ↔ (tks T L i).1 = 0 := by
  have k06 := (tks_ok T L i).1
  obtain ⟨_, _, m5, _, m0, m1, m2, m3, m4⟩ := h
  refine ⟨fun q => ?_, m0⟩
  rcases (show (tks T L i).1 = 0 ∨ (tks T L i).1 = 1 ∨ (tks T L i).1 = 2 ∨ (tks T L i).1 = 3 ∨ (tks T L i).1 = 4 ∨ (tks T L i).1 = 5 ∨ (tks T L i).1 = 6 by omega) with z | z | z | z | z | z | z
  · exact z
  · have := (m1 (Or.inl z)).1; omega
  · have := (m2 z).1; omega
  · have := (m3 z).1; omega
  · have := (m4 z).1; omega
  · exact absurd q (m5 z).2
  · have := (m1 (Or.inr z)).1; omega
section
variable (T : Int → Int) (L K : Nat)
def tpost (x : Option ((Int × AwM) ⊕ (AwM ⊕ AwM))) : Option (Int × AwM) := pb x (Sum.elim (u2 (fun (x28 : Int) (M29 : AwM) => some (x28, M29))) (Sum.elim (u1 (fun (tq27 : AwM) => pb (fX6_fail SH tq27 3 6) <| u2 fun (x31 : Int) (M32 : AwM) => (some ((-1), M32)))) (u1 (fun (tq27 : AwM) => some ((-1), tq27)))))
def CLo (x : Option ((Int × AwM) ⊕ (AwM ⊕ AwM))) (M : AwM) (so : Int) (r : (Int × Nat) ⊕ (AwM × Int)) : Prop := match r with
  | .inl q => 0 < q.1 ∧ ∃ M', tpost x = some (-1, M') ∧ CDB so M' M q.1 q.2
  | .inr q => (DOK q.1 ∧ 0 ≤ q.2 ∧ q.2 ≤ 80) ∧ ∃ M' j, tpost x = some (q.2, M') ∧ CD T L K M' so q.1 (nD q.1) j ∧ cdf so M' M
def MLo (x : Option (Int × AwM)) (M : AwM) (b : Int) (r : (Int × Nat) ⊕ (AwM × Int)) : Prop := match r with
  | .inl q => ∃ v M', x = some (v, M') ∧ MBd b M' M q.1 q.2
  | .inr q => ∃ M' j, x = some (q.2, M') ∧ MD T L K M' b q.1 j ∧ mdf b M' M
end
theorem CLo_tr {x : Option ((Int × AwM) ⊕ (AwM ⊕ AwM))} {M M1 : AwM} {so : Int} {r : (Int × Nat) ⊕ (AwM × Int)} (f : cdf so M1 M) (h : CLo T L K x M1 so r) : CLo T L K x M so r := by
  unfold CLo at h ⊢
  cases r with
  | inl q => obtain ⟨k0, M', e, c⟩ := h; exact ⟨k0, M', e, CDB_tr f c⟩
  | inr q => obtain ⟨a, M', j, e, c, g⟩ := h; exact ⟨a, M', j, e, c, cdf_tr f g⟩
theorem MLo_tr {x : Option (Int × AwM)} {M M1 : AwM} {r : (Int × Nat) ⊕ (AwM × Int)} (f : mdf b M1 M) (h : MLo T L K x M1 b r) : MLo T L K x M b r := by
  unfold MLo at h ⊢
  cases r with
  | inl q => obtain ⟨v, M', e, c⟩ := h; exact ⟨v, M', e, MBd_tr f c⟩
  | inr q => obtain ⟨M', j, e, c, g⟩ := h; exact ⟨M', j, e, c, mdf_tr f g⟩
theorem mlo_f {M : AwM} {v : Int} {N : Nat} (h8 : 0 < M 167 8) : lp (u2 (fX9_society_L119 SH 167)) (N + 1) (v, M) = some (v, M) := by
  refine lp_st ?_
  rw [u2_1]
  unfold fX9_society_L119
  rw [kd167, gd_t rfl, if_neg (by omega)]
end PLOO
