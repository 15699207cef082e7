/-! ledgers copied, both sides -/
section PCOPY
def ledL : List Int := [28, 33, 38, 43, 48, 53, 58, 63, 68, 73, 78, 83, 88, 93, 98, 103, 108, 113, 118, 123, 154, 161]
theorem led_k : ledL.all (fun a => decide (kd_ SH a = (0, 3) ∧ kd_ SH (a + 1) = (1, 12) ∧ kd_ SH (a + 2) = (1, 12) ∧ kd_ SH (a + 3) = (1, 12) ∧ kd_ SH (a + 4) = (1, 120) ∧ layT.contains (a, 1, a + 1) ∧ layT.contains (a, 2, a + 2) ∧ layT.contains (a, 3, a + 3) ∧ layT.contains (a, 4, a + 4) ∧ 28 ≤ a ∧ a ≤ 161 ∧ a + 1 ∉ obL ∧ a + 2 ∉ obL ∧ a + 3 ∉ obL ∧ a + 4 ∉ obL)) = true := by decide +kernel
theorem led_d : ledL.all (fun a => ledL.all (fun b => decide (a ≠ b → a + 4 < b ∨ b + 4 < a))) = true := by decide +kernel
theorem led_z : layT.all (fun q => decide (¬ (q.1 ∈ ledL ∧ q.2.1 = 0))) = true := by decide +kernel
theorem lay_c {M : AwM} (h : LAY M) {a b c : Int} (hc : layT.contains (a, b, c) = true) : M a b = c := h (a, b, c) (by simpa using hc)
theorem cp_of {M : AwM} {a sp b dp q a' i' : Int} (h : a' ≠ b) : cp_ M a sp b dp q a' i' = M a' i' := if_neg (fun z => h z.1)
theorem cp_in {M : AwM} {a b q i' : Int} (h0 : 0 ≤ i') (h1 : i' < q) : cp_ M a 0 b 0 q b i' = M a i' := by
  unfold cp_
  rw [if_pos ⟨rfl, h0, by omega⟩]
  congr 1
  omega
theorem copyFrom_n {M : AwM} {a b : Int} (hl : LAY M) (ha : a ∈ ledL) (hb' : b ∈ ledL) (hab : a ≠ b) : ∃ M', fX3_copyFrom SH M a b = some M' ∧ (∀ x i, ¬ (a + 1 ≤ x ∧ x ≤ a + 4) → ¬ (x = a ∧ i = 0) → M' x i = M x i) ∧ M' a 0 = M b 0 ∧ (∀ j i : Int, 1 ≤ j → j ≤ 3 → 0 ≤ i → i < 12 → M' (a + j) i = M (b + j) i) ∧ (∀ i : Int, 0 ≤ i → i < 120 → M' (a + 4) i = M (b + 4) i) := by
  obtain ⟨k0, k1, k2, k3, k4, t1, t2, t3, t4, a0, a1, -⟩ := of_decide_eq_true (List.all_eq_true.mp led_k a ha)
  obtain ⟨q0, q1, q2, q3, q4, u1, u2, u3, u4, b0, b1, -⟩ := of_decide_eq_true (List.all_eq_true.mp led_k b hb')
  have dis := of_decide_eq_true (List.all_eq_true.mp (List.all_eq_true.mp led_d a ha) b hb') hab
  have z1 := lay_c hl t1
  have z2 := lay_c hl t2
  have z3 := lay_c hl t3
  have z4 := lay_c hl t4
  have w1 := lay_c hl u1
  have w2 := lay_c hl u2
  have w3 := lay_c hl u3
  have w4 := lay_c hl u4
  refine ⟨cp_ (cp_ (cp_ (cp_ (up_ M a 0 (M b 0)) (b + 1) 0 (a + 1) 0 12) (b + 2) 0 (a + 2) 0 12) (b + 3) 0 (a + 3) 0 12) (b + 4) 0 (a + 4) 0 120, ?_, ?_, ?_, ?_, ?_⟩
  · unfold fX3_copyFrom
    rw [q0, gd_t rfl, k0, gd_t rfl, bd_1]
    rw [show up_ M a 0 (M b 0) b 1 = b + 1 from (up_of (Ne.symm hab)).trans w1, show up_ M a 0 (M b 0) a 1 = a + 1 from (up_oi (by decide)).trans z1, q1, k1, gd_t (by decide), bd_1]
    simp (disch := omega) only [cp_of, up_of, up_oi, z2, w2, z3, w3, z4, w4, k2, k3, k4, q2, q3, q4, bd_1, true_and, gdT, gd_t]
  · intro x i h1 h2
    rw [cp_of (by omega), cp_of (by omega), cp_of (by omega), cp_of (by omega)]
    exact if_neg h2
  · rw [cp_of (by omega), cp_of (by omega), cp_of (by omega), cp_of (by omega), up_at]
  · intro j i j0 j1 i0 i1
    have : j = 1 ∨ j = 2 ∨ j = 3 := by omega
    rcases this with rfl | rfl | rfl
    · rw [cp_of (by omega), cp_of (by omega), cp_of (by omega), cp_in i0 i1, up_of (by omega)]
    · rw [cp_of (by omega), cp_of (by omega), cp_in i0 i1, cp_of (by omega), up_of (by omega)]
    · rw [cp_of (by omega), cp_in i0 i1, cp_of (by omega), cp_of (by omega), up_of (by omega)]
  · intro i i0 i1
    rw [cp_in i0 i1, cp_of (by omega), cp_of (by omega), cp_of (by omega), up_of (by omega)]
theorem CL_cp {M M' : AwM} {a b : Int} {s d : AwM} (h : CL M b s d) (ho : SoOK s) (h0 : M' a 0 = M b 0) (h1 : ∀ j i : Int, 1 ≤ j → j ≤ 3 → 0 ≤ i → i < 12 → M' (a + j) i = M (b + j) i) (h4 : ∀ i : Int, 0 ≤ i → i < 120 → M' (a + 4) i = M (b + 4) i) : CL M' a s d := by
  obtain ⟨c1, c2, c3, c4, c5⟩ := h
  have hc := ho.c
  have hp := ho.p
  refine ⟨h0.trans c1, ?_, ?_, ?_, ?_⟩
  · intro p p0 p1; rw [h1 _ _ (by omega) (by omega) (by omega) (by omega)]; exact c2 p p0 p1
  · intro p p0 p1; rw [h1 _ _ (by omega) (by omega) (by omega) (by omega)]; exact c3 p p0 p1
  · intro p p0 p1; rw [h1 _ _ (by omega) (by omega) (by omega) (by omega)]; exact c4 p p0 p1
  · intro c p p0 p1 p2 p3 p4; rw [h4 _ (by omega) (by omega)]; exact c5 c p p0 p1 p2 p3 p4
/-- all but layer L's cells stays -/
def mly (L : Int) (M' M : AwM) : Prop := ∀ a i : Int, ¬ (a = 197 ∧ i = L) → ¬ (198 ≤ a ∧ a ≤ 200 ∧ 12 * L ≤ i ∧ i < 12 * L + 12) → ¬ (a = 201 ∧ 120 * L ≤ i ∧ i < 120 * L + 120) → M' a i = M a i
theorem mly_mf {L : Int} {M M' : AwM} (h : mly L M' M) : mfr L M' M := fun a i _ _ x y z => h a i x y z
theorem copies_n {M : AwM} {s d : AwM} {A B : Int} (hl : LAY M) (ho : SoOK s) (A0 : 0 ≤ A) (A1 : A ≤ 21) (B0 : 0 ≤ B) (B1 : B ≤ 21) (hAB : A ≠ B) (h : ML M B s d) : ∃ M', fX9_copies SH M 167 A B = some M' ∧ mly A M' M ∧ ML M' A s d := by
  have hc := ho.c
  have hp := ho.p
  have l4 : LAY (up_ M 197 A (M 197 B)) := LAY_ua hl (nob_m _ (by decide))
  have key1 := lp_rel (body := u2 (fX9_copies_L14 SH 167 A B)) (P := fun j (t : Int × AwM) => t.1 = (j : Int) ∧ (∀ a i, ¬ (198 ≤ a ∧ a ≤ 200 ∧ 12 * A ≤ i ∧ i < 12 * A + 12) → t.2 a i = up_ M 197 A (M 197 B) a i) ∧ ∀ c : Int, 0 ≤ c → c < j → t.2 198 (12 * A + c) = M 198 (12 * B + c) ∧ t.2 199 (12 * A + c) = M 199 (12 * B + c) ∧ t.2 200 (12 * A + c) = M 200 (12 * B + c)) (X := fun r : AwM => (∀ a i, ¬ (198 ≤ a ∧ a ≤ 200 ∧ 12 * A ≤ i ∧ i < 12 * A + 12) → r a i = up_ M 197 A (M 197 B) a i) ∧ ∀ c : Int, 0 ≤ c → c < 12 → r 198 (12 * A + c) = M 198 (12 * B + c) ∧ r 199 (12 * A + c) = M 199 (12 * B + c) ∧ r 200 (12 * A + c) = M 200 (12 * B + c)) (n := 12) ?_ FU (0, up_ M 197 A (M 197 B)) (FU_gt (by omega)) ⟨rfl, fun _ _ _ => rfl, fun c x y => absurd x (by omega)⟩
  · obtain ⟨M1, r1, f1, g1⟩ := key1
    have l1 : LAY M1 := LAY_fr l4 (fun a i ha => f1 a i (fun z => by
      have : a = 198 ∨ a = 199 ∨ a = 200 := by omega
      exact nob_m a (by omega) ha))
    have key2 := lp_rel (body := u2 (fX9_copies_L94 SH 167 A B)) (P := fun j (t : Int × AwM) => t.1 = (j : Int) ∧ (∀ a i, ¬ (a = 201 ∧ 120 * A ≤ i ∧ i < 120 * A + 120) → t.2 a i = M1 a i) ∧ ∀ c : Int, 0 ≤ c → c < j → t.2 201 (120 * A + c) = M 201 (120 * B + c)) (X := fun r : AwM => (∀ a i, ¬ (a = 201 ∧ 120 * A ≤ i ∧ i < 120 * A + 120) → r a i = M1 a i) ∧ ∀ c : Int, 0 ≤ c → c < 120 → r 201 (120 * A + c) = M 201 (120 * B + c)) (n := 120) ?_ FU (0, M1) (FU_gt (by omega)) ⟨rfl, fun _ _ _ => rfl, fun c x y => absurd x (by omega)⟩
    · obtain ⟨M2, r2, f2, g2⟩ := key2
      refine ⟨M2, ?_, ?_, ?_⟩
      · unfold fX9_copies
        rw [kd167, gd_t rfl, ly167_48 hl, kd197, ga_t B0 (by omega), ga_t A0 (by omega), bd_1, r1, pb_1, u1_1, r2, pb_1, u1_1]
      · intro a i x y z
        rw [f2 a i z, f1 a i y]
        exact if_neg x
      · obtain ⟨c1, c2, c3, c4, c5⟩ := h
        refine ⟨?_, fun e x y => ?_, fun e x y => ?_, fun e x y => ?_, fun e q x y z w k => ?_⟩
        · rw [f2 _ _ (by omega), f1 _ _ (by omega), up_at]; exact c1
        · rw [f2 _ _ (by omega), (g1 e x (by omega)).1]; exact c2 e x y
        · rw [f2 _ _ (by omega), (g1 e x (by omega)).2.1]; exact c3 e x y
        · rw [f2 _ _ (by omega), (g1 e x (by omega)).2.2]; exact c4 e x y
        · rw [g2 _ (by omega) (by omega)]; exact c5 e q x y z w k
    · rintro j ⟨v, M3⟩ hj ⟨hv, f3, g3⟩
      change v = (j : Int) at hv
      change ∀ a i, ¬ (a = 201 ∧ 120 * A ≤ i ∧ i < 120 * A + 120) → M3 a i = M1 a i at f3
      subst hv
      by_cases hj2 : j < 120
      · have l : LAY M3 := LAY_fr l1 (fun a i ha => f3 a i (fun z => nob_m a (by omega) ha))
        refine Or.inl ⟨hj2, ((j : Int) + 1, up_ M3 201 (120 * A + j) (M 201 (120 * B + j))), ?_, by simp, fun a i x => ?_, fun c c0 c1 => ?_⟩
        · rw [u2_1]
          unfold fX9_copies_L94
          have e1 : M3 201 (120 * B + (j : Int)) = M 201 (120 * B + (j : Int)) := by
            rw [f3 _ _ (by omega), f1 _ _ (by omega)]; exact up_of (by decide)
          simp (disch := omega) only [bd_1, pb_1, u0_1, u1_1, u2_1, u3_1, u4_1, true_and, gdT, gd_t, kd167, kd168, kd169, kd170, kd171, kd172, kd173, kd174, kd175, kd176, kd177, kd178, kd179, kd180, kd181, kd182, kd183, kd184, kd185, kd186, kd187, kd188, kd189, kd190, kd191, kd192, kd193, kd194, kd195, kd196, kd197, kd198, kd199, kd200, kd201, kd202, kd203, kd204, kd205, kd206, kd207, ly167_0 l, ly167_14 l, ly167_15 l, ly167_16 l, ly167_17 l, ly167_18 l, ly167_19 l, ly167_20 l, ly167_21 l, ly167_22 l, ly167_23 l, ly167_24 l, ly167_25 l, ly167_26 l, ly167_27 l, ly167_28 l, ly167_29 l, ly167_30 l, ly167_31 l, ly167_32 l, ly167_33 l, ly167_34 l, ly167_37 l, ly167_38 l, ly167_39 l, ly167_40 l, ly167_41 l, ly167_44 l, ly167_47 l, ly167_48 l, ly167_49 l, ly167_50 l, ly167_51 l, ly167_52 l, ly167_56 l, ly167_63 l, ly167_64 l, ly167_65 l, ly167_68 l, ly167_69 l, w32_s, if_pos, e1]
        · exact (if_neg (by omega)).trans (f3 a i x)
        · show up_ M3 201 (120 * A + j) (M 201 (120 * B + j)) 201 (120 * A + c) = _
          by_cases g : c = j
          · rw [g, up_at]
          · rw [up_oi (by omega)]; exact g3 c c0 (by omega)
      · refine Or.inr ⟨M3, ?_, f3, fun c c0 c1 => g3 c c0 (by omega)⟩
        rw [u2_1]
        unfold fX9_copies_L94
        rw [if_neg (by omega)]
  · rintro j ⟨v, M3⟩ hj ⟨hv, f3, g3⟩
    change v = (j : Int) at hv
    change ∀ a i, ¬ (198 ≤ a ∧ a ≤ 200 ∧ 12 * A ≤ i ∧ i < 12 * A + 12) → M3 a i = up_ M 197 A (M 197 B) a i at f3
    subst hv
    by_cases hj2 : j < 12
    · have l : LAY M3 := LAY_fr l4 (fun a i ha => f3 a i (fun z => by
        have : a = 198 ∨ a = 199 ∨ a = 200 := by omega
        exact nob_m a (by omega) ha))
      have e1 : M3 198 (12 * B + (j : Int)) = M 198 (12 * B + (j : Int)) := (f3 _ _ (by omega)).trans (up_of (by decide))
      have e2 : M3 199 (12 * B + (j : Int)) = M 199 (12 * B + (j : Int)) := (f3 _ _ (by omega)).trans (up_of (by decide))
      have e3 : M3 200 (12 * B + (j : Int)) = M 200 (12 * B + (j : Int)) := (f3 _ _ (by omega)).trans (up_of (by decide))
      refine Or.inl ⟨hj2, ((j : Int) + 1, up_ (up_ (up_ M3 198 (12 * A + j) (M 198 (12 * B + j))) 199 (12 * A + j) (M 199 (12 * B + j))) 200 (12 * A + j) (M 200 (12 * B + j))), ?_, by simp, fun a i x => ?_, fun c c0 c1 => ?_⟩
      · rw [u2_1]
        unfold fX9_copies_L14
        simp (disch := omega) only [bd_1, pb_1, u0_1, u1_1, u2_1, u3_1, u4_1, true_and, gdT, gd_t, kd167, kd168, kd169, kd170, kd171, kd172, kd173, kd174, kd175, kd176, kd177, kd178, kd179, kd180, kd181, kd182, kd183, kd184, kd185, kd186, kd187, kd188, kd189, kd190, kd191, kd192, kd193, kd194, kd195, kd196, kd197, kd198, kd199, kd200, kd201, kd202, kd203, kd204, kd205, kd206, kd207, ly167_0 l, ly167_14 l, ly167_15 l, ly167_16 l, ly167_17 l, ly167_18 l, ly167_19 l, ly167_20 l, ly167_21 l, ly167_22 l, ly167_23 l, ly167_24 l, ly167_25 l, ly167_26 l, ly167_27 l, ly167_28 l, ly167_29 l, ly167_30 l, ly167_31 l, ly167_32 l, ly167_33 l, ly167_34 l, ly167_37 l, ly167_38 l, ly167_39 l, ly167_40 l, ly167_41 l, ly167_44 l, ly167_47 l, ly167_48 l, ly167_49 l, ly167_50 l, ly167_51 l, ly167_52 l, ly167_56 l, ly167_63 l, ly167_64 l, ly167_65 l, ly167_68 l, ly167_69 l, w32_s, if_pos, e1, e2, e3, up_of]
      · show up_ (up_ (up_ M3 198 (12 * A + j) (M 198 (12 * B + j))) 199 (12 * A + j) (M 199 (12 * B + j))) 200 (12 * A + j) (M 200 (12 * B + j)) a i = _
        rw [← f3 a i x]
        exact (if_neg (by omega)).trans ((if_neg (by omega)).trans (if_neg (by omega)))
      · show up_ (up_ (up_ M3 198 (12 * A + j) (M 198 (12 * B + j))) 199 (12 * A + j) (M 199 (12 * B + j))) 200 (12 * A + j) (M 200 (12 * B + j)) 198 (12 * A + c) = _ ∧ up_ (up_ (up_ M3 198 (12 * A + j) (M 198 (12 * B + j))) 199 (12 * A + j) (M 199 (12 * B + j))) 200 (12 * A + j) (M 200 (12 * B + j)) 199 (12 * A + c) = _ ∧ up_ (up_ (up_ M3 198 (12 * A + j) (M 198 (12 * B + j))) 199 (12 * A + j) (M 199 (12 * B + j))) 200 (12 * A + j) (M 200 (12 * B + j)) 200 (12 * A + c) = _
        by_cases g : c = j
        · rw [g]
          simp (disch := omega) only [up_of, up_at, true_and]
        · simp (disch := omega) only [up_of, up_oi]
          exact g3 c c0 (by omega)
    · refine Or.inr ⟨M3, ?_, f3, fun c c0 c1 => g3 c c0 (by omega)⟩
      rw [u2_1]
      unfold fX9_copies_L14
      rw [if_neg (by omega)]
end PCOPY
