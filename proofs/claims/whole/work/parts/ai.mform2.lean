/-! the model tells a formula: the whole statement -/
section PMF2
variable {T : Int → Int} {L K : Nat} {b : Int} {D M : AwM} {i : Nat}
theorem FIN_FU {d : Nat} {M M' : AwM} (h : FIN d M M') (hd : d ≤ 9999) : lp (u2 (fX9_reads_L43 SH 167)) FU (1, M) = some M' := by
  obtain ⟨n, hn, f⟩ := h
  have e : FU = (100000 - n) + n := by rw [show FU = 100000 from rfl]; omega
  rw [e]
  exact f _
/-- reading is set up -/
theorem mset_n {M1 : AwM} {k fr bh kd : Int} (h : MD T L K M1 b D i) (hk : (k = 6 ∧ fr = 181 ∧ bh = 182 ∧ kd = 1) ∨ (k = 7 ∧ fr = 183 ∧ bh = 184 ∧ kd = 0)) {cf : Nat} (h35 : M1 167 35 = (cf : Int)) (hcf : cf + 1 ≤ i) : ∃ M2, (∀ R, lp (u2 (fX9_reads_L43 SH 167)) FU (1, M2) = R → fX9_reads SH (up_ M1 fr b (cf : Int)) 167 kd = R) ∧ MK T L K b cf M2 i ((kd, 0, true, 0, []) :: []) 0 [] false ∧ qfr b cf fr M2 M1 ∧ M2 fr b = (cf : Int) := by
  obtain ⟨⟨a1, a2, a3, a4, a5, a6, a7, a8⟩, _⟩ := id h
  have hfr : fr ≠ 167 ∧ fr ≠ 168 ∧ 179 ≤ fr ∧ fr ≤ 184 := by omega
  have ne : ∀ a x : Int, ¬ (a = 167 ∧ (x = 42 ∨ x = 43 ∨ x = 45 ∨ x = 46)) → ¬ (a = fr ∧ x = b) → up_ (up_ (up_ (up_ (up_ M1 fr b (cf : Int)) 167 42 0) 167 43 0) 167 45 0) 167 46 0 a x = M1 a x := fun a x p q => by
    rw [up_nn (by omega), up_nn (by omega), up_nn (by omega), up_nn (by omega), up_nn q]
  have fm : mdf b (up_ (up_ (up_ (up_ (up_ M1 fr b (cf : Int)) 167 42 0) 167 43 0) 167 45 0) 167 46 0) M1 := fun a x p q r => ne a x (by omega) (fun z => r (by unfold inb; omega))
  have v42 : up_ (up_ (up_ (up_ (up_ M1 fr b (cf : Int)) 167 42 0) 167 43 0) 167 45 0) 167 46 0 167 42 = 0 := by rw [up_oi (by decide), up_oi (by decide), up_oi (by decide), up_at]
  have v43 : up_ (up_ (up_ (up_ (up_ M1 fr b (cf : Int)) 167 42 0) 167 43 0) 167 45 0) 167 46 0 167 43 = 0 := by rw [up_oi (by decide), up_oi (by decide), up_at]
  have v45 : up_ (up_ (up_ (up_ (up_ M1 fr b (cf : Int)) 167 42 0) 167 43 0) 167 45 0) 167 46 0 167 45 = 0 := by rw [up_oi (by decide), up_at]
  have v46 : up_ (up_ (up_ (up_ (up_ M1 fr b (cf : Int)) 167 42 0) 167 43 0) 167 45 0) 167 46 0 167 46 = 0 := up_at
  have vfr : up_ (up_ (up_ (up_ (up_ M1 fr b (cf : Int)) 167 42 0) 167 43 0) 167 45 0) 167 46 0 fr b = (cf : Int) := by rw [up_of hfr.1, up_of hfr.1, up_of hfr.1, up_of hfr.1, up_at]
  have pre : ∀ R, pb (fX9_pushes SH (up_ (up_ (up_ (up_ (up_ M1 fr b (cf : Int)) 167 42 0) 167 43 0) 167 45 0) 167 46 0) 167 kd) (u1 fun (M13 : AwM) => (pb (lp (u2 (fX9_reads_L43 SH 167)) FU (1, M13)) (u1 (fun (tq29 : AwM) => some tq29)))) = R → fX9_reads SH (up_ M1 fr b (cf : Int)) 167 kd = R := fun R hR => by
    unfold fX9_reads
    rw [kd167, gd_t rfl, up_of (Ne.symm hfr.1), a4, if_neg (show ¬ (0 : Int) < 0 by decide), bd_1, bd_1, bd_1, bd_1]
    rcases hk with ⟨_, _, _, rfl⟩ | ⟨_, _, _, rfl⟩
    · rw [if_neg (show ¬ (1 : Int) = 0 by decide)]; exact hR
    · rw [if_pos rfl]; exact hR
  generalize up_ (up_ (up_ (up_ (up_ M1 fr b (cf : Int)) 167 42 0) 167 43 0) 167 45 0) 167 46 0 = M9 at *
  have mb : MB T L b cf M9 [] 0 [] := by
    have hK := a8.1.2
    refine ⟨⟨LAY_md a1 fm, (ne _ _ (by omega) (by omega)).trans a3, (ne _ _ (by omega) (by omega)).trans a4, ⟨⟨(ne _ _ (by omega) (by omega)).trans a2.1.1, (ne _ _ (by omega) (by omega)).trans a2.1.2⟩, a2.2.1, fun n x y => ⟨(a2.2.2 n x y).1, (ne _ _ (by omega) (by omega)).trans (a2.2.2 n x y).2⟩⟩⟩, ⟨v42, v43, v45, ?_⟩, ⟨trivial, fun k c e => absurd e (by simp)⟩, ⟨?_, Nat.zero_le _, Nat.zero_le _, Nat.zero_le _⟩, a6⟩
    · rw [ne _ _ (by omega) (by omega), h35]; show _ = (cf : Int) + ((0 : Nat) : Int); omega
    · show cf + 0 ≤ 1600; omega
  obtain ⟨M2, e2, m2, f2⟩ := MB_push (kd := kd) mb (by show 0 < 8; decide)
  have w46 := mpush_46 mb (by show 0 < 8; decide) e2
  have mt : MTK M9 (tks T L i) := by
    unfold MTK
    rw [ne 167 4 (by omega) (by omega), ne 167 5 (by omega) (by omega), ne 167 12 (by omega) (by omega), ne 167 3 (by omega) (by omega), ne 167 6 (by omega) (by omega), ne 167 7 (by omega) (by omega)]
    exact a5
  refine ⟨M2, fun R hR => pre R ?_, ⟨m2, MTK_mb mt f2, by rw [w46, v46]; rfl, a7, a8, ?_, by show 1 ≤ 0 + 1; decide⟩, fun a x p q r s => ?_, ?_⟩
  · rw [e2, pb_1, u1_1]
    rw [← hR]
    cases lp (u2 (fX9_reads_L43 SH 167)) FU (1, M2) with
    | none => rfl
    | some v => rfl
  · show cf + 0 + (0 + 0) + ((if kd = 3 ∨ kd = 4 then 1 else 0) + 0) + 1 ≤ i
    rw [if_neg (by omega)]; omega
  · rw [mpf_mb f2 a x (by omega) q r, ne a x (by omega) s]
  · rw [mpf_mb f2 _ _ (by omega) (by omega) (by omega), vfr]
theorem mform_r {M1 : AwM} {k fr bh kd : Int} (h : MD T L K M1 b D i) (hk : (k = 6 ∧ fr = 181 ∧ bh = 182 ∧ kd = 1) ∨ (k = 7 ∧ fr = 183 ∧ bh = 184 ∧ kd = 0)) {cf : Nat} (h35 : M1 167 35 = (cf : Int)) (hcf : cf + 1 ≤ i) {i0 : Nat} (hi0 : i = i0 + 1) {r : (Int × Nat) ⊕ (List Int × Nat)} (hr : FQ T L K k i0 r) : ∃ M2, fX9_reads SH (up_ M1 fr b (cf : Int)) 167 kd = some M2 ∧ M2 167 36 = b ∧ LAY M2 ∧ (match r with
  | .inl q => 0 < q.1 ∧ MBd b (up_ M2 bh b (M2 167 35)) M1 q.1 q.2
  | .inr q => mdf b (up_ M2 bh b (M2 167 35)) M1 ∧ (MD T L K (up_ M2 bh b (M2 167 35)) b (dQ D k q.1) q.2 ∨ ((tks T L q.2).1 = 5 ∧ up_ M2 bh b (M2 167 35) 167 8 = 1 ∧ up_ M2 bh b (M2 167 35) 167 9 = ((tks T L q.2).2.2.2.1 : Int)))) := by
  subst hi0
  obtain ⟨M2, pre, mk, q2, vf⟩ := mset_n h hk h35 hcf
  have hK := mk.2.2.2.2.1.1.2
  have iK := mk.2.2.2.1
  have hq : ∀ M3 M4 : AwM, mpf b cf M3 M2 → mpf b cf M4 M3 → qfr b cf fr M4 M1 := fun M3 M4 f g a x p q r s => by rw [g a x p q r, f a x p q r, q2 a x p q r s]
  have fin : ∀ M4 : AwM, qfr b cf fr M4 M1 → M4 167 36 = b ∧ LAY M4 ∧ mdf b (up_ M4 bh b (M4 167 35)) M1 ∧ (∀ x : Int, up_ M4 bh b (M4 167 35) 167 x = M4 167 x) := fun M4 q4 => ⟨(q4 167 36 (by omega) (by omega) (by omega) (by omega)).trans h.in', LAY_md h.lay (mdf_q (by omega) q4), mdf_tr (mdf_q (by omega) q4) (mdf_up (Or.inl (Or.inl ⟨by omega, rfl⟩))), fun x => up_of (by omega)⟩
  cases r with
  | inl q =>
    obtain ⟨kp, k6, k7⟩ := hr
    have bad : ∃ M' : AwM, FIN (K - (i0 + 1) + 2) M2 M' ∧ BAD b cf M' M2 q.1 q.2 := by
      rcases hk with ⟨rfl, rfl, rfl, rfl⟩ | ⟨rfl, rfl, rfl, rfl⟩
      · exact k6 rfl b cf M2 1 0 [] [] [] rfl mk (fun x hx => by simp at hx) (by show 0 + 0 ≤ _; omega)
      · exact k7 rfl b cf M2 0 0 0 true [] [] [] mk (by decide) (fun q => absurd q (by decide)) (fun x hx => by simp at hx) (by show 0 + 0 ≤ _; omega)
    obtain ⟨M', r1, b1, b2, b3⟩ := bad
    obtain ⟨g1, g2, g3, g4⟩ := fin M' (hq M2 M' mpf_rf b3)
    exact ⟨M', pre _ (FIN_FU r1 (by omega)), g1, g2, kp, (g4 8).trans b1, (g4 9).trans b2, g3⟩
  | inr q =>
    obtain ⟨k6, k7, l1, l2, l3⟩ := hr
    have hT : isT kd = decide (k = 6) := by
      rcases hk with ⟨rfl, rfl, rfl, rfl⟩ | ⟨rfl, rfl, rfl, rfl⟩ <;> rfl
    have good : ∃ (M' : AwM) (X C1 : List Int) (ph : Int), RUN (q.2 - (i0 + 1)) M2 M' ∧ MK T L K b cf M' q.2 ((kd, ph, false, 0, X) :: []) (0 + nots X) C1 true ∧ mpf b cf M' M2 ∧ (∀ x ∈ X, 1 ≤ rk x) ∧ C1 ++ X.map cel = q.1 ∧ (ph < 2 → ar (tks T L q.2) = false) ∧ (isT kd = true → ph ≠ 0 ∧ ow (tks T L q.2) 18 = false ∧ ow (tks T L q.2) 17 = false) := by
      rcases hk with ⟨rfl, rfl, rfl, rfl⟩ | ⟨rfl, rfl, rfl, rfl⟩
      · obtain ⟨kt, ty, tl⟩ := k6 rfl
        obtain ⟨M', X, C1, ph, x1, x2, x3, x4, x5, x6, x7⟩ := kt b cf M2 1 0 [] [] [] rfl mk (fun x hx => by simp at hx) (by show 0 + 0 ≤ _; omega)
        rw [List.append_nil] at x2
        exact ⟨M', X, C1, ph, x1, x2, x3, x4, x5.trans (List.nil_append _), x7, fun _ => ⟨x6, tl⟩⟩
      · obtain ⟨kt, ty, tl⟩ := k7 rfl
        obtain ⟨M', X, C1, x1, x2, x3, x4, x5⟩ := kt b cf M2 0 0 0 true [] [] [] mk (by decide) (fun q => absurd q (by decide)) (fun x hx => by simp at hx) (by show 0 + 0 ≤ _; omega)
        rw [List.append_nil] at x2
        refine ⟨M', X, C1, 0, x1, ?_, x3, fun x hx => by have := (x4 x hx).1; omega, x5.trans (List.nil_append _), fun _ => tl, fun q => absurd q (by decide)⟩
        rw [nots_0 (fun x hx => (x4 x hx).2)]; exact x2
    have c0 : 0 < q.1.length := by
      have : q.1 ≠ [] := fun z => by
        rcases hk with ⟨rfl, rfl, rfl, rfl⟩ | ⟨rfl, rfl, rfl, rfl⟩
        · have := (k6 rfl).2.1 [] (by decide); rw [z] at this; exact absurd this (by decide)
        · have := (k7 rfl).2.1 [] (by decide); rw [z] at this; exact absurd this (by decide)
      exact List.length_pos_iff.mpr this
    obtain ⟨M', X, C1, ph, x1, x2, x3, x4, x5, x6, x7⟩ := good
    by_cases z5 : (tks T L q.2).1 = 5
    · obtain ⟨M3, r3, b1, b2, b3⟩ := mgo_5 x2 z5
      obtain ⟨g1, g2, g3, g4⟩ := fin M3 (hq M' M3 x3 b3)
      exact ⟨M3, pre _ (FIN_FU (RUN_fin x1 r3) (by omega)), g1, g2, g3, Or.inr ⟨z5, (g4 8).trans b1, (g4 9).trans b2⟩⟩
    · obtain ⟨M3, r3, m3, t3, f3⟩ := mgo_end x2 (by omega) z5 x6 x7 x4
      rw [x5] at m3
      have q3 := hq M' M3 x3 f3
      obtain ⟨g1, g2, g3, g4⟩ := fin M3 q3
      have v3 : M3 fr b = (cf : Int) := by rw [f3 _ _ (by omega) (by omega) (by omega), x3 _ _ (by omega) (by omega) (by omega), vf]
      obtain ⟨md, mf⟩ := MD_Q (k := k) (bh := bh) h (by omega) h35 hcf q3 v3 m3 t3 l3 l1 c0
      exact ⟨M3, pre _ (FIN_FU (RUN_fin x1 r3) (by omega)), g1, g2, g3, Or.inl md⟩
theorem mform_n {k : Int} (h : MD T L K M b D i) (hi : 1 ≤ (tks T L i).1 ∧ (tks T L i).1 ≤ 4) (hk : k = 6 ∨ k = 7) (hk0 : 0 ≤ D k (-1)) : (0 < D k (-1) → MOut T L K (if k = 6 then fX9_presenting SH M 167 else fX9_pricing SH M 167) M b (.inl (6, (tks T L i).2.2.1))) ∧ (D k (-1) = 0 → ∀ r, FQ T L K k i r → MOut T L K (if k = 6 then fX9_presenting SH M 167 else fX9_pricing SH M 167) M b (dR D k r)) := by
  have l := h.lay
  have b01 := h.b01
  obtain ⟨M1, e1, h1, f1⟩ := (mcount_n h hi (v := 0)).1 rfl
  obtain ⟨Mb, eb, mb⟩ := (mcount_n h hi (v := 1)).2 (by decide)
  obtain ⟨cf, d1, d2, d3, d4⟩ := h.2.2.2
  have h35 : M1 167 35 = (cf : Int) := (f1 _ _ (by omega)).trans d1
  rcases hk with rfl | rfl
  · have r5 := h.2.1.2.2.2.2.2.1
    rw [if_pos rfl]
    unfold fX9_presenting
    rw [kd167, gd_t rfl, ly167_26 l, kd181, h.in', ga_t (by omega) (by omega)]
    refine ⟨fun z => ?_, fun z r hr => ?_⟩
    · have := (r5.2 z).1
      rw [if_neg (by omega)]
      refine ⟨Mb, ?_, mb⟩
      unfold fX9_presenting_J19
      rw [kd167, gd_t rfl, eb, pb_1, u2_1, if_pos rfl]
    · obtain ⟨M2, e2, g1, g2, hm⟩ := mform_r (k := 6) (fr := 181) (bh := 182) (kd := 1) h1 (Or.inl ⟨rfl, rfl, rfl, rfl⟩) h35 (by omega) rfl hr
      have run : (if M 181 b = -1 then fX9_presenting_J19 SH M 167 167 0 else fX9_presenting_J19 SH M 167 167 1) = some (up_ M2 182 b (M2 167 35)) := by
        rw [if_pos (r5.1 z)]
        unfold fX9_presenting_J19
        rw [kd167, gd_t rfl, e1, pb_1, u2_1, if_neg (show ¬ (1 : Int) = 0 by decide), gd_t rfl, ly167_26 h1.lay, kd181, h1.in', ga_t (by omega) (by omega), h35, bd_1, e2, pb_1, u1_1, ly167_27 g2, kd182, g1, ga_t (by omega) (by omega), bd_1]
      rw [run]
      cases r with
      | inl q => exact ⟨_, rfl, MBd_tr (mdf_ma f1) hm.2⟩
      | inr q => exact ⟨_, rfl, mdf_tr (mdf_ma f1) hm.1, hm.2⟩
  · have r5 := h.2.1.2.2.2.2.2.2.1
    rw [if_neg (by decide)]
    unfold fX9_pricing
    rw [kd167, gd_t rfl, ly167_28 l, kd183, h.in', ga_t (by omega) (by omega)]
    refine ⟨fun z => ?_, fun z r hr => ?_⟩
    · have := (r5.2 z).1
      rw [if_neg (by omega)]
      refine ⟨Mb, ?_, mb⟩
      unfold fX9_pricing_J19
      rw [kd167, gd_t rfl, eb, pb_1, u2_1, if_pos rfl]
    · obtain ⟨M2, e2, g1, g2, hm⟩ := mform_r (k := 7) (fr := 183) (bh := 184) (kd := 0) h1 (Or.inr ⟨rfl, rfl, rfl, rfl⟩) h35 (by omega) rfl hr
      have run : (if M 183 b = -1 then fX9_pricing_J19 SH M 167 167 0 else fX9_pricing_J19 SH M 167 167 1) = some (up_ M2 184 b (M2 167 35)) := by
        rw [if_pos (r5.1 z)]
        unfold fX9_pricing_J19
        rw [kd167, gd_t rfl, e1, pb_1, u2_1, if_neg (show ¬ (1 : Int) = 0 by decide), gd_t rfl, ly167_28 h1.lay, kd183, h1.in', ga_t (by omega) (by omega), h35, bd_1, e2, pb_1, u1_1, ly167_29 g2, kd184, g1, ga_t (by omega) (by omega), bd_1]
      rw [run]
      cases r with
      | inl q => exact ⟨_, rfl, MBd_tr (mdf_ma f1) hm.2⟩
      | inr q => exact ⟨_, rfl, mdf_tr (mdf_ma f1) hm.1, hm.2⟩
end PMF2
