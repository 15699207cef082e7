/-! the model's society: its head -/
section PMSO
def mso (b : Int) (M' M : AwM) : Prop := ∀ a i : Int, ¬ (a = 167 ∧ (1 ≤ i ∧ i ≤ 12 ∨ i = 35 ∨ i = 36 ∨ i = 42 ∨ i = 43 ∨ i = 45 ∨ i = 46)) → ¬ (190 ≤ a ∧ a ≤ 195) → ¬ inb b a i → M' a i = M a i
theorem mso_tr {b : Int} {M M1 M2 : AwM} (h : mso b M1 M) (h' : mso b M2 M1) : mso b M2 M := fun a i p q r => (h' a i p q r).trans (h a i p q r)
theorem mso_md {b : Int} {M M1 : AwM} (h : mdf b M1 M) : mso b M1 M := fun a i p q r => h a i (by omega) q r
theorem mso_up {b : Int} {M : AwM} {i v : Int} (h : 1 ≤ i ∧ i ≤ 12 ∨ i = 35 ∨ i = 36) : mso b (up_ M 167 i v) M := fun a' i' p _ _ => up_nn (by omega)
theorem mso_ub {b : Int} {M : AwM} {a i v : Int} (h : inb b a i) : mso b (up_ M a i v) M := fun a' i' _ _ r => up_nn (fun z => r (by rw [z.1, z.2]; exact h))
theorem lay_mso : layT.all (fun q => decide (¬ (q.1 = 167 ∧ (1 ≤ q.2.1 ∧ q.2.1 ≤ 13 ∨ q.2.1 = 35 ∨ q.2.1 = 36 ∨ q.2.1 = 42 ∨ q.2.1 = 43 ∨ q.2.1 = 45 ∨ q.2.1 = 46 ∨ q.2.1 = 54 ∨ q.2.1 = 67)) ∧ ¬ (190 ≤ q.1 ∧ q.1 ≤ 195) ∧ ¬ (169 ≤ q.1 ∧ q.1 ≤ 189) ∧ ¬ (197 ≤ q.1 ∧ q.1 ≤ 201))) = true := by decide +kernel
theorem LAY_ms {b : Int} {M M' : AwM} (h : LAY M) (f : mso b M' M) : LAY M' := LAY_fq h (fun q hq => by
  have t := of_decide_eq_true (List.all_eq_true.mp lay_mso q hq)
  exact f _ _ (by omega) (by omega) (by unfold inb; omega))
theorem mso_lo {b : Int} {M M' : AwM} (f : mso b M' M) : lof M' M := fun a i x => f a i (by omega) (by omega) (by unfold inb; omega)
/-- the bank that is not told stays -/
theorem MS_o {M M' s : AwM} {b c : Int} (h : MS M c s) (ok : SoOK s) (hb : b = 0 ∨ b = 1) (hc : c = 1 - b) (f : mso b M' M) : MS M' c s := by
  have g : ∀ a i : Int, 169 ≤ a → a ≤ 189 → ¬ inb b a i → M' a i = M a i := fun a i x y z => f a i (by omega) (by omega) z
  have p := ok.p
  have q := ok.c
  have r := ok.g
  obtain ⟨⟨s1, s2, s3, s4, s5⟩, s6, s7, s8, s9, s10, s11, s12⟩ := h
  have mf : ∀ fr bh : Int, ((fr = 181 ∧ bh = 182) ∨ (fr = 183 ∧ bh = 184)) → ∀ t : Int → Int, MF M c fr bh t → MF M' c fr bh t := fun fr bh e t ht => by
    unfold MF
    rw [g fr c (by omega) (by omega) (by unfold inb; omega), g bh c (by omega) (by omega) (by unfold inb; omega)]
    refine ⟨ht.1, fun z => ?_⟩
    obtain ⟨x1, x2, x3, x4⟩ := ht.2 z
    refine ⟨x1, x2, x3, fun i y1 y2 => ?_⟩
    rw [g 185 _ (by decide) (by decide) (by unfold inb; omega), g 186 _ (by decide) (by decide) (by unfold inb; omega)]
    exact x4 i y1 y2
  refine ⟨⟨?_, ?_, ?_, ?_, ?_⟩, fun w x y => ?_, fun w x y => ?_, fun w x y => ?_, fun w x y => ?_, mf _ _ (Or.inl ⟨rfl, rfl⟩) _ s10, mf _ _ (Or.inr ⟨rfl, rfl⟩) _ s11, fun k w x y z u => ?_⟩
  · rw [g _ _ (by decide) (by decide) (by unfold inb; omega)]; exact s1
  · rw [g _ _ (by decide) (by decide) (by unfold inb; omega)]; exact s2
  · rw [g _ _ (by decide) (by decide) (by unfold inb; omega)]; exact s3
  · rw [g _ _ (by decide) (by decide) (by unfold inb; omega)]; exact s4
  · rw [g _ _ (by decide) (by decide) (by unfold inb; omega)]; exact s5
  · rw [g _ _ (by decide) (by decide) (by unfold inb; omega)]; exact s6 w x y
  · rw [g _ _ (by decide) (by decide) (by unfold inb; omega)]; exact s7 w x y
  · rw [g _ _ (by decide) (by decide) (by unfold inb; omega)]; exact s8 w x y
  · rw [g _ _ (by decide) (by decide) (by unfold inb; omega)]; exact s9 w x y
  · have t := s12 k w x y z u
    unfold mnm at t ⊢
    rcases (show k = 0 ∨ k = 1 ∨ k = 2 by omega) with rfl | rfl | rfl
    · rw [if_pos rfl] at t ⊢
      rw [g _ _ (by decide) (by decide) (by unfold inb; omega)]; exact t
    · rw [if_neg (by decide), if_pos rfl] at t ⊢
      rw [g _ _ (by decide) (by decide) (by unfold inb; omega)]; exact t
    · rw [if_neg (by decide), if_neg (by decide)] at t ⊢
      rw [g _ _ (by decide) (by decide) (by unfold inb; omega)]; exact t
theorem LAY_ma' {M : AwM} {k v : Int} (h : LAY M) (hk : (1 ≤ k ∧ k ≤ 13) ∨ k = 35 ∨ k = 36) : LAY (up_ M 167 k v) := LAY_fq h (fun q hq => by
  have t := of_decide_eq_true (List.all_eq_true.mp lay_ma q hq)
  exact up_nn (by omega))
/-- the counts of the bank begin at none -/
theorem mcnt_n {M : AwM} {b : Int} (l : LAY M) (hb : b = 0 ∨ b = 1) (e : M 167 36 = b) : ∃ M', (∀ R, (pb (fX9_ahead SH M' 167) <| u1 fun (M38 : AwM) => (pb (lp (u2 (fX9_society_L119 SH 167)) FU (0, M38)) (u2 (fun (x47 : Int) (M48 : AwM) => fX9_society_J148 SH M48 167 x47)))) = R → (gd_ ((kd_ SH (M 167 14)).1 = 1 ∧ (0 : Int) ≤ (M 167 36) ∧ (M 167 36) < ((kd_ SH (M 167 14)).2 : Int)) (bd_ (up_ M (M 167 14) (M 167 36) 0) fun (M15 : AwM) => (gd_ ((kd_ SH (M15 167 16)).1 = 1 ∧ (0 : Int) ≤ (M15 167 36) ∧ (M15 167 36) < ((kd_ SH (M15 167 16)).2 : Int)) (bd_ (up_ M15 (M15 167 16) (M15 167 36) 0) fun (M18 : AwM) => (gd_ ((kd_ SH (M18 167 21)).1 = 1 ∧ (0 : Int) ≤ (M18 167 36) ∧ (M18 167 36) < ((kd_ SH (M18 167 21)).2 : Int)) (bd_ (up_ M18 (M18 167 21) (M18 167 36) 0) fun (M21 : AwM) => (gd_ ((kd_ SH (M21 167 24)).1 = 1 ∧ (0 : Int) ≤ (M21 167 36) ∧ (M21 167 36) < ((kd_ SH (M21 167 24)).2 : Int)) (bd_ (up_ M21 (M21 167 24) (M21 167 36) 0) fun (M24 : AwM) => (gd_ ((kd_ SH (M24 167 25)).1 = 1 ∧ (0 : Int) ≤ (M24 167 36) ∧ (M24 167 36) < ((kd_ SH (M24 167 25)).2 : Int)) (bd_ (up_ M24 (M24 167 25) (M24 167 36) 0) fun (M27 : AwM) => (gd_ ((kd_ SH (M27 167 26)).1 = 1 ∧ (0 : Int) ≤ (M27 167 36) ∧ (M27 167 36) < ((kd_ SH (M27 167 26)).2 : Int)) (bd_ (up_ M27 (M27 167 26) (M27 167 36) (-1)) fun (M30 : AwM) => (gd_ ((kd_ SH (M30 167 28)).1 = 1 ∧ (0 : Int) ≤ (M30 167 36) ∧ (M30 167 36) < ((kd_ SH (M30 167 28)).2 : Int)) (bd_ (up_ M30 (M30 167 28) (M30 167 36) (-1)) fun (M33 : AwM) => (bd_ (up_ M33 167 35 0) fun (M35 : AwM) => (pb (fX9_ahead SH M35 167) <| u1 fun (M38 : AwM) => (pb (lp (u2 (fX9_society_L119 SH 167)) FU (0, M38)) (u2 (fun (x47 : Int) (M48 : AwM) => fX9_society_J148 SH M48 167 x47))))))))))))))))))) = R) ∧ LAY M' ∧ (M' 169 b = 0 ∧ M' 171 b = 0 ∧ M' 176 b = 0 ∧ M' 179 b = 0 ∧ M' 180 b = 0) ∧ M' 181 b = -1 ∧ M' 183 b = -1 ∧ M' 167 35 = 0 ∧ ∀ a i : Int, ¬ (a = 167 ∧ i = 35) → ¬ inb b a i → M' a i = M a i := by
  have l1 : LAY (up_ M 169 b 0) := LAY_ua l (by decide)
  have l2 : LAY (up_ (up_ M 169 b 0) 171 b 0) := LAY_ua l1 (by decide)
  have l3 : LAY (up_ (up_ (up_ M 169 b 0) 171 b 0) 176 b 0) := LAY_ua l2 (by decide)
  have l4 : LAY (up_ (up_ (up_ (up_ M 169 b 0) 171 b 0) 176 b 0) 179 b 0) := LAY_ua l3 (by decide)
  have l5 : LAY (up_ (up_ (up_ (up_ (up_ M 169 b 0) 171 b 0) 176 b 0) 179 b 0) 180 b 0) := LAY_ua l4 (by decide)
  have l6 : LAY (up_ (up_ (up_ (up_ (up_ (up_ M 169 b 0) 171 b 0) 176 b 0) 179 b 0) 180 b 0) 181 b (-1)) := LAY_ua l5 (by decide)
  have l7 : LAY (up_ (up_ (up_ (up_ (up_ (up_ (up_ M 169 b 0) 171 b 0) 176 b 0) 179 b 0) 180 b 0) 181 b (-1)) 183 b (-1)) := LAY_ua l6 (by decide)
  have e1 : (up_ M 169 b 0) 167 36 = b := (up_of (by decide)).trans e
  have e2 : (up_ (up_ M 169 b 0) 171 b 0) 167 36 = b := (up_of (by decide)).trans e1
  have e3 : (up_ (up_ (up_ M 169 b 0) 171 b 0) 176 b 0) 167 36 = b := (up_of (by decide)).trans e2
  have e4 : (up_ (up_ (up_ (up_ M 169 b 0) 171 b 0) 176 b 0) 179 b 0) 167 36 = b := (up_of (by decide)).trans e3
  have e5 : (up_ (up_ (up_ (up_ (up_ M 169 b 0) 171 b 0) 176 b 0) 179 b 0) 180 b 0) 167 36 = b := (up_of (by decide)).trans e4
  have e6 : (up_ (up_ (up_ (up_ (up_ (up_ M 169 b 0) 171 b 0) 176 b 0) 179 b 0) 180 b 0) 181 b (-1)) 167 36 = b := (up_of (by decide)).trans e5
  have e7 : (up_ (up_ (up_ (up_ (up_ (up_ (up_ M 169 b 0) 171 b 0) 176 b 0) 179 b 0) 180 b 0) 181 b (-1)) 183 b (-1)) 167 36 = b := (up_of (by decide)).trans e6
  have l8 : LAY (up_ (up_ (up_ (up_ (up_ (up_ (up_ (up_ M 169 b 0) 171 b 0) 176 b 0) 179 b 0) 180 b 0) 181 b (-1)) 183 b (-1)) 167 35 0) := LAY_ma' l7 (Or.inr (Or.inl rfl))
  refine ⟨up_ (up_ (up_ (up_ (up_ (up_ (up_ (up_ M 169 b 0) 171 b 0) 176 b 0) 179 b 0) 180 b 0) 181 b (-1)) 183 b (-1)) 167 35 0, fun R hR => ?_, l8, ⟨?_, ?_, ?_, ?_, ?_⟩, ?_, ?_, up_at, fun a i x y => ?_⟩
  · rw [ly167_14 l, kd169, e, ga_t (by omega) (by omega), bd_1, ly167_16 l1, kd171, e1, ga_t (by omega) (by omega), bd_1, ly167_21 l2, kd176, e2, ga_t (by omega) (by omega), bd_1, ly167_24 l3, kd179, e3, ga_t (by omega) (by omega), bd_1, ly167_25 l4, kd180, e4, ga_t (by omega) (by omega), bd_1, ly167_26 l5, kd181, e5, ga_t (by omega) (by omega), bd_1, ly167_28 l6, kd183, e6, ga_t (by omega) (by omega), bd_1, bd_1]
    exact hR
  · rw [up_of (by decide), up_of (by decide), up_of (by decide), up_of (by decide), up_of (by decide), up_of (by decide), up_of (by decide), up_at]
  · rw [up_of (by decide), up_of (by decide), up_of (by decide), up_of (by decide), up_of (by decide), up_of (by decide), up_at]
  · rw [up_of (by decide), up_of (by decide), up_of (by decide), up_of (by decide), up_of (by decide), up_at]
  · rw [up_of (by decide), up_of (by decide), up_of (by decide), up_of (by decide), up_at]
  · rw [up_of (by decide), up_of (by decide), up_of (by decide), up_at]
  · rw [up_of (by decide), up_of (by decide), up_at]
  · rw [up_of (by decide), up_at]
  · unfold inb at y
    rw [up_nn (by omega), up_nn (by omega), up_nn (by omega), up_nn (by omega), up_nn (by omega), up_nn (by omega), up_nn (by omega), up_nn (by omega)]
end PMSO
