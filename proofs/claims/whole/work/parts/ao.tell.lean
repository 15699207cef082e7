/-! the class tells a society -/
section PTEL
variable {T : Int → Int} {L K : Nat}
def D0 : AwM := fun _ _ => 0
theorem D0_ok : DOK D0 := by
  refine ⟨⟨⟨by decide, by decide⟩, ⟨by decide, by decide⟩, ⟨by decide, by decide⟩, ⟨by decide, by decide⟩, ⟨by decide, by decide⟩, fun p x y => ?_, fun p x y => ?_, fun p x y => ?_, fun p x y => ?_, ⟨by decide, by decide, fun q => ?_⟩, ⟨by decide, by decide, fun q => ?_⟩, fun q => ?_, fun k w x y z u => ?_⟩, fun c x y => ?_, fun c x y => ?_, fun c p x y => ?_⟩
  · exact absurd (show p < 0 from y) (by omega)
  · exact absurd (show p < 0 from y) (by omega)
  · exact absurd (show p < 0 from y) (by omega)
  · exact absurd (show p < 0 from y) (by omega)
  · exact absurd (show (0 : Int) < 0 from q) (by decide)
  · exact absurd (show (0 : Int) < 0 from q) (by decide)
  · exact absurd (show (0 : Int) < 0 from q) (by decide)
  · exact absurd (show w < 0 from u) (by omega)
  · exact absurd (show c < 0 from y) (by omega)
  · exact absurd (show c < 0 from y) (by omega)
  · exact absurd (show c < 0 from y) (by omega)
theorem lay_cd : layT.all (fun q => decide (¬ (q.1 = 4 ∧ 5 ≤ q.2.1) ∧ ¬ (q.1 = 3 ∧ 2 ≤ q.2.1) ∧ ¬ ((10 ≤ q.1 ∧ q.1 ≤ 25) ∧ ¬ ((q.1 = 10 ∧ q.2.1 ≤ 10) ∨ ((q.1 = 20 ∨ q.1 = 23) ∧ q.2.1 ≠ 1))) ∧ ¬ ((137 ≤ q.1 ∧ q.1 ≤ 152) ∧ ¬ ((q.1 = 137 ∧ q.2.1 ≤ 10) ∨ ((q.1 = 147 ∨ q.1 = 150) ∧ q.2.1 ≠ 1))))) = true := by decide +kernel
theorem LAY_cd {M M' : AwM} {so : Int} (hso : so = 10 ∨ so = 137) (h : LAY M) (f : cdf so M' M) : LAY M' := LAY_fq h (fun q hq => by
  have t := of_decide_eq_true (List.all_eq_true.mp lay_cd q hq)
  exact f _ _ (by omega) (by omega) (by omega))
def tlf (so : Int) (M' M : AwM) : Prop := ∀ a i : Int, ¬ (a = 4 ∧ 5 ≤ i ∧ i ≤ 11) → ¬ (6 ≤ a ∧ a ≤ 9) → ¬ (a = 3 ∧ 2 ≤ i ∧ i ≤ 5) → ¬ (so ≤ a ∧ a ≤ so + 15) → M' a i = M a i
theorem cclear_n {M : AwM} {so : Int} (l : LAY M) (hso : so = 10 ∨ so = 137) : ∃ M', fX5_clear SH M so = some M' ∧ LAY M' ∧ (∀ a i : Int, ¬ (so ≤ a ∧ a ≤ so + 15) → M' a i = M a i) ∧ (M' (so + 1) 0 = 0 ∧ M' (so + 1) 1 = 0 ∧ M' (so + 1) 2 = 0 ∧ M' so 11 = 0 ∧ M' so 12 = 0) ∧ M' (so + 10) 1 = 0 ∧ M' (so + 13) 1 = 0 := by
  have l1 : LAY (up_ M (so + 1) 0 0) := LAY_s hso (Or.inl (by omega)) l
  have l2 : LAY (up_ (up_ M (so + 1) 0 0) (so + 1) 1 0) := LAY_s hso (Or.inl (by omega)) l1
  have l3 : LAY (up_ (up_ (up_ M (so + 1) 0 0) (so + 1) 1 0) (so + 1) 2 0) := LAY_s hso (Or.inl (by omega)) l2
  have l4 : LAY (up_ (up_ (up_ (up_ M (so + 1) 0 0) (so + 1) 1 0) (so + 1) 2 0) (so + 10) 1 0) := LAY_ff (fo := so + 10) (by omega) l3 (fun a i _ _ r _ => up_nn (by omega))
  have l5 : LAY (up_ (up_ (up_ (up_ (up_ M (so + 1) 0 0) (so + 1) 1 0) (so + 1) 2 0) (so + 10) 1 0) (so + 13) 1 0) := LAY_ff (fo := so + 13) (by omega) l4 (fun a i _ _ r _ => up_nn (by omega))
  have l6 : LAY (up_ (up_ (up_ (up_ (up_ (up_ M (so + 1) 0 0) (so + 1) 1 0) (so + 1) 2 0) (so + 10) 1 0) (so + 13) 1 0) so 11 0) := LAY_s hso (Or.inr (Or.inl ⟨rfl, by decide⟩)) l5
  have l7 : LAY (up_ (up_ (up_ (up_ (up_ (up_ (up_ M (so + 1) 0 0) (so + 1) 1 0) (so + 1) 2 0) (so + 10) 1 0) (so + 13) 1 0) so 11 0) so 12 0) := LAY_s hso (Or.inr (Or.inl ⟨rfl, by decide⟩)) l6
  refine ⟨_, ?_, l7, fun a i z => ?_, ⟨?_, ?_, ?_, ?_, ?_⟩, ?_, ?_⟩
  · unfold fX5_clear fX1_clear
    rw [kso0 hso, gd_t rfl, lso0_0 l hso, kso1 hso, ga_t (by omega) (by omega), bd_1, lso0_0 l1 hso, kso1 hso, ga_t (by omega) (by omega), bd_1, lso0_0 l2 hso, kso1 hso, ga_t (by omega) (by omega), bd_1, lso0_9 l3 hso, kso10 hso, gd_t rfl, gd_t rfl, bd_1, pb_1, u1_1, lso0_10 l4 hso, kso13 hso, gd_t rfl, gd_t rfl, bd_1, pb_1, u1_1, bd_1, bd_1]
  · rw [up_of (by omega), up_of (by omega), up_of (by omega), up_of (by omega), up_of (by omega), up_of (by omega), up_of (by omega)]
  · rw [up_of (by omega), up_of (by omega), up_of (by omega), up_of (by omega), up_oi (by decide), up_oi (by decide), up_at]
  · rw [up_of (by omega), up_of (by omega), up_of (by omega), up_of (by omega), up_oi (by decide), up_at]
  · rw [up_of (by omega), up_of (by omega), up_of (by omega), up_of (by omega), up_at]
  · rw [up_oi (by decide), up_at]
  · rw [up_at]
  · rw [up_of (by omega), up_of (by omega), up_of (by omega), up_at]
  · rw [up_of (by omega), up_of (by omega), up_at]
def CLt (T : Int → Int) (L K : Nat) (x : Option (Int × AwM)) (M : AwM) (so : Int) (r : (Int × Nat) ⊕ (AwM × Int)) : Prop := match r with
  | .inl q => 0 < q.1 ∧ ∃ M', x = some (-1, M') ∧ M' 3 4 = q.1 ∧ M' 3 5 = (q.2 : Int) ∧ LAY M' ∧ tlf so M' M
  | .inr q => (DOK q.1 ∧ 0 ≤ q.2 ∧ q.2 ≤ 80) ∧ ∃ M' j, x = some (q.2, M') ∧ CD T L K M' so q.1 (nD q.1) j ∧ tlf so M' M
theorem tell_n {M : AwM} {so : Int} (l : LAY M) (hO : OWN M) (hT : TpB M T L) (hK : ENDS (tks T L) K) (hso : so = 10 ∨ so = 137) (h31 : M 3 1 = so) : ∃ r, CLt T L K (fX6_tell SH M 3 2 (L : Int)) M so r ∧ ∀ (b : Int) (Mm : AwM), MD T L K Mm b D0 0 → MLo T L K (lp (u2 (fX9_society_L119 SH 167)) FU (0, Mm)) Mm b r := by
  obtain ⟨M1, e1, l1, f1, ⟨c1, c2, c3, c4, c5⟩, c6, c7⟩ := cclear_n l hso
  have l2 : LAY (up_ (up_ (up_ M1 3 3 0) 3 4 0) 3 5 (-1)) := LAY_s hso (Or.inr (Or.inr ⟨rfl, by decide⟩)) (LAY_s hso (Or.inr (Or.inr ⟨rfl, by decide⟩)) (LAY_s hso (Or.inr (Or.inr ⟨rfl, by decide⟩)) l1))
  have f2 : ∀ a i : Int, ¬ (a = 3 ∧ 3 ≤ i ∧ i ≤ 5) → up_ (up_ (up_ M1 3 3 0) 3 4 0) 3 5 (-1) a i = M1 a i := fun a i z => by
    rw [up_nn (by omega), up_nn (by omega), up_nn (by omega)]
  have v33 : up_ (up_ (up_ M1 3 3 0) 3 4 0) 3 5 (-1) 3 3 = 0 := by rw [up_oi (by decide), up_oi (by decide), up_at]
  have v34 : up_ (up_ (up_ M1 3 3 0) 3 4 0) 3 5 (-1) 3 4 = 0 := by rw [up_oi (by decide), up_at]
  have v35 : up_ (up_ (up_ M1 3 3 0) 3 4 0) 3 5 (-1) 3 5 = -1 := up_at
  have post : ∀ R, pb (fX4_read SH (up_ (up_ (up_ M1 3 3 0) 3 4 0) 3 5 (-1)) 4 2 (L : Int)) (u1 fun (M13 : AwM) => tpost (lp (u2 (fX6_tell_L33 SH 3)) FU (0, M13))) = R → fX6_tell SH M 3 2 (L : Int) = R := fun R hR => by
    unfold fX6_tell
    rw [kd3, gd_t rfl, h31, kso0 hso, gd_t rfl, e1, pb_1, u1_1, bd_1, bd_1, bd_1, ly3_0 l2, kd4, gd_t rfl]
    exact hR
  generalize up_ (up_ (up_ M1 3 3 0) 3 4 0) 3 5 (-1) = M2 at *
  have g2 : ∀ a i : Int, ¬ (a = 3 ∧ 3 ≤ i ∧ i ≤ 5) → ¬ (so ≤ a ∧ a ≤ so + 15) → M2 a i = M a i := fun a i y z => (f2 a i y).trans (f1 a i z)
  obtain ⟨M3, e3, s3, r3⟩ := read_n (K := K) l2 (fun k x y => (g2 5 k (by omega) (by omega)).trans (hO k x y)) ⟨hT.1, fun i x y => ⟨(hT.2 i x y).1, (g2 2 i (by omega) (by omega)).trans (hT.2 i x y).2⟩⟩ hK
  have g3 : tlf so M3 M := fun a i p q r s => by rw [r3 a i p q, g2 a i (by omega) s]
  have g4 : ∀ a i : Int, so ≤ a ∧ a ≤ so + 15 → M3 a i = M1 a i := fun a i z => by rw [r3 a i (by omega) (by omega), f2 a i (by omega)]
  have hcd : CD T L K M3 so D0 (nD D0) 0 := by
    refine ⟨⟨LAY_rd l2 r3, s3, ?_, hso, ?_, hK⟩, ⟨?_, ?_, ?_, ?_, ?_⟩, fun p x y => ?_, fun p x y => ?_, fun p x y => ?_, fun k w x y z u => ?_, ⟨?_, fun q x y => ?_⟩, ⟨?_, fun q x y => ?_⟩⟩
    · rw [r3 3 1 (by omega) (by omega), g2 3 1 (by omega) (by omega)]; exact h31
    · exact ⟨by rw [r3 3 3 (by omega) (by omega)]; exact v33, by rw [r3 3 4 (by omega) (by omega)]; exact v34, by rw [r3 3 5 (by omega) (by omega)]; exact v35⟩
    · rw [g4 _ _ (by omega)]; exact c1
    · rw [g4 _ _ (by omega)]; exact c2
    · rw [g4 _ _ (by omega)]; exact c3
    · rw [g4 _ _ (by omega)]; exact c4
    · rw [g4 _ _ (by omega)]; exact c5
    · exact absurd (show p < 0 from y) (by omega)
    · exact absurd (show p < 0 from y) (by omega)
    · exact absurd (show p < 0 from y) (by omega)
    · exact absurd (show w < 0 from u) (by omega)
    · rw [g4 _ _ (by omega)]; exact c6
    · exact absurd (show q < 0 from y) (by omega)
    · rw [g4 _ _ (by omega)]; exact c7
    · exact absurd (show q < 0 from y) (by omega)
  have hK6 := hK.1.2
  obtain ⟨r, hr, ho⟩ := loop_n so 1700 0 0 D0 M3 FU (by omega) hcd D0_ok (by decide) (FU_gt (by decide))
  refine ⟨r, ?_, fun b Mm m => ?_⟩
  · have e : fX6_tell SH M 3 2 (L : Int) = tpost (lp (u2 (fX6_tell_L33 SH 3)) FU (0, M3)) := post _ (by rw [e3, pb_1, u1_1])
    have fr : ∀ M', cdf so M' M3 → tlf so M' M := fun M' g a i p q r s => by
      rw [g a i (by omega) (by omega) (by omega), g3 a i p q r s]
    rw [e]
    cases r with
    | inl q =>
      obtain ⟨k0, M', e', b1, b2, b3⟩ := hr
      exact ⟨k0, M', e', b1, b2, LAY_cd hso hcd.lay b3, fr M' b3⟩
    | inr q =>
      obtain ⟨a, M', j, e', c, g⟩ := hr
      exact ⟨a, M', j, e', c, fr M' g⟩
  · rcases ho with ⟨y1, _⟩ | ⟨_, y2⟩
    · exact absurd y1 (by decide)
    · exact y2 b Mm FU m (FU_gt (by decide))
end PTEL
