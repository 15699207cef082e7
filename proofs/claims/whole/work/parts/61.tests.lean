/-! the TEST, both sides -/
section PTST
def fcts (a b c d e g : Int) : Int → Int := fun k => if k = 0 then a else if k = 1 then b else if k = 2 then c else if k = 3 then d else if k = 4 then e else g
theorem gdT {α : Type} {t : Option α} {i : Decidable True} : gd_ True t = t := if_pos trivial
theorem putFacts_n {M : AwM} {cr so : Int} {s d : AwM} (h : CC M cr so s d) {w q p k n : Int} (q0 : 0 ≤ q) (q1 : q < s 0 0) (p0 : 0 ≤ p) (p1 : p < s 0 0) : ∃ M', fX0_putFacts SH M cr w q p k n = some M' ∧ (∀ a i, a ≠ cr + 6 → M' a i = M a i) ∧ (∀ z : Int, 0 ≤ z → z < 6 → M' (cr + 6) z = fcts w (s 1 q) (s 1 p) k (d 0 0) n z) := by
  have hcr := h.hcr
  have hso := h.hso
  have l := h.lay
  have hp := h.ok.p
  have g1 : cr ≠ cr + 6 := by omega
  have g2 : so ≠ cr + 6 := by omega
  have g3 : so + 3 ≠ cr + 6 := by omega
  have g4 : cr + 1 ≠ cr + 6 := by omega
  refine ⟨up_ (up_ (up_ (up_ (up_ (up_ M (cr + 6) 0 w) (cr + 6) 1 (s 1 q)) (cr + 6) 2 (s 1 p)) (cr + 6) 3 k) (cr + 6) 4 (d 0 0)) (cr + 6) 5 n, ?_, ?_, ?_⟩
  · unfold fX0_putFacts
    simp (disch := omega) only [bd_1, up_of g1, up_of g2, up_of g3, up_of g4, kcr0 hcr, kcr1 hcr, kcr6 hcr, kso0 hso, kso3 hso, lcr0_0 l hcr, lcr0_2 l hcr, lso0_2 l hso, h.ref, h.ra q0 q1, h.ra p0 p1, h.day, true_and, gdT, gd_t]
  · intro a i ha
    simp only [up_of ha]
  · intro z z0 z1
    unfold fcts
    have : z = 0 ∨ z = 1 ∨ z = 2 ∨ z = 3 ∨ z = 4 ∨ z = 5 := by omega
    rcases this with rfl | rfl | rfl | rfl | rfl | rfl <;> simp [up_]
end PTST
