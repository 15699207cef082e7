/-! the class reads a token -/
section PSCA
def TpB (M : AwM) (T : Int → Int) (L : Nat) : Prop := L ≤ 1600 ∧ ∀ i : Int, 0 ≤ i → i < (L : Int) → (0 ≤ T i ∧ T i ≤ 255) ∧ M 2 i = w8_ (T i)
/-- the tape's bytes as the class sees them -/
theorem TpB.lt {M : AwM} {T : Int → Int} {L : Nat} (h : TpB M T L) {i : Int} (i0 : 0 ≤ i) (i1 : i < (L : Int)) : (97 ≤ M 2 i ∧ M 2 i ≤ 122 ↔ isL (T i) = true) ∧ (48 ≤ M 2 i ∧ M 2 i ≤ 57 ↔ isD (T i) = true) ∧ (M 2 i = 10 ∨ M 2 i = 32 ↔ isB (T i) = true) ∧ (isL (T i) = true ∨ isD (T i) = true → M 2 i = T i) ∧ (0 < M 2 i ∧ M 2 i < 128 → M 2 i = T i) ∧ (¬ 0 < M 2 i → T i ∉ sgL) := by
  obtain ⟨t, e⟩ := h.2 i i0 i1
  unfold w8_ at e
  rw [isL_t, isD_t, isB_t, e]
  refine ⟨by omega, by omega, by omega, by omega, by omega, fun hn hm => ?_⟩
  unfold sgL at hm
  simp at hm
  omega
def scf (M' M : AwM) : Prop := ∀ a i : Int, ¬ (a = 4 ∧ 7 ≤ i ∧ i ≤ 11) → M' a i = M a i
theorem scf_rf {M : AwM} : scf M M := fun _ _ _ => rfl
theorem scf_tr {M M1 M2 : AwM} (h : scf M1 M) (h' : scf M2 M1) : scf M2 M := fun a i p => (h' a i p).trans (h a i p)
theorem scf_up {M : AwM} {k v : Int} (h : 7 ≤ k ∧ k ≤ 11) : scf (up_ M 4 k v) M := fun a i p => up_nn (fun z => p ⟨z.1, by omega⟩)
theorem TpB_sc {M M' : AwM} {T : Int → Int} {L : Nat} (h : TpB M T L) (f : scf M' M) : TpB M' T L := ⟨h.1, fun i a b => ⟨(h.2 i a b).1, (f 2 i (by omega)).trans (h.2 i a b).2⟩⟩
theorem clet_n {sh : AwS} {M : AwM} {v : Int} : fX4_isLetter sh M v = some (bi (decide (97 ≤ v ∧ v ≤ 122))) := by
  unfold fX4_isLetter
  by_cases a : v < 97
  · rw [if_pos a, decide_eq_false (by omega)]; rfl
  · rw [if_neg a]
    by_cases b : 122 < v
    · rw [if_pos b, decide_eq_false (by omega)]; rfl
    · rw [if_neg b, decide_eq_true (by omega)]; rfl
theorem cdig_n {sh : AwS} {M : AwM} {v : Int} : fX4_isDigit sh M v = some (bi (decide (48 ≤ v ∧ v ≤ 57))) := by
  unfold fX4_isDigit
  by_cases a : v < 48
  · rw [if_pos a, decide_eq_false (by omega)]; rfl
  · rw [if_neg a]
    by_cases b : 57 < v
    · rw [if_pos b, decide_eq_false (by omega)]; rfl
    · rw [if_neg b, decide_eq_true (by omega)]; rfl
theorem cskip_n {M : AwM} {T : Int → Int} {L e : Nat} (hT : TpB M T L) (he : e ≤ L) (h7 : M 4 7 = (e : Int)) : ∃ M', fX4_skipBlanks SH M 4 2 (L : Int) = some M' ∧ M' 4 7 = ((rnE isB T L e : Nat) : Int) ∧ ∀ a i : Int, ¬ (a = 4 ∧ i = 7) → M' a i = M a i := by
  have hL := hT.1
  obtain ⟨a1, a2, a3, a4⟩ := rnE_p isB T L e
  have a2 := a2 he
  generalize rnE isB T L e = s at *
  have key := lp_rel (body := u1 (fX4_skipBlanks_L0 SH 4 2 (L : Int))) (P := fun j (t : AwM) => t 4 7 = ((e + j : Nat) : Int) ∧ ∀ a i : Int, ¬ (a = 4 ∧ i = 7) → t a i = M a i) (X := fun r : AwM ⊕ AwM => ∃ M', (r = .inl M' ∨ r = .inr M') ∧ M' 4 7 = (s : Int) ∧ ∀ a i : Int, ¬ (a = 4 ∧ i = 7) → M' a i = M a i) (n := s - e) ?_ FU M (FU_gt (by omega)) ⟨h7, fun _ _ _ => rfl⟩
  · obtain ⟨r, er, M', hr, g7, gf⟩ := key
    refine ⟨M', ?_, g7, gf⟩
    unfold fX4_skipBlanks
    rw [er, pb_1]
    rcases hr with rfl | rfl <;> rfl
  · rintro j M3 hj ⟨h3, f3⟩
    have e2 : M3 2 ((e + j : Nat) : Int) = M 2 ((e + j : Nat) : Int) := f3 _ _ (by omega)
    rw [u1_1]
    unfold fX4_skipBlanks_L0
    rw [kd4, gd_t rfl, h3]
    by_cases hjn : j < s - e
    · have b := a3 (e + j) (by omega) (by omega)
      have t := (hT.lt (i := ((e + j : Nat) : Int)) (by omega) (by omega)).2.2.1
      rw [if_pos (by omega), kd2, gd_t (by refine ⟨rfl, by omega, ?_⟩; show _ < (1600 : Int); omega), e2, w32_s (v := ((e + j : Nat) : Int) + 1) (by omega) (by omega)]
      refine Or.inl ⟨hjn, up_ M3 4 7 (((e + j : Nat) : Int) + 1), ?_, by rw [up_at]; omega, fun a i p => by rw [up_nn p]; exact f3 a i p⟩
      by_cases c : M 2 ((e + j : Nat) : Int) = 10
      · rw [if_pos c, bd_1]
      · rw [if_neg c, if_pos (by have := t.mpr b; omega), bd_1]
    · have ej : e + j = s := by omega
      rw [ej] at h3 e2 ⊢
      by_cases z : (s : Int) < (L : Int)
      · have b := a4 (by omega)
        have t := (hT.lt (i := (s : Int)) (by omega) z).2.2.1
        have nb : ¬ (M 2 (s : Int) = 10 ∨ M 2 (s : Int) = 32) := fun q => by rw [t.mp q] at b; exact absurd b (by decide)
        rw [if_pos z, kd2, gd_t (by refine ⟨rfl, by omega, ?_⟩; show _ < (1600 : Int); omega), e2, if_neg (fun q => nb (Or.inl q)), if_neg (fun q => nb (Or.inr q))]
        exact Or.inr ⟨_, rfl, M3, Or.inr rfl, h3, f3⟩
      · rw [if_neg z]
        exact Or.inr ⟨_, rfl, M3, Or.inl rfl, h3, f3⟩
/-- the own words as the class keeps them -/
def OWN (M : AwM) : Prop := ∀ k : Int, 0 ≤ k → k < 23 → M 5 k = own5f k
theorem cown_n {M : AwM} {w : Int} (hl : LAY M) (hO : OWN M) : fX4_ownWordOf SH M 4 w = some (ownX w) := by
  have oc := ownX_c w
  have key := lp_rel (body := u1 (fX4_ownWordOf_L2 SH M 4 w)) (P := fun j (t : Int) => t = (j : Int) ∧ ∀ k : Int, 0 ≤ k → k < (j : Int) → own5f k ≠ w) (X := fun r : Unit ⊕ Int => (r = .inl () ∧ ownX w = -1) ∨ r = .inr (ownX w)) (n := 23) ?_ FU 0 (FU_gt (by omega)) ⟨rfl, fun k a b => by omega⟩
  · obtain ⟨r, er, hr⟩ := key
    unfold fX4_ownWordOf
    rw [er, pb_1]
    rcases hr with ⟨rfl, h⟩ | rfl
    · rw [h]; rfl
    · rfl
  · rintro j i hj ⟨hi, hk⟩
    subst hi
    rw [u1_1]
    unfold fX4_ownWordOf_L2
    by_cases hjn : j < 23
    · rw [if_pos (by omega), kd4, gd_t rfl, ly4_0 hl, kd5, ga_t (by omega) (by omega), hO _ (by omega) (by omega)]
      by_cases e : own5f (j : Int) = w
      · rw [if_pos (Eq.mpr cmp_z e)]
        exact Or.inr ⟨_, rfl, Or.inr (by rw [ownX_u (by omega) (by omega) e])⟩
      · rw [if_neg (fun q => e (Eq.mp cmp_z q)), w32_s (v := (j : Int) + 1) (by omega) (by omega)]
        refine Or.inl ⟨hjn, _, rfl, by omega, fun k k0 k1 => ?_⟩
        by_cases q : k = (j : Int)
        · rw [q]; exact e
        · exact hk k k0 (by omega)
    · rw [if_neg (by omega)]
      refine Or.inr ⟨_, rfl, Or.inl ⟨rfl, ?_⟩⟩
      rcases oc with ⟨a, b, c⟩ | ⟨a, _⟩
      · exact absurd c (hk _ a (by omega))
      · exact a
theorem w5_or {T : Int → Int} {i : Int} {m : Nat} (hm : m < 8) (h : ∀ k : Int, i ≤ k → k < i + ((m + 1 : Nat) : Int) → ltr (T k)) : orl_ (w5 T i m) (sll_ (w32 (w32 (T (i + (m : Int)) - 97) + 1)) (w32 (5 * (m : Int)))) = w5 T i (m + 1) := by
  have b := w5_b m i (fun k x y => h k x (by omega))
  have l := h (i + (m : Int)) (by omega) (by omega)
  unfold ltr at l
  rw [w5_e]
  generalize w5 T i m = x at *
  generalize T (i + (m : Int)) = y at *
  obtain ⟨a, rfl⟩ := Int.eq_ofNat_of_zero_le b.1
  obtain ⟨c, hc⟩ := Int.eq_ofNat_of_zero_le (show 0 ≤ y - 96 by omega)
  rw [w32_s (v := y - 97) (by omega) (by omega), w32_s (v := y - 97 + 1) (by omega) (by omega), w32_s (v := 5 * (m : Int)) (by omega) (by omega), show y - 97 + 1 = (c : Int) by omega, show 5 * (m : Int) = ((5 * m : Nat) : Int) by omega, hc]
  have e32 : (32 : Nat) ^ m = 2 ^ (5 * m) := by rw [Nat.pow_mul]
  have ha : a < 2 ^ (5 * m) := by
    rw [← e32]
    have := b.2
    exact_mod_cast this
  have p35 : (2 : Nat) ^ (5 * m) ≤ 2 ^ 35 := Nat.pow_le_pow_right (by decide) (by omega)
  have hcm : c * 2 ^ (5 * m) ≤ 26 * 2 ^ 35 := Nat.mul_le_mul (by omega) p35
  rw [sll_n (by omega) (by omega), orl_n (by omega) (by omega), Nat.or_comm, Nat.mul_comm, ← Nat.two_pow_add_eq_or_of_lt ha, ← e32]
  rw [Nat.add_comm]
  simp
end PSCA
