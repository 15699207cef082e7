/-! the class tells people, goods, what fades, what is in vogue, snubs -/
section PCST
variable {T : Int → Int} {L K : Nat}
theorem lay_cs : layT.all (fun q => decide (¬ (11 ≤ q.1 ∧ q.1 ≤ 19) ∧ ¬ (138 ≤ q.1 ∧ q.1 ≤ 146) ∧ ¬ ((q.1 = 10 ∨ q.1 = 137) ∧ 11 ≤ q.2.1) ∧ ¬ (q.1 = 3 ∧ 1 ≤ q.2.1))) = true := by decide +kernel
theorem LAY_s {so a i v : Int} {M : AwM} (hso : so = 10 ∨ so = 137) (ha : (so + 1 ≤ a ∧ a ≤ so + 9) ∨ (a = so ∧ 11 ≤ i) ∨ (a = 3 ∧ 1 ≤ i)) (h : LAY M) : LAY (up_ M a i v) := LAY_fq h (fun q hq => by
  have t := of_decide_eq_true (List.all_eq_true.mp lay_cs q hq)
  exact up_nn (fun z => by omega))
def mx (k : Int) : Int := if k = 1 then 12 else 10
def nD (D : AwM) : Int → Int := fun k => D 0 k
def nU (D : AwM) (k : Int) : Int → Int := fun j => if j = k then D 0 k + 1 else D 0 j
def newR (D : AwM) (x y : Tk) (k : Int) : Option (Int × Nat) :=
  if mx k ≤ D 0 k then some (6, x.2.2.1) else if y.1 = 3 then (if fnd D 0 y.2.1 ≠ -1 ∨ fnd D 1 y.2.1 ≠ -1 ∨ fnd D 2 y.2.1 ≠ -1 then some (2, y.2.2.1) else none) else some (1, y.2.2.2.1)
section
variable {M : AwM} {so : Int} {D : AwM} {i : Nat}
/-- a set of cells is told alike behind a write in the draft -/
theorem CD_s {n : Int → Int} (h : CD T L K M so D n i) {M' : AwM} {D' : AwM} {n' : Int → Int} (hl : LAY M') (hs : ∀ a j : Int, a ≤ 9 → a ≠ 3 → M' a j = M a j) (h3 : M' 3 1 = M 3 1 ∧ ∀ {x : Int}, M' 3 x = M 3 x) (h1 : M' (so + 1) 0 = n' 0 ∧ M' (so + 1) 1 = n' 1 ∧ M' (so + 1) 2 = n' 2 ∧ M' so 11 = D' 0 3 ∧ M' so 12 = D' 0 4) (h2 : (∀ p : Int, 0 ≤ p → p < D' 0 0 → M' (so + 3) p = D' 1 p) ∧ (∀ c : Int, 0 ≤ c → c < D' 0 1 → M' (so + 4) c = D' 2 c ∧ M' (so + 5) c = D' 8 c ∧ M' (so + 6) c = D' 9 c ∧ M' (so + 7) c = D' 10 c) ∧ (∀ g : Int, 0 ≤ g → g < D' 0 2 → M' (so + 8) g = D' 3 g ∧ M' (so + 9) g = D' 4 g) ∧ (∀ k w : Int, 0 ≤ k → k < 3 → 0 ≤ w → w < D' 0 k → M' (so + 2) (12 * k + w) = D' 5 (12 * k + w))) (h6 : CF M' (so + 10) (D' 6) ∧ CF M' (so + 13) (D' 7)) : CD T L K M' so D' n' i := by
  obtain ⟨⟨a1, a2, a3, a4, a5, a6⟩, _⟩ := h
  exact ⟨⟨hl, SCN_fr a2 (fun a j x y => hs a j (by omega) (by omega)), h3.1.trans a3, a4, ⟨h3.2.trans a5.1, h3.2.trans a5.2.1, h3.2.trans a5.2.2⟩, a6⟩, h1, h2.1, h2.2.1, h2.2.2.1, h2.2.2.2, h6⟩
theorem cfull_d {n : Int → Int} (h : CD T L K M so D n i) {k : Int} (k0 : 0 ≤ k) (k1 : k < 3) : fX5_isFull SH M so k = some (bi (decide (mx k ≤ n k))) := by
  have nk : M (so + 1) k = n k := by
    obtain ⟨b1, b2, b3, _⟩ := h.2.1
    rcases (show k = 0 ∨ k = 1 ∨ k = 2 by omega) with rfl | rfl | rfl
    · exact b1
    · exact b2
    · exact b3
  have hm : fX5_most SH M k = some (mx k) := by
    unfold fX5_most mx
    by_cases a : k = 0
    · rw [if_pos a, if_neg (by omega)]
    · rw [if_neg a]
      by_cases c : k = 1
      · rw [if_pos c, if_pos c]
      · rw [if_neg c, if_neg c]
  unfold fX5_isFull
  rw [if_neg (by omega), if_pos k1, kso0 h.hso, gd_t rfl, lso0_0 h.lay h.hso, kso1 h.hso, ga_t k0 (by omega), hm, pb_1, u1_1, nk]
  by_cases z : n k < mx k
  · rw [if_pos z, decide_eq_false (by omega)]; rfl
  · rw [if_neg z, decide_eq_true (by omega)]; rfl
theorem cgiven_d (h : CD T L K M so D (nD D) i) (hd : (0 ≤ D 0 0 ∧ D 0 0 ≤ 12) ∧ (0 ≤ D 0 1 ∧ D 0 1 ≤ 12) ∧ (0 ≤ D 0 2 ∧ D 0 2 ≤ 12)) {nm : Int} : fX5_isGiven SH M so nm = some (bi (decide (fnd D 0 nm ≠ -1 ∨ fnd D 1 nm ≠ -1 ∨ fnd D 2 nm ≠ -1))) := by
  unfold fX5_isGiven
  rw [kso0 h.hso, gd_t rfl, cfind_d h (k := 0) (by decide) (by decide) rfl hd.1, pb_1, u1_1]
  by_cases a : fnd D 0 nm = -1
  · rw [if_pos a, cfind_d h (k := 1) (by decide) (by decide) rfl hd.2.1, pb_1, u1_1]
    by_cases c : fnd D 1 nm = -1
    · rw [if_pos c, cfind_d h (k := 2) (by decide) (by decide) rfl hd.2.2, pb_1, u1_1]
      by_cases e : fnd D 2 nm = -1
      · rw [if_pos e, decide_eq_false (fun q => q.elim (fun x => x a) (fun q => q.elim (fun x => x c) (fun x => x e)))]; rfl
      · rw [if_neg e, decide_eq_true (Or.inr (Or.inr e))]; rfl
    · rw [if_neg c, decide_eq_true (Or.inr (Or.inl c))]; rfl
  · rw [if_neg a, decide_eq_true (Or.inl a)]; rfl
theorem cgive_d (h : CD T L K M so D (nD D) i) {k nm : Int} (k0 : 0 ≤ k) (k1 : k < 3) (hd : 0 ≤ D 0 k ∧ D 0 k < mx k) (hA : ∀ j : Int, 0 ≤ j → j < 3 → 0 ≤ D 0 j ∧ D 0 j ≤ 12) : ∃ M', fX5_give SH M so k nm = some (D 0 k, M') ∧ CD T L K M' so D (nU D k) i ∧ M' (so + 2) (12 * k + D 0 k) = nm ∧ cdf so M' M := by
  have hso := h.hso
  have l := h.lay
  have m12 : mx k ≤ 12 := by unfold mx; split <;> decide
  have nk : M (so + 1) k = D 0 k := by
    obtain ⟨b1, b2, b3, _⟩ := h.2.1
    rcases (show k = 0 ∨ k = 1 ∨ k = 2 by omega) with rfl | rfl | rfl
    · exact b1
    · exact b2
    · exact b3
  obtain ⟨⟨a1, a2, a3, a4, a5, a6⟩, ⟨b1, b2, b3, b4, b5⟩, c1, c2, c3, c4, ⟨d1, d2⟩, ⟨e1, e2⟩⟩ := id h
  have f : cdf so (up_ (up_ M (so + 2) (12 * k + D 0 k) nm) (so + 1) k (D 0 k + 1)) M := fun a j _ _ r => by rw [up_of (by omega), up_of (by omega)]
  refine ⟨_, ?_, ?_, ?_, f⟩
  · unfold fX5_give
    rw [kso0 hso, gd_t rfl, cfull_d h k0 k1, pb_1, u1_1, bi_if, if_neg (by rw [decide_eq_false (show ¬ mx k ≤ nD D k from by show ¬ mx k ≤ D 0 k; omega)]; decide), lso0_0 l hso, kso1 hso, ga_t k0 (by omega), lso0_1 l hso, kso2 hso, nk, w32_s (v := k * 12) (by omega) (by omega), w32_s (v := k * 12 + D 0 k) (by omega) (by omega), ga_t (by omega) (by omega), show k * 12 + D 0 k = 12 * k + D 0 k by omega, bd_1, up_of (show so ≠ so + 2 by omega), lso0_0 l hso, kso1 hso, ga_t k0 (by omega), up_of (show so + 1 ≠ so + 2 by omega), nk, w32_s (v := D 0 k + 1) (by omega) (by omega), bd_1]
  · have cn : ∀ j : Int, M (so + 1) j = D 0 j → up_ (up_ M (so + 2) (12 * k + D 0 k) nm) (so + 1) k (D 0 k + 1) (so + 1) j = nU D k j := fun j hj => by
      unfold nU
      by_cases e : j = k
      · rw [if_pos e, e, up_at]
      · rw [if_neg e, up_oi e, up_of (by omega)]; exact hj
    refine CD_s h (LAY_s hso (Or.inl (by omega)) (LAY_s hso (Or.inl (by omega)) l)) (fun a j x _ => by rw [up_of (by omega), up_of (by omega)]) ⟨by rw [up_of (by omega), up_of (by omega)], fun {_} => by rw [up_of (by omega), up_of (by omega)]⟩ ⟨cn 0 b1, cn 1 b2, cn 2 b3, by rw [up_of (by omega), up_of (by omega)]; exact b4, by rw [up_of (by omega), up_of (by omega)]; exact b5⟩ ⟨fun p x y => by rw [up_of (by omega), up_of (by omega)]; exact c1 p x y, fun c x y => ?_, fun c x y => ?_, fun k' w x y z u => ?_⟩ ⟨⟨by rw [up_of (by omega), up_of (by omega)]; exact d1, fun q x y => by rw [up_of (by omega), up_of (by omega)]; exact d2 q x y⟩, ⟨by rw [up_of (by omega), up_of (by omega)]; exact e1, fun q x y => by rw [up_of (by omega), up_of (by omega)]; exact e2 q x y⟩⟩
    · rw [up_of (by omega), up_of (by omega), up_of (by omega), up_of (by omega), up_of (by omega), up_of (by omega), up_of (by omega), up_of (by omega)]; exact c2 c x y
    · rw [up_of (by omega), up_of (by omega), up_of (by omega), up_of (by omega)]; exact c3 c x y
    · have := hA k' x y
      have ne : 12 * k' + w ≠ 12 * k + D 0 k := by
        by_cases e : k' = k
        · subst e; omega
        · omega
      rw [up_of (by omega), up_oi ne]; exact c4 k' w x y z u
  · rw [up_of (by omega), up_at]
/-- what always holds of a draft's counts -/
def DC (D : AwM) : Prop := (0 ≤ D 0 0 ∧ D 0 0 ≤ 10) ∧ (0 ≤ D 0 1 ∧ D 0 1 ≤ 12) ∧ (0 ≤ D 0 2 ∧ D 0 2 ≤ 10)
theorem DC.k (h : DC D) : ∀ j : Int, 0 ≤ j → j < 3 → 0 ≤ D 0 j ∧ D 0 j ≤ 12 := fun j a c => by
  obtain ⟨x, y, z⟩ := h
  rcases (show j = 0 ∨ j = 1 ∨ j = 2 by omega) with rfl | rfl | rfl <;> omega
theorem cnew_d (h : CD T L K M so D (nD D) i) (hD : DC D) (hi : 1 ≤ (tks T L i).1 ∧ (tks T L i).1 ≤ 4) {k : Int} (k0 : 0 ≤ k) (k1 : k < 3) : (newR D (tks T L i) (tks T L (i + 1)) k = none → ((tks T L (i + 1)).1 = 3 ∧ D 0 k < mx k) ∧ ∃ M', fX6_newOne SH M 3 k = some (D 0 k, M') ∧ CD T L K M' so D (nU D k) (i + 2) ∧ M' (so + 2) (12 * k + D 0 k) = (tks T L (i + 1)).2.1 ∧ cdf so M' M) ∧ (∀ kd p, newR D (tks T L i) (tks T L (i + 1)) k = some (kd, p) → 0 < kd ∧ ∃ M', fX6_newOne SH M 3 k = some (-1, M') ∧ CDB so M' M kd p) := by
  have hA := hD.k
  have fl := cfull_d h k0 k1
  unfold fX6_newOne newR
  rw [kd3, gd_t rfl, h.so', kso0 h.hso, gd_t rfl, fl, pb_1, u1_1, bi_if]
  by_cases zf : mx k ≤ D 0 k
  · rw [if_pos (decide_eq_true (show mx k ≤ nD D k from zf)), if_pos zf]
    refine ⟨fun hh => absurd hh (by simp), fun kd p hh => ?_⟩
    have hh' := Option.some.inj hh
    rw [Prod.mk.injEq] at hh'
    obtain ⟨rfl, rfl⟩ := hh'
    exact ⟨by decide, _, by rw [cfail_k h.sc h.lay (by decide), pb_1, u2_1], cdb_u⟩
  · obtain ⟨M1, e1, h1, f1⟩ := cdnx_n h hi
    have k8 := h1.sc.k8
    rw [if_neg zf, if_neg (show ¬ decide (mx k ≤ nD D k) = true by rw [decide_eq_false (show ¬ mx k ≤ nD D k from zf)]; decide), ly3_0 h.lay, kd4, gd_t rfl, e1, pb_1, u1_1, ly3_0 h1.lay, kd4, gd_t rfl, k8]
    by_cases z3 : (tks T L (i + 1)).1 = 3
    · have k9 := h1.sc.k9 (by omega) (by omega)
      rw [if_pos ((ckd_i (by decide)).mpr z3), if_pos z3, h1.so', kso0 h.hso, gd_t rfl, k9, cgiven_d h1 ⟨hA 0 (by omega) (by omega), hA 1 (by omega) (by omega), hA 2 (by omega) (by omega)⟩, pb_1, u1_1, bi_if]
      by_cases zg : fnd D 0 (tks T L (i + 1)).2.1 ≠ -1 ∨ fnd D 1 (tks T L (i + 1)).2.1 ≠ -1 ∨ fnd D 2 (tks T L (i + 1)).2.1 ≠ -1
      · rw [if_pos (decide_eq_true zg), if_pos zg]
        refine ⟨fun hh => absurd hh (by simp), fun kd p hh => ?_⟩
        have hh' := Option.some.inj hh
        rw [Prod.mk.injEq] at hh'
        obtain ⟨rfl, rfl⟩ := hh'
        exact ⟨by decide, _, by rw [cfail_k h1.sc h1.lay (by decide), pb_1, u2_1], CDB_tr (cdf_nx f1) cdb_u⟩
      · rw [if_neg zg, if_neg (show ¬ decide (fnd D 0 (tks T L (i + 1)).2.1 ≠ -1 ∨ fnd D 1 (tks T L (i + 1)).2.1 ≠ -1 ∨ fnd D 2 (tks T L (i + 1)).2.1 ≠ -1) = true by rw [decide_eq_false zg]; decide)]
        obtain ⟨M2, e2, h2, f2⟩ := cdnx_n h1 (by omega)
        obtain ⟨M3, e3, h3, nm3, f3⟩ := cgive_d h2 (k := k) (nm := (tks T L (i + 1)).2.1) k0 k1 ⟨(hA k k0 k1).1, by omega⟩ hA
        refine ⟨fun _ => ⟨⟨z3, by omega⟩, M3, ?_, h3, nm3, cdf_tr (cdf_nx f1) (cdf_tr (cdf_nx f2) f3)⟩, fun kd p hh => absurd hh (by simp)⟩
        rw [e2, pb_1, u1_1, h2.so', kso0 h.hso, gd_t rfl, e3, pb_1, u2_1]
    · rw [if_neg (fun q => z3 ((ckd_i (by decide)).mp q)), if_neg z3]
      refine ⟨fun hh => absurd hh (by simp), fun kd p hh => ?_⟩
      have hh' := Option.some.inj hh
      rw [Prod.mk.injEq] at hh'
      obtain ⟨rfl, rfl⟩ := hh'
      exact ⟨by decide, _, by rw [cfail_1 h1.sc h1.lay, pb_1, u2_1], CDB_tr (cdf_nx f1) cdb_u⟩
end
end PCST
