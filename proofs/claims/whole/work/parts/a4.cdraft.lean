/-! the class's draft -/
section PCDR
/-- the first one of a row with a name -/
def fndF (g : Int → Int) (nm : Int) : Nat → Int → Int
  | 0, _ => -1
  | f + 1, w => if g w = nm then w else fndF g nm f (w + 1)
def FN (g : Int → Int) (n nm r : Int) : Prop := (0 ≤ r ∧ r < n ∧ g r = nm ∧ ∀ w : Int, 0 ≤ w → w < r → g w ≠ nm) ∨ (r = -1 ∧ ∀ w : Int, 0 ≤ w → w < n → g w ≠ nm)
theorem FN_u {g : Int → Int} {n nm r r' : Int} (h : FN g n nm r) (h' : FN g n nm r') : r = r' := by
  rcases h with ⟨a1, a2, a3, a4⟩ | ⟨a1, a2⟩
  · rcases h' with ⟨b1, b2, b3, b4⟩ | ⟨b1, b2⟩
    · refine Classical.byContradiction fun ne => ?_
      by_cases lt : r < r'
      · exact b4 r a1 lt a3
      · exact a4 r' b1 (by omega) b3
    · exact absurd a3 (b2 r a1 a2)
  · rcases h' with ⟨b1, b2, b3, b4⟩ | ⟨b1, b2⟩
    · exact absurd b3 (a2 r' b1 b2)
    · rw [a1, b1]
theorem fndF_c {g : Int → Int} {n nm : Int} : ∀ (f : Nat) (w : Int), 0 ≤ w → w + (f : Int) = n → (∀ v : Int, 0 ≤ v → v < w → g v ≠ nm) → FN g n nm (fndF g nm f w)
  | 0, w, w0, hn, h => Or.inr ⟨rfl, fun v a b => h v a (by omega)⟩
  | f + 1, w, w0, hn, h => by
    unfold fndF
    by_cases e : g w = nm
    · rw [if_pos e]; exact Or.inl ⟨w0, by omega, e, h⟩
    · rw [if_neg e]
      exact fndF_c f (w + 1) (by omega) (by omega) (fun v a b => by
        by_cases q : v = w
        · rw [q]; exact e
        · exact h v a (by omega))
def fnd (D : AwM) (k nm : Int) : Int := fndF (fun w => D 5 (12 * k + w)) nm (D 0 k).toNat 0
theorem fnd_c {D : AwM} {k nm : Int} (h : 0 ≤ D 0 k) : FN (fun w => D 5 (12 * k + w)) (D 0 k) nm (fnd D k nm) :=
  fndF_c _ 0 (Int.le_refl _) (by omega) (fun v a b => by omega)
def CF (M : AwM) (fo : Int) (f : Int → Int) : Prop := M fo 1 = f (-1) ∧ ∀ i : Int, 0 ≤ i → i < f (-1) → M (fo + 1) i = cce (f i)
section
variable (T : Int → Int) (L K : Nat)
def CD (M : AwM) (so : Int) (D : AwM) (n : Int → Int) (i : Nat) : Prop :=
  (LAY M ∧ SCN (tks T L) K M i ∧ M 3 1 = so ∧ (so = 10 ∨ so = 137) ∧ (M 3 3 = 0 ∧ M 3 4 = 0 ∧ M 3 5 = -1) ∧ ENDS (tks T L) K) ∧
  (M (so + 1) 0 = n 0 ∧ M (so + 1) 1 = n 1 ∧ M (so + 1) 2 = n 2 ∧ M so 11 = D 0 3 ∧ M so 12 = D 0 4) ∧
  (∀ p : Int, 0 ≤ p → p < D 0 0 → M (so + 3) p = D 1 p) ∧
  (∀ c : Int, 0 ≤ c → c < D 0 1 → M (so + 4) c = D 2 c ∧ M (so + 5) c = D 8 c ∧ M (so + 6) c = D 9 c ∧ M (so + 7) c = D 10 c) ∧
  (∀ g : Int, 0 ≤ g → g < D 0 2 → M (so + 8) g = D 3 g ∧ M (so + 9) g = D 4 g) ∧
  (∀ k w : Int, 0 ≤ k → k < 3 → 0 ≤ w → w < D 0 k → M (so + 2) (12 * k + w) = D 5 (12 * k + w)) ∧
  (CF M (so + 10) (D 6) ∧ CF M (so + 13) (D 7))
end
/-- what a draft's telling writes -/
def cdf (so : Int) (M' M : AwM) : Prop := ∀ a i : Int, ¬ (a = 4 ∧ 6 ≤ i ∧ i ≤ 11) → ¬ (a = 3 ∧ 2 ≤ i ∧ i ≤ 5) → ¬ ((so ≤ a ∧ a ≤ so + 15) ∧ ¬ ((a = so ∧ i ≤ 10) ∨ ((a = so + 10 ∨ a = so + 13) ∧ i ≠ 1))) → M' a i = M a i
theorem cdf_rf {so : Int} {M : AwM} : cdf so M M := fun _ _ _ _ _ => rfl
theorem cdf_tr {so : Int} {M M1 M2 : AwM} (h : cdf so M1 M) (h' : cdf so M2 M1) : cdf so M2 M := fun a i p q r => (h' a i p q r).trans (h a i p q r)
theorem cdf_nx {so : Int} {M M1 : AwM} (h : nxf M1 M) : cdf so M1 M := fun a i p _ _ => h a i p
theorem cdf_ff {so fo : Int} {M M1 : AwM} (hfo : fo = so + 10 ∨ fo = so + 13) (h : ffr fo M1 M) : cdf so M1 M := fun a i p q r => h a i p (by omega) (by omega) (by omega)
variable {T : Int → Int} {L K : Nat}
section
variable {M : AwM} {so : Int} {D : AwM} {n : Int → Int} {i : Nat}
theorem CD.lay (h : CD T L K M so D n i) : LAY M := h.1.1
theorem CD.sc (h : CD T L K M so D n i) : SCN (tks T L) K M i := h.1.2.1
theorem CD.so' (h : CD T L K M so D n i) : M 3 1 = so := h.1.2.2.1
theorem CD.hso (h : CD T L K M so D n i) : so = 10 ∨ so = 137 := h.1.2.2.2.1
theorem CD_fr {M' : AwM} {i' : Nat} (h : CD T L K M so D n i) (hs : SCN (tks T L) K M' i') (hf : nxf M' M) : CD T L K M' so D n i' := by
  obtain ⟨⟨a1, a2, a3, a4, a5, a6⟩, ⟨b1, b2, b3, b4, b5⟩, c1, c2, c3, c4, ⟨d1, d2⟩, ⟨e1, e2⟩⟩ := h
  have g : ∀ a j : Int, a ≠ 4 → M' a j = M a j := fun a j x => hf a j (by omega)
  refine ⟨⟨LAY_nx a1 hf, hs, (g _ _ (by omega)).trans a3, a4, ⟨(g _ _ (by omega)).trans a5.1, (g _ _ (by omega)).trans a5.2.1, (g _ _ (by omega)).trans a5.2.2⟩, a6⟩, ⟨(g _ _ (by omega)).trans b1, (g _ _ (by omega)).trans b2, (g _ _ (by omega)).trans b3, (g _ _ (by omega)).trans b4, (g _ _ (by omega)).trans b5⟩, fun p x y => (g _ _ (by omega)).trans (c1 p x y), fun c x y => ?_, fun c x y => ?_, fun k w x y z u => (g _ _ (by omega)).trans (c4 k w x y z u), ⟨(g _ _ (by omega)).trans d1, fun k x y => (g _ _ (by omega)).trans (d2 k x y)⟩, ⟨(g _ _ (by omega)).trans e1, fun k x y => (g _ _ (by omega)).trans (e2 k x y)⟩⟩
  · rw [g _ _ (by omega), g _ _ (by omega), g _ _ (by omega), g _ _ (by omega)]; exact c2 c x y
  · rw [g _ _ (by omega), g _ _ (by omega)]; exact c3 c x y
theorem CD.lt (h : CD T L K M so D n i) (hk : 1 ≤ (tks T L i).1 ∧ (tks T L i).1 ≤ 4) : i < K := by
  have a := h.sc.1.1
  have b := h.1.2.2.2.2.2
  refine Classical.byContradiction fun z => ?_
  have e : i = K := by omega
  subst e
  have := b.1.1
  unfold isE at this
  omega
theorem cdnx_n (h : CD T L K M so D n i) (hk : 1 ≤ (tks T L i).1 ∧ (tks T L i).1 ≤ 4) : ∃ M', fX4_next SH M 4 = some M' ∧ CD T L K M' so D n (i + 1) ∧ nxf M' M := by
  obtain ⟨M', e, s, f⟩ := next_n h.lay h.sc (h.lt hk)
  exact ⟨M', e, CD_fr h s f, f⟩
/-- it stopped with a fault -/
def CDB (so : Int) (M' M : AwM) (k : Int) (p : Nat) : Prop := M' 3 4 = k ∧ M' 3 5 = (p : Int) ∧ cdf so M' M
theorem cdb_u {so k : Int} {p : Nat} {M : AwM} : CDB so (up_ (up_ M 3 4 k) 3 5 (p : Int)) M k p := by
  refine ⟨by rw [up_oi (by decide), up_at], up_at, fun a i _ q _ => ?_⟩
  rw [up_nn (fun z => q ⟨z.1, by omega⟩), up_nn (fun z => q ⟨z.1, by omega⟩)]
theorem CDB_tr {so k : Int} {p : Nat} {M M1 M2 : AwM} (h : cdf so M1 M) (h' : CDB so M2 M1 k p) : CDB so M2 M k p := ⟨h'.1, h'.2.1, cdf_tr h h'.2.2⟩
theorem cword_d (h : CD T L K M so D n i) {c : Int} : (ow (tks T L i) c = true → ∃ M', fX6_word SH M 3 c = some (1, M') ∧ CD T L K M' so D n (i + 1) ∧ nxf M' M) ∧ (ow (tks T L i) c = false → ∃ M', fX6_word SH M 3 c = some (0, M') ∧ CDB so M' M 1 (tks T L i).2.2.2.1) := by
  have pre : ∀ X : Option (Int × AwM), (if ow (tks T L i) c = true then pb (fX4_next SH M 4) (u1 fun (M7 : AwM) => (some ((1 : Int), M7))) else pb (fX6_fail SH M 3 1) (u2 fun (x9 : Int) (M10 : AwM) => (gd_ (x9 = 0 ∨ x9 = 1) (some (x9, M10))))) = X → fX6_word SH M 3 c = X := fun X hX => by
    unfold fX6_word
    rw [kd3, gd_t rfl, ly3_0 h.lay, kd4, gd_t rfl, cW_n h.sc, pb_1, u1_1, bi_if]
    exact hX
  refine ⟨fun z => ?_, fun z => ?_⟩
  · have := ow_t.mp z
    obtain ⟨M', e, s, f⟩ := cdnx_n h (by omega)
    exact ⟨M', pre _ (by rw [if_pos z, e, pb_1, u1_1]), s, f⟩
  · exact ⟨_, pre _ (by rw [z, if_neg (by decide), cfail_1 h.sc h.lay, pb_1, u2_1, gd_t (Or.inl rfl)]), cdb_u⟩
theorem csign_d (h : CD T L K M so D n i) {c : Int} : (sg (tks T L i) c = true → ∃ M', fX6_sign SH M 3 c = some (1, M') ∧ CD T L K M' so D n (i + 1) ∧ nxf M' M) ∧ (sg (tks T L i) c = false → ∃ M', fX6_sign SH M 3 c = some (0, M') ∧ CDB so M' M 1 (tks T L i).2.2.2.1) := by
  have pre : ∀ X : Option (Int × AwM), (if sg (tks T L i) c = true then pb (fX4_next SH M 4) (u1 fun (M7 : AwM) => (some ((1 : Int), M7))) else pb (fX6_fail SH M 3 1) (u2 fun (x9 : Int) (M10 : AwM) => (gd_ (x9 = 0 ∨ x9 = 1) (some (x9, M10))))) = X → fX6_sign SH M 3 c = X := fun X hX => by
    unfold fX6_sign
    rw [kd3, gd_t rfl, ly3_0 h.lay, kd4, gd_t rfl, cS_n h.sc, pb_1, u1_1, bi_if]
    exact hX
  refine ⟨fun z => ?_, fun z => ?_⟩
  · have := sg_t.mp z
    obtain ⟨M', e, s, f⟩ := cdnx_n h (by omega)
    exact ⟨M', pre _ (by rw [if_pos z, e, pb_1, u1_1]), s, f⟩
  · exact ⟨_, pre _ (by rw [z, if_neg (by decide), cfail_1 h.sc h.lay, pb_1, u2_1, gd_t (Or.inl rfl)]), cdb_u⟩
/-- the memory behind a fault -/
def FM (M : AwM) (k : Int) (p : Nat) : AwM := up_ (up_ M 3 4 k) 3 5 (p : Int)
theorem FM_lay {M : AwM} {k : Int} {p : Nat} (h : LAY M) : LAY (FM M k p) := LAY_ff (fo := 20) (Or.inl rfl) h (cbad_u (fo := 20)).2.2
/-- what a number gives: a fault, or the number -/
def nuR (x : Tk) (lo hi : Int) : Option (Int × Nat) := if x.1 = 2 then (if lo ≤ x.2.1 ∧ x.2.1 ≤ hi then none else some (4, x.2.2.1)) else some (1, x.2.2.2.1)
theorem ckd_i {x : Tk} {k : Int} (hk : 1 ≤ k ∧ k ≤ 4) : ckd x.1 = k ↔ x.1 = k := by unfold ckd; split <;> omega
theorem cnumb_d (h : CD T L K M so D n i) {lo hi : Int} : (nuR (tks T L i) lo hi = none → ((tks T L i).1 = 2 ∧ lo ≤ (tks T L i).2.1 ∧ (tks T L i).2.1 ≤ hi) ∧ ∃ M', fX6_number SH M 3 lo hi = some ((tks T L i).2.1, M') ∧ CD T L K M' so D n (i + 1) ∧ nxf M' M) ∧ (∀ k p, nuR (tks T L i) lo hi = some (k, p) → 0 < k ∧ fX6_number SH M 3 lo hi = some (-1, FM M k p)) := by
  have k8 := h.sc.k8
  unfold fX6_number nuR
  rw [kd3, gd_t rfl, ly3_0 h.lay, kd4, gd_t rfl, k8]
  by_cases z : (tks T L i).1 = 2
  · have k9 := h.sc.k9 (by omega) (by omega)
    rw [if_pos z, if_pos ((ckd_i (by decide)).mpr z), k9]
    by_cases zr : lo ≤ (tks T L i).2.1 ∧ (tks T L i).2.1 ≤ hi
    · rw [if_pos zr, if_neg (by omega), if_neg (by omega)]
      obtain ⟨M', e, s, f⟩ := cdnx_n h (by omega)
      refine ⟨fun _ => ⟨⟨z, zr⟩, M', by rw [e, pb_1, u1_1], s, f⟩, fun k p hh => absurd hh (by simp)⟩
    · rw [if_neg zr]
      refine ⟨fun hh => absurd hh (by simp), fun k p hh => ?_⟩
      have hh' := Option.some.inj hh
      rw [Prod.mk.injEq] at hh'
      obtain ⟨rfl, rfl⟩ := hh'
      refine ⟨by decide, ?_⟩
      by_cases a : (tks T L i).2.1 < lo
      · rw [if_pos a, cfail_k h.sc h.lay (by decide), pb_1, u2_1]; rfl
      · rw [if_neg a, if_pos (by omega), cfail_k h.sc h.lay (by decide), pb_1, u2_1]; rfl
  · rw [if_neg z, if_neg (fun q => z ((ckd_i (by decide)).mp q))]
    refine ⟨fun hh => absurd hh (by simp), fun k p hh => ?_⟩
    have hh' := Option.some.inj hh
    rw [Prod.mk.injEq] at hh'
    obtain ⟨rfl, rfl⟩ := hh'
    exact ⟨by decide, by rw [cfail_1 h.sc h.lay, pb_1, u2_1]; rfl⟩
theorem cfind_d (h : CD T L K M so D n i) {k nm : Int} (k0 : 0 ≤ k) (k1 : k < 3) (hn : n k = D 0 k) (hd : 0 ≤ D 0 k ∧ D 0 k ≤ 12) : fX5_find SH M so k nm = some (fnd D k nm) := by
  have l := h.lay
  have hso := h.hso
  have hc := fnd_c (D := D) (k := k) (nm := nm) hd.1
  have nk : M (so + 1) k = D 0 k := by
    obtain ⟨b1, b2, b3, _⟩ := h.2.1
    rw [← hn]
    rcases (show k = 0 ∨ k = 1 ∨ k = 2 by omega) with rfl | rfl | rfl
    · exact b1
    · exact b2
    · exact b3
  have key := lp_rel (body := u1 (fX5_find_L2 SH M so k nm)) (P := fun j (t : Int) => t = (j : Int) ∧ (j : Int) ≤ D 0 k ∧ ∀ w : Int, 0 ≤ w → w < (j : Int) → D 5 (12 * k + w) ≠ nm) (X := fun r : Unit ⊕ Int => ∃ v, FN (fun w => D 5 (12 * k + w)) (D 0 k) nm v ∧ ((r = .inl () ∧ v = -1) ∨ r = .inr v)) (n := 12) ?_ FU 0 (FU_gt (by omega)) ⟨rfl, by omega, fun w a b => by omega⟩
  · obtain ⟨r, er, v, hv, hr⟩ := key
    rw [FN_u hc hv]
    unfold fX5_find
    rw [er, pb_1]
    rcases hr with ⟨rfl, rfl⟩ | rfl
    · rfl
    · rfl
  · rintro j w hj ⟨hw, hjn, hk⟩
    subst hw
    rw [u1_1]
    unfold fX5_find_L2 fX5_isThere
    by_cases z : (j : Int) < D 0 k
    · have nm' := h.2.2.2.2.2.1 k (j : Int) k0 k1 (by omega) z
      rw [if_pos (by omega), kso0 hso, gd_t rfl, if_neg (by omega), if_pos k1, if_neg (by omega), gd_t rfl, lso0_0 l hso, kso1 hso, ga_t k0 (by omega), nk, if_pos z, pb_1, u1_1, if_neg (by decide), lso0_1 l hso, kso2 hso, w32_s (v := k * 12) (by omega) (by omega), w32_s (v := k * 12 + (j : Int)) (by omega) (by omega), ga_t (by omega) (by omega), show k * 12 + (j : Int) = 12 * k + (j : Int) by omega, nm']
      by_cases e : D 5 (12 * k + (j : Int)) = nm
      · rw [if_pos e]
        exact Or.inr ⟨_, rfl, (j : Int), Or.inl ⟨by omega, z, e, hk⟩, Or.inr rfl⟩
      · rw [if_neg e, w32_s (v := (j : Int) + 1) (by omega) (by omega)]
        refine Or.inl ⟨by omega, _, rfl, by omega, by omega, fun w a b => ?_⟩
        by_cases q : w = (j : Int)
        · rw [q]; exact e
        · exact hk w a (by omega)
    · by_cases z12 : (j : Int) < 12
      · rw [if_pos z12, kso0 hso, gd_t rfl, if_neg (by omega), if_pos k1, if_neg (by omega), gd_t rfl, lso0_0 l hso, kso1 hso, ga_t k0 (by omega), nk, if_neg z, pb_1, u1_1, if_pos rfl]
        exact Or.inr ⟨_, rfl, -1, Or.inr ⟨rfl, fun w a b => hk w a (by omega)⟩, Or.inl ⟨rfl, rfl⟩⟩
      · rw [if_neg z12]
        exact Or.inr ⟨_, rfl, -1, Or.inr ⟨rfl, fun w a b => hk w a (by omega)⟩, Or.inl ⟨rfl, rfl⟩⟩
/-- whom a name asks for: a fault, or which one -/
def asR (D : AwM) (x : Tk) (k bar : Int) : Option (Int × Nat) := if x.1 = 3 then (if fnd D k x.2.1 = -1 ∨ hb bar (fnd D k x.2.1) = true then some (3, x.2.2.1) else none) else some (1, x.2.2.2.1)
theorem cask_d (h : CD T L K M so D n i) {k bar : Int} (k0 : 0 ≤ k) (k1 : k < 3) (hn : n k = D 0 k) (hd : 0 ≤ D 0 k ∧ D 0 k ≤ 12) (hb' : ms 12 bar) : (asR D (tks T L i) k bar = none → ((tks T L i).1 = 3 ∧ (0 ≤ fnd D k (tks T L i).2.1 ∧ fnd D k (tks T L i).2.1 < D 0 k) ∧ hb bar (fnd D k (tks T L i).2.1) = false) ∧ ∃ M', fX6_asked SH M 3 k bar = some (fnd D k (tks T L i).2.1, M') ∧ CD T L K M' so D n (i + 1) ∧ nxf M' M) ∧ (∀ kd p, asR D (tks T L i) k bar = some (kd, p) → 0 < kd ∧ fX6_asked SH M 3 k bar = some (-1, FM M kd p)) := by
  have k8 := h.sc.k8
  unfold fX6_asked asR
  rw [kd3, gd_t rfl, ly3_0 h.lay, kd4, gd_t rfl, k8]
  by_cases z : (tks T L i).1 = 3
  · have k9 := h.sc.k9 (by omega) (by omega)
    have hc := fnd_c (D := D) (k := k) (nm := (tks T L i).2.1) hd.1
    rw [if_pos z, if_pos ((ckd_i (by decide)).mpr z), k9, h.so', kso0 h.hso, gd_t rfl, cfind_d h k0 k1 hn hd, pb_1, u1_1]
    generalize fnd D k (tks T L i).2.1 = w at *
    have w01 : w = -1 ∨ (0 ≤ w ∧ w < D 0 k) := by
      rcases hc with ⟨a, b, _⟩ | ⟨a, _⟩
      · exact Or.inr ⟨a, b⟩
      · exact Or.inl a
    by_cases z1 : w = -1
    · rw [if_pos z1, if_pos (Or.inl z1)]
      refine ⟨fun hh => absurd hh (by simp), fun kd p hh => ?_⟩
      have hh' := Option.some.inj hh
      rw [Prod.mk.injEq] at hh'
      obtain ⟨rfl, rfl⟩ := hh'
      exact ⟨by decide, by rw [cfail_k h.sc h.lay (by decide), pb_1, u2_1]; rfl⟩
    · have w0 := w01.resolve_left z1
      rw [if_neg z1, isIn_n hb' (by decide), pb_1, u1_1, bi_if, hz_p w0.1]
      by_cases z2 : hb bar w = true
      · rw [if_pos z2, if_pos (Or.inr z2)]
        refine ⟨fun hh => absurd hh (by simp), fun kd p hh => ?_⟩
        have hh' := Option.some.inj hh
        rw [Prod.mk.injEq] at hh'
        obtain ⟨rfl, rfl⟩ := hh'
        exact ⟨by decide, by rw [cfail_k h.sc h.lay (by decide), pb_1, u2_1]; rfl⟩
      · rw [if_neg z2, if_neg (fun q => q.elim z1 z2)]
        obtain ⟨M', e, s, f⟩ := cdnx_n h (by omega)
        exact ⟨fun _ => ⟨⟨z, w0, bf z2⟩, M', by rw [e, pb_1, u1_1], s, f⟩, fun kd p hh => absurd hh (by simp)⟩
  · rw [if_neg z, if_neg (fun q => z ((ckd_i (by decide)).mp q))]
    refine ⟨fun hh => absurd hh (by simp), fun k p hh => ?_⟩
    have hh' := Option.some.inj hh
    rw [Prod.mk.injEq] at hh'
    obtain ⟨rfl, rfl⟩ := hh'
    exact ⟨by decide, by rw [cfail_1 h.sc h.lay, pb_1, u2_1]; rfl⟩
end
end PCDR
