/-! the model's draft -/
section PMDR
section
variable (T : Int → Int) (L K : Nat)
def MD (M : AwM) (b : Int) (D : AwM) (i : Nat) : Prop :=
  (LAY M ∧ MTp M T L ∧ M 167 36 = b ∧ M 167 8 = 0 ∧ MTK M (tks T L i) ∧ (b = 0 ∨ b = 1) ∧ i ≤ K ∧ ENDS (tks T L) K) ∧
  MS M b D ∧
  (∀ c : Int, 0 ≤ c → c < D 0 1 → M 173 (12 * b + c) = D 8 c ∧ M 174 (12 * b + c) = D 9 c ∧ M 175 (12 * b + c) = D 10 c) ∧
  (∃ cf : Nat, M 167 35 = (cf : Int) ∧ cf ≤ i ∧ (0 < D 6 (-1) → M 182 b ≤ (cf : Int)) ∧ (0 < D 7 (-1) → M 184 b ≤ (cf : Int)))
end
/-- the draft's bank -/
def inb (b a i : Int) : Prop := ((a = 169 ∨ a = 171 ∨ a = 176 ∨ (179 ≤ a ∧ a ≤ 184)) ∧ i = b) ∨ ((a = 170 ∨ a = 177 ∨ a = 178 ∨ a = 187 ∨ a = 189) ∧ 10 * b ≤ i ∧ i < 10 * b + 10) ∨ (((172 ≤ a ∧ a ≤ 175) ∨ a = 188) ∧ 12 * b ≤ i ∧ i < 12 * b + 12) ∨ ((a = 185 ∨ a = 186) ∧ 1600 * b ≤ i ∧ i < 1600 * b + 1600)
def mdf (b : Int) (M' M : AwM) : Prop := ∀ a i : Int, ¬ (a = 167 ∧ (3 ≤ i ∧ i ≤ 9 ∨ i = 12 ∨ i = 35 ∨ i = 42 ∨ i = 43 ∨ i = 45 ∨ i = 46)) → ¬ (190 ≤ a ∧ a ≤ 195) → ¬ inb b a i → M' a i = M a i
theorem mdf_rf {b : Int} {M : AwM} : mdf b M M := fun _ _ _ _ _ => rfl
theorem mdf_tr {b : Int} {M M1 M2 : AwM} (h : mdf b M1 M) (h' : mdf b M2 M1) : mdf b M2 M := fun a i p q r => (h' a i p q r).trans (h a i p q r)
theorem mdf_ma {b : Int} {M M1 : AwM} (h : maf M1 M) : mdf b M1 M := fun a i p _ _ => h a i (by omega)
theorem mdf_mp {b : Int} {cf : Nat} {M M1 : AwM} (h : mpf b cf M1 M) : mdf b M1 M := fun a i p q r => h a i p q (fun z => r (by unfold inb; omega))
theorem mdf_up {b : Int} {M : AwM} {a i v : Int} (h : inb b a i ∨ (a = 167 ∧ (i = 8 ∨ i = 9 ∨ i = 35))) : mdf b (up_ M a i v) M := fun a' i' p _ r => up_nn (fun z => by
  rcases h with h | h
  · exact r (by rw [z.1, z.2]; exact h)
  · omega)
theorem LAY_md {b : Int} {M M' : AwM} (h : LAY M) (f : mdf b M' M) : LAY M' := LAY_fq h (fun q hq => by
  have t := of_decide_eq_true (List.all_eq_true.mp lay_ma q hq)
  have u := of_decide_eq_true (List.all_eq_true.mp lay_mb q hq)
  exact f _ _ (by omega) (by omega) (by unfold inb; omega))
def MBd (b : Int) (M' M : AwM) (k : Int) (p : Nat) : Prop := M' 167 8 = k ∧ M' 167 9 = (p : Int) ∧ mdf b M' M
theorem MBd_tr {b k : Int} {p : Nat} {M M1 M2 : AwM} (h : mdf b M1 M) (h' : MBd b M2 M1 k p) : MBd b M2 M k p := ⟨h'.1, h'.2.1, mdf_tr h h'.2.2⟩
theorem MBd_w {b k : Int} {p : Nat} {M M1 : AwM} {a i v : Int} (h : MBd b M1 M k p) (ha : inb b a i) : MBd b (up_ M1 a i v) M k p := by
  have a167 : a ≠ 167 := by unfold inb at ha; omega
  exact ⟨(up_of (Ne.symm a167)).trans h.1, (up_of (Ne.symm a167)).trans h.2.1, mdf_tr h.2.2 (mdf_up (Or.inl ha))⟩
theorem mbd_u {b k p : Int} {n : Nat} {M : AwM} (hp : p = (n : Int)) : MBd b (up_ (up_ M 167 8 k) 167 9 p) M k n := by
  refine ⟨by rw [up_oi (by decide), up_at], by rw [up_at, hp], mdf_tr (mdf_up (Or.inr (by omega))) (mdf_up (Or.inr (by omega)))⟩
variable {T : Int → Int} {L K : Nat} {b : Int} {D M : AwM} {i : Nat}
theorem MD.lay (h : MD T L K M b D i) : LAY M := h.1.1
theorem MD.h8 (h : MD T L K M b D i) : M 167 8 = 0 := h.1.2.2.2.1
theorem MD.tk (h : MD T L K M b D i) : MTK M (tks T L i) := h.1.2.2.2.2.1
theorem MD.in' (h : MD T L K M b D i) : M 167 36 = b := h.1.2.2.1
theorem MD.b01 (h : MD T L K M b D i) : b = 0 ∨ b = 1 := h.1.2.2.2.2.2.1
theorem MD.lt (h : MD T L K M b D i) (hk : 1 ≤ (tks T L i).1 ∧ (tks T L i).1 ≤ 4) : i < K := by
  obtain ⟨_, _, _, _, _, _, a, c⟩ := h.1
  refine Classical.byContradiction fun z => ?_
  have e : i = K := by omega
  subst e
  have := c.1.1
  unfold isE at this
  omega
theorem MD_ma {M' : AwM} {i' : Nat} (h : MD T L K M b D i) (f : maf M' M) (t : MTK M' (tks T L i')) (hi : i' ≤ K) (hii : i ≤ i') : MD T L K M' b D i' := by
  obtain ⟨⟨a1, a2, a3, a4, a5, a6, a7, a8⟩, s, c, ⟨cf, d1, d2, d3, d4⟩⟩ := h
  have g : ∀ a j : Int, a ≠ 167 → M' a j = M a j := fun a j x => f a j (by omega)
  refine ⟨⟨LAY_ma a1 f, MTp_ma a2 f, (f _ _ (by omega)).trans a3, (f _ _ (by omega)).trans a4, t, a6, hi, a8⟩, MS_fr s (fun a j x y => g a j (by omega)), fun c' x y => ?_, cf, (f _ _ (by omega)).trans d1, by omega, fun z => by rw [g _ _ (by decide)]; exact d3 z, fun z => by rw [g _ _ (by decide)]; exact d4 z⟩
  rw [g _ _ (by decide), g _ _ (by decide), g _ _ (by decide)]; exact c c' x y
theorem mdnx_n (h : MD T L K M b D i) (hk : 1 ≤ (tks T L i).1 ∧ (tks T L i).1 ≤ 4) : ∃ M', fX9_ahead SH M 167 = some M' ∧ MD T L K M' b D (i + 1) ∧ maf M' M := by
  obtain ⟨M', e, f, t⟩ := mnext_n h.lay h.1.2.1 h.tk hk
  have lt := h.lt hk
  exact ⟨M', e, MD_ma h f t (by omega) (by omega), f⟩
/-- a write where nobody is yet -/
theorem MD_w {a j v : Int} (h : MD T L K M b D i) (hc : (0 ≤ D 0 0 ∧ D 0 0 ≤ 10) ∧ (0 ≤ D 0 1 ∧ D 0 1 ≤ 12) ∧ (0 ≤ D 0 2 ∧ D 0 2 ≤ 10)) (ha : ((a = 187 ∨ a = 170) ∧ j = 10 * b + D 0 0) ∨ ((a = 188 ∨ (172 ≤ a ∧ a ≤ 175)) ∧ j = 12 * b + D 0 1) ∨ ((a = 189 ∨ a = 177 ∨ a = 178) ∧ j = 10 * b + D 0 2)) : MD T L K (up_ M a j v) b D i := by
  have ne : ∀ a' j' : Int, ¬ (a' = a ∧ j' = j) → up_ M a j v a' j' = M a' j' := fun a' j' z => up_nn z
  obtain ⟨⟨a1, a2, a3, a4, a5, a6, a7, a8⟩, ⟨⟨s1, s2, s3, s4, s5⟩, r1, r2, r3, r4, r5, r6, r7⟩, c, ⟨cf, d1, d2, d3, d4⟩⟩ := h
  have l' : LAY (up_ M a j v) := LAY_fq a1 (fun q hq => by
    have u := of_decide_eq_true (List.all_eq_true.mp lay_mb q hq)
    exact ne _ _ (by omega))
  have mt : MTK (up_ M a j v) (tks T L i) := by
    unfold MTK
    rw [ne 167 4 (by omega), ne 167 5 (by omega), ne 167 12 (by omega), ne 167 3 (by omega), ne 167 6 (by omega), ne 167 7 (by omega)]
    exact a5
  have mf : ∀ fr bh : Int, (179 ≤ fr ∧ fr ≤ 184) → (179 ≤ bh ∧ bh ≤ 184) → ∀ f : Int → Int, MF M b fr bh f → MF (up_ M a j v) b fr bh f := fun fr bh h1 h2 f hf => by
    unfold MF
    rw [ne fr b (by omega), ne bh b (by omega)]
    refine ⟨hf.1, fun z => ?_⟩
    obtain ⟨x1, x2, x3, x4⟩ := hf.2 z
    refine ⟨x1, x2, x3, fun k y1 y2 => ?_⟩
    rw [ne 185 _ (by omega), ne 186 _ (by omega)]
    exact x4 k y1 y2
  refine ⟨⟨l', ⟨⟨(ne _ _ (by omega)).trans a2.1.1, (ne _ _ (by omega)).trans a2.1.2⟩, a2.2.1, fun k x y => ⟨(a2.2.2 k x y).1, (ne _ _ (by omega)).trans (a2.2.2 k x y).2⟩⟩, (ne _ _ (by omega)).trans a3, (ne _ _ (by omega)).trans a4, mt, a6, a7, a8⟩, ⟨⟨(ne _ _ (by omega)).trans s1, (ne _ _ (by omega)).trans s2, (ne _ _ (by omega)).trans s3, (ne _ _ (by omega)).trans s4, (ne _ _ (by omega)).trans s5⟩, fun p x y => (ne _ _ (by omega)).trans (r1 p x y), fun p x y => (ne _ _ (by omega)).trans (r2 p x y), fun p x y => (ne _ _ (by omega)).trans (r3 p x y), fun p x y => (ne _ _ (by omega)).trans (r4 p x y), mf _ _ (by decide) (by decide) _ r5, mf _ _ (by decide) (by decide) _ r6, fun k w x y z u => ?_⟩, fun c' x y => ?_, cf, (ne _ _ (by omega)).trans d1, d2, fun z => by rw [ne _ _ (by omega)]; exact d3 z, fun z => by rw [ne _ _ (by omega)]; exact d4 z⟩
  · have := r7 k w x y z u
    unfold mnm at this ⊢
    by_cases k0 : k = 0
    · subst k0
      rw [if_pos rfl] at this ⊢
      rw [ne _ _ (by omega)]; exact this
    · rw [if_neg k0] at this ⊢
      by_cases k1 : k = 1
      · subst k1
        rw [if_pos rfl] at this ⊢
        rw [ne _ _ (by omega)]; exact this
      · have k2 : k = 2 := by omega
        subst k2
        rw [if_neg k1] at this ⊢
        rw [ne _ _ (by omega)]; exact this
  · have := c c' x y
    rw [ne _ _ (by omega), ne _ _ (by omega), ne _ _ (by omega)]; exact this
/-- names packed in six or eight -/
theorem n8_up : ∀ (k j : Nat) (x a : Int), k ≤ j → ndOK k x → n8f j x a = n8f k x a
  | 0, j, x, a, _, h => by
    have hx : x = 0 := h
    rw [hx, n8f_0]; rfl
  | k + 1, 0, _, _, hk, _ => absurd hk (by omega)
  | k + 1, j + 1, x, a, hk, h => by
    show (if x ≤ 0 then a else n8f j (x / 32) (256 * a + 96 + x % 32)) = (if x ≤ 0 then a else n8f k (x / 32) (256 * a + 96 + x % 32))
    rcases h with h | ⟨h1, _, _, h4⟩
    · rw [if_pos (by omega), if_pos (by omega)]
    · rw [if_neg (by omega), if_neg (by omega)]
      exact n8_up k j _ _ (by omega) h4
def DNa (D : AwM) : Prop := ∀ k w : Int, 0 ≤ k → k < 3 → 0 ≤ w → w < D 0 k → ndOK 6 (D 5 (12 * k + w))
theorem mnamed_n (h : MD T L K M b D i) (hD : DC D) (hN : DNa D) {k nm : Int} (k0 : 0 ≤ k) (k1 : k < 3) (hn : ndOK 6 nm) : fX9_named SH M 167 k (n8f 8 nm 0) = some (fnd D k nm) := by
  have l := h.lay
  have hb' := h.b01
  have hd := hD.k k k0 k1
  have hc := fnd_c (D := D) (k := k) (nm := nm) hd.1
  obtain ⟨⟨s1, s2, s3, s4, s5⟩, r1, r2, r3, r4, r5, r6, r7⟩ := h.2.1
  have many : fX9_manyOf SH M 167 b k = some (D 0 k) := by
    unfold fX9_manyOf
    rcases (show k = 0 ∨ k = 1 ∨ k = 2 by omega) with rfl | rfl | rfl
    · rw [if_pos rfl, kd167, gd_t rfl, ly167_14 l, kd169, ga_t (by omega) (by omega), s1]
    · rw [if_neg (by decide), if_pos rfl, kd167, gd_t rfl, ly167_16 l, kd171, ga_t (by omega) (by omega), s2]
    · rw [if_neg (by decide), if_neg (by decide), kd167, gd_t rfl, ly167_21 l, kd176, ga_t (by omega) (by omega), s3]
  have nmo : ∀ w : Int, 0 ≤ w → w < D 0 k → fX9_nameOf SH M 167 b k w = some (n8 (D 5 (12 * k + w))) := fun w w0 w1 => by
    have := r7 k w k0 k1 w0 w1
    have c0 := hD
    obtain ⟨q0, q1, q2⟩ := c0
    unfold mnm at this
    unfold fX9_nameOf
    rcases (show k = 0 ∨ k = 1 ∨ k = 2 by omega) with rfl | rfl | rfl
    · rw [if_pos rfl] at this
      rw [if_pos rfl, kd167, gd_t rfl, ly167_32 l, kd187, w32_s (v := 10 * b) (by omega) (by omega), w32_s (v := 10 * b + w) (by omega) (by omega), gd_t (by refine ⟨rfl, by omega, ?_⟩; show _ < (20 : Int); omega), this]
    · rw [if_neg (by decide), if_pos rfl] at this
      rw [if_neg (by decide), if_pos rfl, kd167, gd_t rfl, ly167_33 l, kd188, w32_s (v := 12 * b) (by omega) (by omega), w32_s (v := 12 * b + w) (by omega) (by omega), gd_t (by refine ⟨rfl, by omega, ?_⟩; show _ < (24 : Int); omega), this]
    · rw [if_neg (by decide), if_neg (by decide)] at this
      rw [if_neg (by decide), if_neg (by decide), kd167, gd_t rfl, ly167_34 l, kd189, w32_s (v := 10 * b) (by omega) (by omega), w32_s (v := 10 * b + w) (by omega) (by omega), gd_t (by refine ⟨rfl, by omega, ?_⟩; show _ < (20 : Int); omega), this]
  have key := lp_rel (body := u1 (fX9_named_L3 SH M 167 k (n8f 8 nm 0))) (P := fun j (t : Int) => t = (j : Int) ∧ (j : Int) ≤ D 0 k ∧ ∀ w : Int, 0 ≤ w → w < (j : Int) → D 5 (12 * k + w) ≠ nm) (X := fun r : Unit ⊕ Int => ∃ v, FN (fun w => D 5 (12 * k + w)) (D 0 k) nm v ∧ ((r = .inl () ∧ v = -1) ∨ r = .inr v)) (n := 12) ?_ FU 0 (FU_gt (by omega)) ⟨rfl, by omega, fun w a c => by omega⟩
  · obtain ⟨r, er, v, hv, hr⟩ := key
    rw [FN_u hc hv]
    unfold fX9_named
    rw [er, pb_1]
    rcases hr with ⟨rfl, rfl⟩ | rfl
    · rfl
    · rfl
  · rintro j w hj ⟨hw, hjn, hk⟩
    subst hw
    rw [u1_1]
    unfold fX9_named_L3
    rw [kd167, gd_t rfl, h.in', many, pb_1, u1_1]
    by_cases z : (j : Int) < D 0 k
    · have nd := hN k (j : Int) k0 k1 (by omega) z
      have e8 : n8 (D 5 (12 * k + (j : Int))) = n8f 8 nm 0 ↔ D 5 (12 * k + (j : Int)) = nm := by
        rw [n8_up 6 8 nm 0 (by decide) hn]
        exact ⟨fun q => n8_inj nd hn q, fun q => by rw [q]; rfl⟩
      rw [if_pos z, nmo _ (by omega) z, pb_1, u1_1]
      by_cases e : D 5 (12 * k + (j : Int)) = nm
      · rw [if_pos (Eq.mpr cmp_z (e8.mpr e))]
        exact Or.inr ⟨_, rfl, (j : Int), Or.inl ⟨by omega, z, e, hk⟩, Or.inr rfl⟩
      · rw [if_neg (fun q => e (e8.mp (Eq.mp cmp_z q))), w32_s (v := (j : Int) + 1) (by omega) (by omega)]
        refine Or.inl ⟨by omega, _, rfl, by omega, by omega, fun w a c => ?_⟩
        by_cases q : w = (j : Int)
        · rw [q]; exact e
        · exact hk w a (by omega)
    · rw [if_neg z]
      exact Or.inr ⟨_, rfl, -1, Or.inr ⟨rfl, fun w a c => hk w a (by omega)⟩, Or.inl ⟨rfl, rfl⟩⟩
/-- behind a fault nothing more is done -/
theorem mmustw_f {M : AwM} {w : Int} (h8 : 0 < M 167 8) : fX9_must_ SH M 167 w = some M := by
  unfold fX9_must_
  rw [kd167, gd_t rfl, mlex_f h8, pb_1, u1_1, if_pos h8]
theorem mmust_f {M : AwM} {c : Int} (h8 : 0 < M 167 8) : fX9_must SH M 167 c = some M := by
  obtain ⟨v, e⟩ := isS_any (M := M) (c := c)
  unfold fX9_must
  rw [kd167, gd_t rfl, mlex_f h8, pb_1, u1_1, e, pb_1, u1_1]
  by_cases z : v = 0
  · rw [if_pos z, mblm_f h8, pb_1, u1_1, if_neg (by omega)]
  · rw [if_neg z, if_neg (by omega)]
theorem mnum_f {M : AwM} {lo hi : Int} (h8 : 0 < M 167 8) : fX9_number SH M 167 lo hi = some (0, M) := by
  unfold fX9_number
  rw [kd167, gd_t rfl, mlex_f h8, pb_1, u1_1, if_pos h8]
theorem mlook_f {M : AwM} {k : Int} (h8 : 0 < M 167 8) : fX9_looked SH M 167 k = some (0, M) := by
  unfold fX9_looked
  rw [kd167, gd_t rfl, mlex_f h8, pb_1, u1_1, if_pos h8]
theorem mask_f {M : AwM} {k : Int} (h8 : 0 < M 167 8) : fX9_asked SH M 167 k = some (0, M) := by
  unfold fX9_asked
  rw [kd167, gd_t rfl, mlook_f h8, pb_1, u2_1, if_neg (by omega), if_pos h8]
/-- a word that must stand -/
theorem mmustw_n (h : MD T L K M b D i) {w k : Int} (k0 : 0 ≤ k) (k1 : k < 23) (hw : w = own8f k) : (ow (tks T L i) k = true → ∃ M', fX9_must_ SH M 167 w = some M' ∧ MD T L K M' b D (i + 1) ∧ maf M' M) ∧ (ow (tks T L i) k = false → ∃ M', fX9_must_ SH M 167 w = some M' ∧ MBd b M' M 1 (tks T L i).2.2.2.1) := by
  have tok := tks_ok T L i
  unfold fX9_must_
  rw [kd167, gd_t rfl]
  by_cases z5 : (tks T L i).1 = 5
  · refine ⟨fun q => by have := ow_t.mp q; omega, fun _ => ⟨_, ?_, mbd_u rfl⟩⟩
    rw [mlex_5 h.tk z5 h.h8, pb_1, u1_1, if_pos p8_1]
  · rw [mlex_n h.tk z5, pb_1, u1_1, h.h8, if_neg (by decide), mwrd_n h.tk tok z5 k0 k1 hw, pb_1, u1_1, bi_if]
    refine ⟨fun q => ?_, fun q => ⟨_, ?_, mbd_u (p := ((tks T L i).2.2.1 : Int)) (by rw [tkP_s T L i z5])⟩⟩
    · have := ow_t.mp q
      obtain ⟨M', e, s, f⟩ := mdnx_n h (by omega)
      exact ⟨M', by rw [if_pos q, if_pos rfl, e, pb_1, u1_1], s, f⟩
    · rw [if_neg (by rw [q]; decide), h.tk.1, mblm_n h.h8, pb_1, u1_1, if_neg (by rw [up_oi (by decide), up_at]; decide)]
/-- a number -/
theorem mnum_n (h : MD T L K M b D i) {lo hi : Int} : (nuR (tks T L i) lo hi = none → ∃ M', fX9_number SH M 167 lo hi = some ((tks T L i).2.1, M') ∧ MD T L K M' b D (i + 1) ∧ maf M' M) ∧ (∀ k p, nuR (tks T L i) lo hi = some (k, p) → ∃ v M', fX9_number SH M 167 lo hi = some (v, M') ∧ MBd b M' M k p) := by
  have tok := tks_ok T L i
  unfold fX9_number nuR
  rw [kd167, gd_t rfl]
  by_cases z5 : (tks T L i).1 = 5
  · rw [if_neg (by omega)]
    refine ⟨fun q => absurd q (by simp), fun k p q => ?_⟩
    have hh' := Option.some.inj q
    rw [Prod.mk.injEq] at hh'
    obtain ⟨rfl, rfl⟩ := hh'
    refine ⟨0, _, ?_, mbd_u rfl⟩
    rw [mlex_5 h.tk z5 h.h8, pb_1, u1_1, if_pos p8_1]
  · rw [mlex_n h.tk z5, pb_1, u1_1, h.h8, if_neg (show ¬ (0 : Int) < 0 by decide)]
    by_cases z2 : (tks T L i).1 = 2
    · have m2 := h.tk.2.2.2.2.2.2.1 z2
      unfold fX9_number_J30 fX9_number_J58
      rw [if_pos z2, m2.1, if_pos rfl, kd167, gd_t rfl, h.h8, if_pos rfl, m2.2, isr_n, pb_1, u1_1, bi_if]
      by_cases zr : lo ≤ (tks T L i).2.1 ∧ (tks T L i).2.1 ≤ hi
      · obtain ⟨M', e, s, f⟩ := mdnx_n h (by omega)
        rw [if_pos zr, if_pos (decide_eq_true zr), gd_t rfl, if_pos rfl, e, pb_1, u1_1]
        exact ⟨fun _ => ⟨M', rfl, s, f⟩, fun k p q => absurd q (by simp)⟩
      · rw [if_neg zr, if_neg (by rw [decide_eq_false zr]; decide)]
        refine ⟨fun q => absurd q (by simp), fun k p q => ?_⟩
        have hh' := Option.some.inj q
        rw [Prod.mk.injEq] at hh'
        obtain ⟨rfl, rfl⟩ := hh'
        refine ⟨up_ (up_ M 167 8 4) 167 9 ((tks T L i).2.2.1 : Int) 167 6, _, ?_, mbd_u rfl⟩
        rw [h.tk.1, mblm_n h.h8, pb_1, u1_1, gd_t rfl, if_neg (by rw [up_oi (by decide), up_at]; decide)]
    · have k06 := tok.1
      have e3 : ¬ M 167 3 = 2 := by
        obtain ⟨_, _, _, _, m0, m1', m2, m3, m4⟩ := h.tk
        rcases (show (tks T L i).1 = 0 ∨ (tks T L i).1 = 1 ∨ (tks T L i).1 = 3 ∨ (tks T L i).1 = 4 ∨ (tks T L i).1 = 6 by omega) with q | q | q | q | q
        · rw [m0 q]; decide
        · rw [(m1' (Or.inl q)).1]; decide
        · rw [(m3 q).1]; decide
        · rw [(m4 q).1]; decide
        · rw [(m1' (Or.inr q)).1]; decide
      rw [if_neg z2, if_neg e3]
      refine ⟨fun q => absurd q (by simp), fun k p q => ?_⟩
      have hh' := Option.some.inj q
      rw [Prod.mk.injEq] at hh'
      obtain ⟨rfl, rfl⟩ := hh'
      refine ⟨up_ (up_ M 167 8 1) 167 9 ((tks T L i).2.2.1 : Int) 167 6, _, ?_, mbd_u (p := ((tks T L i).2.2.1 : Int)) (by rw [tkP_s T L i z5])⟩
      unfold fX9_number_J30 fX9_number_J58
      rw [h.tk.1, mblm_n h.h8, pb_1, u1_1, kd167, gd_t rfl, if_neg (by rw [up_oi (by decide), up_at]; decide), gd_t rfl, if_neg (by rw [up_oi (by decide), up_at]; decide)]
end PMDR
