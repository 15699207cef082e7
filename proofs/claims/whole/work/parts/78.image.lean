/-! the image alike -/
section PIMG
theorem an255b (x : Int) : 0 ≤ an_ x 255 ∧ an_ x 255 ≤ 255 := by
  have : an_ x 255 = (i32 x).toInt % 256 := by
    unfold an_
    rw [mask32 (i32 x) (i32 255) (k := 8) (by decide) (by decide)]
    rfl
  omega
def imC (mi : AwM) : AwM := up_ mi 17 (-1) 0
def imW (mi : AwM) (v : Int) : AwM := up_ (up_ mi 17 (mi 17 (-1)) (v % 256)) 17 (-1) (mi 17 (-1) + 1)
theorem imW_l {mi : AwM} {v : Int} : imW mi v 17 (-1) = mi 17 (-1) + 1 := up_at
theorem imW_o {mi : AwM} {v x i : Int} (h : x ≠ 17) : imW mi v x i = mi x i := (up_of h).trans (up_of h)
theorem MiOK_im {mi mi' : AwM} (h : MiOK mi) (ho : ∀ x i, x ≠ 17 → mi' x i = mi x i) (l0 : 0 ≤ mi' 17 (-1)) (l1 : mi' 17 (-1) ≤ 135) : MiOK mi' := by
  obtain ⟨h1, h2, h3, h4, h5⟩ := h
  unfold MiOK
  rw [ho 14 (-1) (by decide), ho 16 (-1) (by decide), ho 18 0 (by decide)]
  refine ⟨h1, fun i i0 i1 => ?_, h3, ⟨l0, l1⟩, h5⟩
  rw [ho 14 i (by decide)]
  exact h2 i i0 i1
theorem CR_im {M M' s d : AwM} {n : Int} {R : Int → AwM} {mi mi' : AwM} (h : CR M s d n R mi) (hf : ∀ a i, a ≠ 136 → ¬ (a = 1 ∧ i = 12) → M' a i = M a i) (ho : ∀ x i, x ≠ 17 → mi' x i = mi x i) (l0 : 0 ≤ mi' 17 (-1)) (l1 : mi' 17 (-1) ≤ 135) (e12 : M' 1 12 = mi' 17 (-1)) (hb' : ∀ i : Int, 0 ≤ i → i < mi' 17 (-1) → an_ (M' 136 i) 255 = mi' 17 i) : CR M' s d n R mi' ∧ hif M' M := by
  have hl : LAY M' := LAY_fq h.lay (fun q hq => by
    have h0 : layT.all (fun q => decide (q.1 ≠ 136 ∧ ¬ (q.1 = 1 ∧ q.2.1 = 12))) = true := by decide +kernel
    have := of_decide_eq_true (List.all_eq_true.mp h0 q hq)
    exact hf _ _ this.1 this.2)
  refine ⟨CR_mi h hl (fun a i x y _ z _ _ => hf a i (by omega) (by omega)) (MiOK_im h.mk ho l0 l1) ?_, fun a i x => hf a i (by omega) (by omega)⟩
  obtain ⟨a1, a2, a3, a4, a5, a6, a7, a8, a9, a10⟩ := h.mi
  unfold CMi
  rw [ho 14 (-1) (by decide), ho 15 0 (by decide), ho 15 1 (by decide), ho 16 (-1) (by decide), ho 18 0 (by decide), hf 1 1 (by decide) (by decide), hf 3 4 (by decide) (by decide), hf 3 5 (by decide) (by decide), hf 1 10 (by decide) (by decide), hf 1 13 (by decide) (by decide)]
  refine ⟨a1, fun i i0 i1 => ?_, a3, a4, a5, fun i i0 i1 => ?_, e12, hb', a9, fun i i0 i1 => ?_⟩
  · rw [ho 14 i (by decide), hf _ _ (by omega) (by omega)]; exact a2 i i0 i1
  · rw [ho 16 i (by decide), hf _ _ (by omega) (by omega)]; exact a6 i i0 i1
  · rw [ho 19 i (by decide), hf _ _ (by omega) (by omega)]; exact a10 i i0 i1
theorem MR_im {M M' s d : AwM} {n : Int} {R : Int → AwM} {mi mi' : AwM} (h : MR M s d n R mi) (hf : ∀ a i, a ≠ 207 → ¬ (a = 167 ∧ i = 70) → M' a i = M a i) (ho : ∀ x i, x ≠ 17 → mi' x i = mi x i) (l0 : 0 ≤ mi' 17 (-1)) (l1 : mi' 17 (-1) ≤ 135) (e12 : M' 167 70 = mi' 17 (-1)) (hb' : ∀ i : Int, 0 ≤ i → i < mi' 17 (-1) → M' 207 i = mi' 17 i) : MR M' s d n R mi' ∧ lof M' M := by
  have hl : LAY M' := LAY_fq h.lay (fun q hq => by
    have h0 : layT.all (fun q => decide (q.1 ≠ 207 ∧ ¬ (q.1 = 167 ∧ q.2.1 = 70))) = true := by decide +kernel
    have := of_decide_eq_true (List.all_eq_true.mp h0 q hq)
    exact hf _ _ this.1 this.2)
  refine ⟨MR_mi h hl (fun a i x y z w => hf a i (by omega) (by omega)) (MiOK_im h.mk ho l0 l1) ?_, fun a i x => hf a i (by omega) (by omega)⟩
  obtain ⟨a1, a2, a3, a4, a5, a6, a7, a8, a9, a10⟩ := h.mi
  unfold MMi
  rw [ho 14 (-1) (by decide), ho 15 0 (by decide), ho 15 1 (by decide), ho 16 (-1) (by decide), ho 18 0 (by decide), hf 167 1 (by decide) (by decide), hf 167 10 (by decide) (by decide), hf 167 11 (by decide) (by decide), hf 167 67 (by decide) (by decide), hf 167 55 (by decide) (by decide)]
  refine ⟨a1, fun i i0 i1 => ?_, a3, a4, a5, fun i i0 i1 => ?_, e12, hb', a9, fun i i0 i1 => ?_⟩
  · rw [ho 14 i (by decide), hf _ _ (by omega) (by omega)]; exact a2 i i0 i1
  · rw [ho 16 i (by decide), hf _ _ (by omega) (by omega)]; exact a6 i i0 i1
  · rw [ho 19 i (by decide), hf _ _ (by omega) (by omega)]; exact a10 i i0 i1
theorem putIm_n {M s d : AwM} {n : Int} {R : Int → AwM} {mi : AwM} {v : Int} (h : CR M s d n R mi) (hl : mi 17 (-1) < 135) (hv : I32 v) : ∃ M', fX8_putImageByte SH M 1 v = some M' ∧ CR M' s d n R (imW mi v) ∧ hif M' M := by
  have hm := h.mk.2.2.2.1
  obtain ⟨a1, a2, a3, a4, a5, a6, a7, a8, a9, a10⟩ := h.mi
  refine ⟨up_ (up_ M 136 (mi 17 (-1)) (w8_ (w8_ v))) 1 12 (mi 17 (-1) + 1), ?_, CR_im (mi := mi) h (fun a i x y => (if_neg y).trans (up_of x)) (fun x i y => imW_o y) (by rw [imW_l]; omega) (by rw [imW_l]; omega) (by rw [imW_l, up_at]) (fun i i0 i1 => ?_)⟩
  · unfold fX8_putImageByte
    rw [kd1, gd_t rfl, a7, if_pos hl, ly1_11 h.lay, kd136, ga_t hm.1 (by omega), bd_1, up_of (by decide), a7, w32_s (by omega) (by omega), bd_1]
  · rw [imW_l] at i1
    rw [up_of (by decide)]
    unfold imW
    rw [show up_ (up_ mi 17 (mi 17 (-1)) (v % 256)) 17 (-1) (mi 17 (-1) + 1) 17 i = up_ mi 17 (mi 17 (-1)) (v % 256) 17 i from up_oi (by omega)]
    by_cases g : i = mi 17 (-1)
    · rw [g, up_at, up_at, w8_255 hv, an255 hv, an8 (by omega) (by omega)]
    · rw [up_oi g, up_oi g]; exact a8 i i0 (by omega)
theorem writes_n {M s d : AwM} {n : Int} {R : Int → AwM} {mi : AwM} {v : Int} (h : MR M s d n R mi) (hl : mi 17 (-1) < 135) (hv : I32 v) : ∃ M', fX9_writes SH M 167 v = some M' ∧ MR M' s d n R (imW mi v) ∧ lof M' M := by
  have hm := h.mk.2.2.2.1
  obtain ⟨a1, a2, a3, a4, a5, a6, a7, a8, a9, a10⟩ := h.mi
  refine ⟨up_ (up_ M 207 (mi 17 (-1)) (v % 256)) 167 70 (mi 17 (-1) + 1), ?_, MR_im (mi := mi) h (fun a i x y => (if_neg y).trans (up_of x)) (fun x i y => imW_o y) (by rw [imW_l]; omega) (by rw [imW_l]; omega) (by rw [imW_l, up_at]) (fun i i0 i1 => ?_)⟩
  · unfold fX9_writes
    rw [kd167, gd_t rfl, ly167_69 h.lay, kd207, a7, ga_t hm.1 (by omega), an255 hv, bd_1, up_of (by decide), a7, w32_s (by omega) (by omega), bd_1]
  · rw [imW_l] at i1
    rw [up_of (by decide)]
    unfold imW
    rw [show up_ (up_ mi 17 (mi 17 (-1)) (v % 256)) 17 (-1) (mi 17 (-1) + 1) 17 i = up_ mi 17 (mi 17 (-1)) (v % 256) 17 i from up_oi (by omega)]
    by_cases g : i = mi 17 (-1)
    · rw [g, up_at, up_at]
    · rw [up_oi g, up_oi g]; exact a8 i i0 (by omega)
/-- how a coin stands with a person -/
def std (d : AwM) (c p : Int) : Int := if hb (d 2 c) p = true then 2 + min 200 (d 0 0 - d 4 (10 * c + p)) else if hb (d 3 c) p = true then 1 else 0
theorem std_n {M : AwM} {cr so : Int} {s d : AwM} (h : CC M cr so s d) {c p : Int} (c0 : 0 ≤ c) (c1 : c < s 0 1) (p0 : 0 ≤ p) (p1 : p < s 0 0) : fX0_standing SH M cr c p = some (std d c p) := by
  have hc := h.ok.c
  have hp := h.ok.p
  have hd := h.ld.day
  unfold fX0_standing std
  rw [kcr0 h.hcr, gd_t rfl, knows_n h.cw c0 (by rw [h.n1]; exact c1), pb_1, u1_1, h.kn c0 c1, hz_p p0, bi_if, lcr0_0 h.lay h.hcr, kcr1 h.hcr, gd_t rfl]
  by_cases a : hb (d 2 c) p = true
  · have me := h.ld.me c p c0 c1 p0 p1 a
    rw [if_pos a, if_pos a, metOn_n h.lay h.hcr c0 (by omega) p0 (by omega), pb_1, u1_1, h.me c0 c1 p0 p1 a, h.day, w32_s (by omega) (by omega), min32_n, pb_1, u1_1, w32_s (by omega) (by omega)]
  · rw [if_neg a, if_neg a, gd_t rfl, lcr1_3 h.lay h.hcr, kcr4 h.hcr, ga_t c0 (by omega), h.sn c0 c1, isIn_n (h.ld.sn c c0 c1) (by omega), pb_1, u1_1, hz_p p0, bi_if]
    by_cases b : hb (d 3 c) p = true
    · rw [if_pos b, if_pos b]
    · rw [if_neg b, if_neg b]
theorem told_n {M : AwM} {b : Int} {s d : AwM} (h : MM M b 0 s d) {c p : Int} (c0 : 0 ≤ c) (c1 : c < s 0 1) (p0 : 0 ≤ p) (p1 : p < s 0 0) : fX9_toldOf SH M 167 c p = some (std d c p) := by
  have hc := h.ok.c
  have hp := h.ok.p
  have hd := h.ld.day
  have ek : M 199 c = d 2 c := by have := h.kn c0 c1; rwa [Int.mul_zero, Int.zero_add] at this
  have es : M 200 c = d 3 c := by have := h.sn c0 c1; rwa [Int.mul_zero, Int.zero_add] at this
  unfold fX9_toldOf std
  rw [kd167, gd_t rfl, ly167_51 h.lay, kd200, ga_t c0 (by omega), es, has2_n (h.ld.sn c c0 c1) (by omega) p0 (by omega), pb_1, u1_1, hz_p p0, bi_if, ly167_50 h.lay, kd199, ga_t c0 (by omega), ek, has2_n (h.ld.kn c c0 c1) (by omega) p0 (by omega), pb_1, u1_1, hz_p p0, bi_if, ly167_48 h.lay, kd197, gd_t (by decide), ly167_52 h.lay, kd201, w32_s (v := 10 * c) (by omega) (by omega), w32_s (v := 10 * c + p) (by omega) (by omega), ga_t (by omega) (by omega), h.day]
  by_cases a : hb (d 2 c) p = true
  · have me := h.ld.me c p c0 c1 p0 p1 a
    have em : M 201 (10 * c + p) = d 4 (10 * c + p) := by have := h.me c0 c1 p0 p1 a; rwa [Int.mul_zero, Int.zero_add] at this
    rw [if_neg (by rw [h.ld.ks c p c0 c1 a]; decide), if_pos a, if_pos a, em, w32_s (v := d 0 0 - d 4 (10 * c + p)) (by omega) (by omega), bd_1]
    by_cases z : 200 < d 0 0 - d 4 (10 * c + p)
    · rw [if_pos z, w32_s (by omega) (by omega), show min 200 (d 0 0 - d 4 (10 * c + p)) = 200 by omega]
    · rw [if_neg z, w32_s (by omega) (by omega), show min 200 (d 0 0 - d 4 (10 * c + p)) = d 0 0 - d 4 (10 * c + p) by omega]
  · rw [if_neg a, if_neg a]
    by_cases b : hb (d 3 c) p = true
    · rw [if_pos b, if_pos b]
    · rw [if_neg b, if_neg b]
theorem std_in {s d : AwM} (h : LdOK s d) {c p : Int} (c0 : 0 ≤ c) (c1 : c < s 0 1) (p0 : 0 ≤ p) (p1 : p < s 0 0) : I32 (std d c p) := by
  have hd := h.day
  have me := h.me c p c0 c1 p0 p1
  unfold I32 std
  by_cases a : hb (d 2 c) p = true
  · have := me a
    rw [if_pos a]; omega
  · rw [if_neg a]; split <;> omega
def imI (d : AwM) (c : Int) (m : AwM) : Nat → AwM
  | 0 => m
  | p + 1 => imW (imI d c m p) (std d c (p : Int))
def imO (s d m : AwM) : Nat → AwM
  | 0 => m
  | c + 1 => imI d (c : Int) (imW (imO s d m c) (d 1 (c : Int))) (s 0 0).toNat
theorem imI_l {d m : AwM} {c : Int} : ∀ p : Nat, imI d c m p 17 (-1) = m 17 (-1) + p
  | 0 => by show m 17 (-1) = m 17 (-1) + ((0 : Nat) : Int); omega
  | p + 1 => by
    have := imI_l (d := d) (m := m) (c := c) p
    unfold imI
    rw [imW_l, this]
    omega
theorem imO_l {s d m : AwM} (ho : SoOK s) : ∀ c : Nat, m 17 (-1) ≤ imO s d m c 17 (-1) ∧ imO s d m c 17 (-1) ≤ m 17 (-1) + 11 * c
  | 0 => by show m 17 (-1) ≤ m 17 (-1) ∧ m 17 (-1) ≤ m 17 (-1) + 11 * ((0 : Nat) : Int); omega
  | c + 1 => by
    have := imO_l (d := d) (m := m) ho c
    have := ho.p
    unfold imO
    rw [imI_l, imW_l]
    omega
def ckS (f : Int → Int) : Nat → Int
  | 0 => 103
  | k + 1 => (5 * ckS f k + f (k : Int)) % 251
theorem ckS_b (f : Int → Int) : ∀ k : Nat, 0 ≤ ckS f k ∧ ckS f k ≤ 250
  | 0 => by show (0 : Int) ≤ 103 ∧ (103 : Int) ≤ 250; omega
  | k + 1 => by unfold ckS; omega
theorem imgI_n {M s d : AwM} {n : Int} {R : Int → AwM} {mi : AwM} {c : Int} (h : CR M s d n R mi) (c0 : 0 ≤ c) (c1 : c < s 0 1) (hl : mi 17 (-1) ≤ 125) : ∃ M', lp (u2 (fX8_image_L63 SH 1 154 c)) FU (0, M) = some M' ∧ CR M' s d n R (imI d c mi (s 0 0).toNat) ∧ hif M' M := by
  have hp := h.cc.ok.p
  have l0 := h.mk.2.2.2.1
  refine lp_rel (body := u2 (fX8_image_L63 SH 1 154 c)) (P := fun j (t : Int × AwM) => t.1 = (j : Int) ∧ CR t.2 s d n R (imI d c mi j) ∧ hif t.2 M) (X := fun r : AwM => CR r s d n R (imI d c mi (s 0 0).toNat) ∧ hif r M) (n := (s 0 0).toNat) ?_ FU (0, M) (FU_gt (by omega)) ⟨rfl, h, fun _ _ _ => rfl⟩
  rintro j ⟨i, M3⟩ hj ⟨hi, h3, f3⟩
  change i = (j : Int) at hi
  change CR M3 s d n R _ at h3
  subst hi
  rw [u2_1]
  unfold fX8_image_L63
  rw [kd1, gd_t rfl, kso0 h3.cc.hso, gd_t rfl, lso0_0 h3.lay h3.cc.hso, kso1 h3.cc.hso, gd_t (by decide), h3.cc.n0]
  by_cases hjn : j < (s 0 0).toNat
  · have il := imI_l (d := d) (m := mi) (c := c) j
    obtain ⟨M4, e4, h4, f4⟩ := putIm_n (v := std d c (j : Int)) h3 (by omega) (std_in h.cc.ld c0 c1 (by omega) (by omega))
    refine Or.inl ⟨hjn, _, by rw [if_pos (by omega), ly1_4 h3.lay, kd153, gd_t rfl, std_n h3.cc c0 c1 (by omega) (by omega), pb_1, u1_1, e4, pb_1, u1_1, w32_s (v := (j : Int) + 1) (by omega) (by omega)], by simp, h4, hif_tr f3 f4⟩
  · have ej : (s 0 0).toNat = j := by omega
    exact Or.inr ⟨M3, by rw [if_neg (by omega)], by rw [ej]; exact h3, f3⟩
theorem imgO_n {M s d : AwM} {n : Int} {R : Int → AwM} {mi : AwM} (h : CR M s d n R mi) (hl : mi 17 (-1) = 2) : ∃ M', lp (u2 (fX8_image_L38 SH 1 154)) FU (0, M) = some M' ∧ CR M' s d n R (imO s d mi (s 0 1).toNat) ∧ hif M' M := by
  have hc := h.cc.ok.c
  have hp := h.cc.ok.p
  have ho := h.cc.ok
  refine lp_rel (body := u2 (fX8_image_L38 SH 1 154)) (P := fun j (t : Int × AwM) => t.1 = (j : Int) ∧ CR t.2 s d n R (imO s d mi j) ∧ hif t.2 M) (X := fun r : AwM => CR r s d n R (imO s d mi (s 0 1).toNat) ∧ hif r M) (n := (s 0 1).toNat) ?_ FU (0, M) (FU_gt (by omega)) ⟨rfl, h, fun _ _ _ => rfl⟩
  rintro j ⟨i, M3⟩ hj ⟨hi, h3, f3⟩
  change i = (j : Int) at hi
  change CR M3 s d n R _ at h3
  subst hi
  rw [u2_1]
  unfold fX8_image_L38
  rw [kd1, gd_t rfl, kso0 h3.cc.hso, gd_t rfl, lso0_0 h3.lay h3.cc.hso, kso1 h3.cc.hso, gd_t (by decide), h3.cc.n1]
  by_cases hjn : j < (s 0 1).toNat
  · have il := imO_l (d := d) (m := mi) ho j
    have hh := h.cc.ld.ho (j : Int) (by omega) (by omega)
    obtain ⟨M4, e4, h4, f4⟩ := putIm_n (v := d 1 (j : Int)) h3 (by omega) ⟨by omega, by omega⟩
    obtain ⟨M5, e5, h5, f5⟩ := imgI_n h4 (c := (j : Int)) (by omega) (by omega) (by rw [imW_l]; omega)
    refine Or.inl ⟨hjn, _, by rw [if_pos (by omega), kd154, gd_t rfl, ly154_1 h3.lay, kd155, ga_t (by omega) (by omega), show M3 155 (j : Int) = d 1 (j : Int) from h3.cc.ho (by omega) (by omega), e4, pb_1, u1_1, e5, pb_1, u1_1, w32_s (v := (j : Int) + 1) (by omega) (by omega)], by simp, h5, hif_tr (hif_tr f3 f4) f5⟩
  · have ej : (s 0 1).toNat = j := by omega
    exact Or.inr ⟨M3, by rw [if_neg (by omega)], by rw [ej]; exact h3, f3⟩
theorem mimgI_n {M s d : AwM} {n : Int} {R : Int → AwM} {mi : AwM} {c : Int} (h : MR M s d n R mi) (c0 : 0 ≤ c) (c1 : c < s 0 1) (hl : mi 17 (-1) ≤ 125) : ∃ M', lp (u2 (fX9_image_L55 SH 167 c)) FU (0, M) = some M' ∧ MR M' s d n R (imI d c mi (s 0 0).toNat) ∧ lof M' M := by
  have hp := h.mm.ok.p
  have l0 := h.mk.2.2.2.1
  refine lp_rel (body := u2 (fX9_image_L55 SH 167 c)) (P := fun j (t : Int × AwM) => t.1 = (j : Int) ∧ MR t.2 s d n R (imI d c mi j) ∧ lof t.2 M) (X := fun r : AwM => MR r s d n R (imI d c mi (s 0 0).toNat) ∧ lof r M) (n := (s 0 0).toNat) ?_ FU (0, M) (FU_gt (by omega)) ⟨rfl, h, fun _ _ _ => rfl⟩
  rintro j ⟨i, M3⟩ hj ⟨hi, h3, f3⟩
  change i = (j : Int) at hi
  change MR M3 s d n R _ at h3
  subst hi
  have hbb := h3.mm.b01
  rw [u2_1]
  unfold fX9_image_L55
  rw [kd167, gd_t rfl, ly167_14 h3.lay, kd169, ga_t (by omega) (by omega), h3.mm.n0]
  by_cases hjn : j < (s 0 0).toNat
  · have il := imI_l (d := d) (m := mi) (c := c) j
    obtain ⟨M4, e4, h4, f4⟩ := writes_n (v := std d c (j : Int)) h3 (by omega) (std_in h.mm.ld c0 c1 (by omega) (by omega))
    refine Or.inl ⟨hjn, _, by rw [if_pos (by omega), told_n h3.mm c0 c1 (by omega) (by omega), pb_1, u1_1, e4, pb_1, u1_1, w32_s (v := (j : Int) + 1) (by omega) (by omega)], by simp, h4, lof_tr f3 f4⟩
  · have ej : (s 0 0).toNat = j := by omega
    exact Or.inr ⟨M3, by rw [if_neg (by omega)], by rw [ej]; exact h3, f3⟩
theorem mimgO_n {M s d : AwM} {n : Int} {R : Int → AwM} {mi : AwM} (h : MR M s d n R mi) (hl : mi 17 (-1) = 2) : ∃ M', lp (u2 (fX9_image_L30 SH 167)) FU (0, M) = some M' ∧ MR M' s d n R (imO s d mi (s 0 1).toNat) ∧ lof M' M := by
  have hc := h.mm.ok.c
  have hp := h.mm.ok.p
  have ho := h.mm.ok
  refine lp_rel (body := u2 (fX9_image_L30 SH 167)) (P := fun j (t : Int × AwM) => t.1 = (j : Int) ∧ MR t.2 s d n R (imO s d mi j) ∧ lof t.2 M) (X := fun r : AwM => MR r s d n R (imO s d mi (s 0 1).toNat) ∧ lof r M) (n := (s 0 1).toNat) ?_ FU (0, M) (FU_gt (by omega)) ⟨rfl, h, fun _ _ _ => rfl⟩
  rintro j ⟨i, M3⟩ hj ⟨hi, h3, f3⟩
  change i = (j : Int) at hi
  change MR M3 s d n R _ at h3
  subst hi
  have hbb := h3.mm.b01
  rw [u2_1]
  unfold fX9_image_L30
  rw [kd167, gd_t rfl, ly167_16 h3.lay, kd171, ga_t (by omega) (by omega), h3.mm.n1]
  by_cases hjn : j < (s 0 1).toNat
  · have il := imO_l (d := d) (m := mi) ho j
    have hh := h.mm.ld.ho (j : Int) (by omega) (by omega)
    have eh : M3 198 (j : Int) = d 1 (j : Int) := by have := h3.mm.ho (c := (j : Int)) (by omega) (by omega); rwa [Int.mul_zero, Int.zero_add] at this
    obtain ⟨M4, e4, h4, f4⟩ := writes_n (v := d 1 (j : Int)) h3 (by omega) ⟨by omega, by omega⟩
    obtain ⟨M5, e5, h5, f5⟩ := mimgI_n h4 (c := (j : Int)) (by omega) (by omega) (by rw [imW_l]; omega)
    refine Or.inl ⟨hjn, _, by rw [if_pos (by omega), ly167_49 h3.lay, kd198, ga_t (by omega) (by omega), eh, e4, pb_1, u1_1, e5, pb_1, u1_1, w32_s (v := (j : Int) + 1) (by omega) (by omega)], by simp, h5, lof_tr (lof_tr f3 f4) f5⟩
  · have ej : (s 0 1).toNat = j := by omega
    exact Or.inr ⟨M3, by rw [if_neg (by omega)], by rw [ej]; exact h3, f3⟩
theorem ckC_n {M s d : AwM} {n : Int} {R : Int → AwM} {mi : AwM} (h : CR M s d n R mi) : lp (u2 (fX8_image_L106 SH M 1)) FU (103, 0) = some (ckS (mi 17) (mi 17 (-1)).toNat) := by
  have hm := h.mk.2.2.2.1
  obtain ⟨a1, a2, a3, a4, a5, a6, a7, a8, a9, a10⟩ := h.mi
  refine lp_cnt (body := u2 (fX8_image_L106 SH M 1)) (fun i => (ckS (mi 17) i, (i : Int))) _ (mi 17 (-1)).toNat ?_ ?_ FU (FU_gt (by omega))
  · intro i hi
    have b := ckS_b (mi 17) i
    have e := a8 i (by omega) (by omega)
    have bb := an255b (M 136 (i : Int))
    rw [u2_1]
    unfold fX8_image_L106
    rw [kd1, gd_t rfl, a7, if_pos (by omega), ly1_11 h.lay, kd136, ga_t (by omega) (by omega), w32_s (v := 5 * ckS (mi 17) i) (by omega) (by omega), w32_s (v := 5 * ckS (mi 17) i + an_ (M 136 (i : Int)) 255) (by omega) (by omega), Int.tmod_eq_emod_of_nonneg (by omega), bd_1, e, w32_s (v := (i : Int) + 1) (by omega) (by omega)]
    rfl
  · rw [u2_1]
    unfold fX8_image_L106
    rw [kd1, gd_t rfl, a7, if_neg (by omega)]
theorem ckM_n {M s d : AwM} {n : Int} {R : Int → AwM} {mi : AwM} (h : MR M s d n R mi) (hb' : ∀ i : Int, 0 ≤ i → i < mi 17 (-1) → 0 ≤ mi 17 i ∧ mi 17 i ≤ 255) : lp (u2 (fX9_image_L95 SH M 167)) FU (103, 0) = some (ckS (mi 17) (mi 17 (-1)).toNat) := by
  have hm := h.mk.2.2.2.1
  obtain ⟨a1, a2, a3, a4, a5, a6, a7, a8, a9, a10⟩ := h.mi
  refine lp_cnt (body := u2 (fX9_image_L95 SH M 167)) (fun i => (ckS (mi 17) i, (i : Int))) _ (mi 17 (-1)).toNat ?_ ?_ FU (FU_gt (by omega))
  · intro i hi
    have b := ckS_b (mi 17) i
    have e := a8 i (by omega) (by omega)
    have bb := hb' i (by omega) (by omega)
    rw [u2_1]
    unfold fX9_image_L95
    rw [kd167, gd_t rfl, a7, if_pos (by omega), ly167_69 h.lay, kd207, ga_t (by omega) (by omega), e, w32_s (v := 5 * ckS (mi 17) i) (by omega) (by omega), w32_s (v := 5 * ckS (mi 17) i + mi 17 (i : Int)) (by omega) (by omega), Int.tmod_eq_emod_of_nonneg (by omega), bd_1, w32_s (v := (i : Int) + 1) (by omega) (by omega)]
    rfl
  · rw [u2_1]
    unfold fX9_image_L95
    rw [kd167, gd_t rfl, a7, if_neg (by omega)]
def imOk (m : AwM) : Prop := 0 ≤ m 17 (-1) ∧ ∀ i : Int, 0 ≤ i → i < m 17 (-1) → 0 ≤ m 17 i ∧ m 17 i ≤ 255
theorem imOk_W {m : AwM} {v : Int} (h : imOk m) : imOk (imW m v) := by
  refine ⟨by rw [imW_l]; have := h.1; omega, fun i i0 i1 => ?_⟩
  rw [imW_l] at i1
  unfold imW
  rw [show up_ (up_ m 17 (m 17 (-1)) (v % 256)) 17 (-1) (m 17 (-1) + 1) 17 i = up_ m 17 (m 17 (-1)) (v % 256) 17 i from up_oi (by omega)]
  by_cases g : i = m 17 (-1)
  · rw [g, up_at]; omega
  · rw [up_oi g]; exact h.2 i i0 (by omega)
theorem imOk_I {d m : AwM} {c : Int} (h : imOk m) : ∀ p : Nat, imOk (imI d c m p)
  | 0 => h
  | p + 1 => imOk_W (imOk_I h p)
theorem imOk_O {s d m : AwM} (h : imOk m) : ∀ c : Nat, imOk (imO s d m c)
  | 0 => h
  | c + 1 => imOk_I (imOk_W (imOk_O h c)) _
def imA (s d mi : AwM) : AwM := imO s d (imW (imW (imC mi) (d 0 0 / 256)) (d 0 0)) (s 0 1).toNat
theorem sr8 {x : Int} (h0 : 0 ≤ x) (h1 : x ≤ 1000) : sr_ x 8 = x / 256 := by
  obtain ⟨a, rfl⟩ := Int.eq_ofNat_of_zero_le h0
  rw [show (8 : Int) = ((8 : Nat) : Int) from rfl, sr_n (by omega) (by omega)]
  omega
theorem imC_l {mi : AwM} : imC mi 17 (-1) = 0 := up_at
theorem imW_255 {m : AwM} {v : Int} (h : I32 v) : imW m (an_ v 255) = imW m v := by
  unfold imW
  rw [an255 h, show v % 256 % 256 = v % 256 by omega]
theorem image_b {s d : AwM} {n : Int} {R : Int → AwM} {mi : AwM} : BSt (fun M => fX8_image SH M 1) (fun M => fX9_image SH M 167) s d n R mi := by
  refine ⟨imA s d mi 17 (-1) + 1, s, d, n, R, imW (imA s d mi) (ckS (imA s d mi 17) (imA s d mi 17 (-1)).toNat), fun M h => ?_, fun M h => ?_⟩
  · have l := h.lay
    have hd := h.cc.ld.day
    have ho := h.cc.ok
    have hc := ho.c
    obtain ⟨h1, f1⟩ := CR_im (M' := up_ M 1 12 0) (mi' := imC mi) h (fun a i x y => if_neg y) (fun x i y => up_of y) (by rw [imC_l]; omega) (by rw [imC_l]; omega) (by rw [imC_l, up_at]) (fun i i0 i1 => by rw [imC_l] at i1; omega)
    obtain ⟨M2, e2, h2, f2⟩ := putIm_n (v := d 0 0 / 256) h1 (by rw [imC_l]; omega) ⟨by omega, by omega⟩
    obtain ⟨M3, e3, h3, f3⟩ := putIm_n (v := an_ (d 0 0) 255) h2 (by rw [imW_l, imC_l]; omega) (by have := an255b (d 0 0); exact ⟨by omega, by omega⟩)
    rw [imW_255 ⟨by omega, by omega⟩] at h3
    obtain ⟨M4, e4, h4, f4⟩ := imgO_n h3 (by rw [imW_l, imW_l, imC_l]; rfl)
    have il := imO_l (d := d) (m := imW (imW (imC mi) (d 0 0 / 256)) (d 0 0)) ho (s 0 1).toNat
    rw [imW_l, imW_l, imC_l] at il
    have ec := ckC_n h4
    have cb := ckS_b (imA s d mi 17) (imA s d mi 17 (-1)).toNat
    obtain ⟨M5, e5, h5, f5⟩ := putIm_n (v := ckS (imA s d mi 17) (imA s d mi 17 (-1)).toNat) h4 (by omega) ⟨by omega, by omega⟩
    refine ⟨M5, ?_, h5, hif_tr (hif_tr (hif_tr (hif_tr f1 f2) f3) f4) f5⟩
    show fX8_image SH M 1 = _
    unfold fX8_image
    rw [kd1, gd_t rfl, ly1_4 l, kd153, gd_t rfl, bd_1, ly153_0 l, kd154, gd_t rfl, show up_ M 1 12 0 154 0 = d 0 0 from (up_of (by decide)).trans h.cc.day, sr8 hd.1 hd.2, e2, pb_1, u1_1, show M2 154 0 = d 0 0 from h2.cc.day, e3, pb_1, u1_1, e4, pb_1, u1_1, ec, pb_1, u1_1]
    rw [show imO s d (imW (imW (imC mi) (d 0 0 / 256)) (d 0 0)) (s 0 1).toNat = imA s d mi from rfl, e5, pb_1, u1_1, h5.mi.2.2.2.2.2.2.1, imW_l]
    rfl
  · have l := h.lay
    have hd := h.mm.ld.day
    have ho := h.mm.ok
    have hc := ho.c
    obtain ⟨h1, f1⟩ := MR_im (M' := up_ M 167 70 0) (mi' := imC mi) h (fun a i x y => if_neg y) (fun x i y => up_of y) (by rw [imC_l]; omega) (by rw [imC_l]; omega) (by rw [imC_l, up_at]) (fun i i0 i1 => by rw [imC_l] at i1; omega)
    obtain ⟨M2, e2, h2, f2⟩ := writes_n (v := d 0 0 / 256) h1 (by rw [imC_l]; omega) ⟨by omega, by omega⟩
    obtain ⟨M3, e3, h3, f3⟩ := writes_n (v := d 0 0) h2 (by rw [imW_l, imC_l]; omega) ⟨by omega, by omega⟩
    obtain ⟨M4, e4, h4, f4⟩ := mimgO_n h3 (by rw [imW_l, imW_l, imC_l]; rfl)
    have il := imO_l (d := d) (m := imW (imW (imC mi) (d 0 0 / 256)) (d 0 0)) ho (s 0 1).toNat
    rw [imW_l, imW_l, imC_l] at il
    have iok : imOk (imA s d mi) := imOk_O (imOk_W (imOk_W ⟨by rw [imC_l]; omega, fun i i0 i1 => by rw [imC_l] at i1; omega⟩)) _
    have ec := ckM_n h4 iok.2
    have cb := ckS_b (imA s d mi 17) (imA s d mi 17 (-1)).toNat
    obtain ⟨M5, e5, h5, f5⟩ := writes_n (v := ckS (imA s d mi 17) (imA s d mi 17 (-1)).toNat) h4 (by omega) ⟨by omega, by omega⟩
    refine ⟨M5, ?_, h5, lof_tr (lof_tr (lof_tr (lof_tr f1 f2) f3) f4) f5⟩
    show fX9_image SH M 167 = _
    unfold fX9_image
    rw [kd167, gd_t rfl, bd_1, ly167_48 h1.lay, kd197, gd_t (by decide), h1.mm.day, sr8 hd.1 hd.2, e2, pb_1, u1_1, ly167_48 h2.lay, kd197, gd_t (by decide), h2.mm.day, e3, pb_1, u1_1, e4, pb_1, u1_1, ec, pb_1, u1_1]
    rw [show imO s d (imW (imW (imC mi) (d 0 0 / 256)) (d 0 0)) (s 0 1).toNat = imA s d mi from rfl, e5, pb_1, u1_1, h5.mi.2.2.2.2.2.2.1, imW_l]
    rfl
end PIMG
