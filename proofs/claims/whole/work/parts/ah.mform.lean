/-! the model tells what a society presents, or its price -/
section PMFM
variable {T : Int → Int} {L K : Nat} {b : Int} {D M : AwM} {i : Nat}
theorem mpush_46 {cf : Nat} {M M' : AwM} {fs : List Fr} {o : Nat} {C : List Int} {kd : Int} (h : MB T L b cf M fs o C) (hn : fs.length < 8) (hp : fX9_pushes SH M 167 kd = some M') : M' 167 46 = M 167 46 := by
  obtain ⟨⟨a1, a2, a3, a4⟩, ⟨b1, b2, b3, b4⟩, ⟨c1, c2⟩, d, e⟩ := id h
  have e : fX9_pushes SH M 167 kd = some (up_ (up_ (up_ (up_ (up_ M 190 (fs.length : Int) kd) 191 (fs.length : Int) 0) 192 (fs.length : Int) 1) 194 (fs.length : Int) (tot fs : Int)) 167 42 ((fs.length : Int) + 1)) := by
    unfold fX9_pushes
    rw [kd167, gd_t rfl, ly167_37 a1, kd190, b1, ga_t (by omega) (by omega), bd_1, up_of (show (167 : Int) ≠ 190 by decide), up_of (show (167 : Int) ≠ 190 by decide), ly167_38 a1, kd191, b1, ga_t (by omega) (by omega), bd_1]
    rw [up_of (show (167 : Int) ≠ 191 by decide), up_of (show (167 : Int) ≠ 190 by decide), up_of (show (167 : Int) ≠ 191 by decide), up_of (show (167 : Int) ≠ 190 by decide), ly167_39 a1, kd192, b1, gd_t (by refine ⟨rfl, by omega, ?_⟩; show _ < (20 : Int); omega), bd_1]
    rw [up_of (show (167 : Int) ≠ 192 by decide), up_of (show (167 : Int) ≠ 191 by decide), up_of (show (167 : Int) ≠ 190 by decide), up_of (show (167 : Int) ≠ 192 by decide), up_of (show (167 : Int) ≠ 191 by decide), up_of (show (167 : Int) ≠ 190 by decide), up_of (show (167 : Int) ≠ 192 by decide), up_of (show (167 : Int) ≠ 191 by decide), up_of (show (167 : Int) ≠ 190 by decide), ly167_41 a1, kd194, b1, b3, ga_t (by omega) (by omega), bd_1]
    rw [up_of (show (167 : Int) ≠ 194 by decide), up_of (show (167 : Int) ≠ 192 by decide), up_of (show (167 : Int) ≠ 191 by decide), up_of (show (167 : Int) ≠ 190 by decide), b1, w32_s (v := (fs.length : Int) + 1) (by omega) (by omega), bd_1]
  rw [← Option.some.inj (e.symm.trans hp), up_oi (by decide), up_of (by decide), up_of (by decide), up_of (by decide), up_of (by decide)]
/-- all that a formula's telling writes -/
def qfr (b : Int) (cf : Nat) (fr : Int) (M2 M1 : AwM) : Prop := ∀ a x : Int, ¬ (a = 167 ∧ (3 ≤ x ∧ x ≤ 9 ∨ x = 12 ∨ x = 35 ∨ x = 42 ∨ x = 43 ∨ x = 45 ∨ x = 46)) → ¬ (190 ≤ a ∧ a ≤ 195) → ¬ ((a = 185 ∨ a = 186) ∧ 1600 * b + (cf : Int) ≤ x ∧ x < 1600 * b + 1600) → ¬ (a = fr ∧ x = b) → M2 a x = M1 a x
theorem mdf_q {cf : Nat} {fr : Int} {M2 M1 : AwM} (hf : 179 ≤ fr ∧ fr ≤ 184) (h : qfr b cf fr M2 M1) : mdf b M2 M1 := fun a i p q r => h a i p q (fun z => r (by unfold inb; omega)) (fun z => r (by unfold inb; omega))
theorem MD_Q {M1 M2 : AwM} {k fr bh : Int} {cf j : Nat} {c : List Int} {fs : List Fr} (h : MD T L K M1 b D i) (hk : (k = 6 ∧ fr = 181 ∧ bh = 182) ∨ (k = 7 ∧ fr = 183 ∧ bh = 184)) (h35 : M1 167 35 = (cf : Int)) (hcf : cf + 1 ≤ i) (f : qfr b cf fr M2 M1) (hfr : M2 fr b = (cf : Int)) (mb : MB T L b cf M2 fs 0 c) (t : MTK M2 (tks T L j)) (hj : j ≤ K) (hl : i + c.length ≤ j) (h0 : 0 < c.length) : MD T L K (up_ M2 bh b (M2 167 35)) b (dQ D k c) j ∧ mdf b (up_ M2 bh b (M2 167 35)) M1 := by
  have f2 : mdf b (up_ M2 bh b (M2 167 35)) M1 := mdf_tr (mdf_q (by omega) f) (mdf_up (Or.inl (Or.inl ⟨by omega, rfl⟩)))
  refine ⟨?_, f2⟩
  obtain ⟨⟨a1, a2, a3, a4, a5, a6, a7, a8⟩, ⟨⟨s1, s2, s3, s4, s5⟩, r1, r2, r3, r4, r5, r6, r7⟩, cc, ⟨cf', d1, d2, d3, d4⟩⟩ := h
  have ecf : cf' = cf := by omega
  subst ecf
  obtain ⟨⟨m1, m2, m3, m4⟩, ⟨m5, m6, m7, m8⟩, ⟨m9, m10⟩, ⟨m11, m12⟩, m13⟩ := mb
  have nb : ∀ a x : Int, a ≠ bh → up_ M2 bh b (M2 167 35) a x = M2 a x := fun a x z => up_of z
  have ne : ∀ a x : Int, 169 ≤ a → a ≤ 189 → a ≠ 185 → a ≠ 186 → a ≠ fr → a ≠ bh → up_ M2 bh b (M2 167 35) a x = M1 a x := fun a x p q r s u v => by
    rw [up_of v, f a x (by omega) (by omega) (by omega) (by omega)]
  have mt : MTK (up_ M2 bh b (M2 167 35)) (tks T L j) := by
    unfold MTK
    rw [nb 167 4 (by omega), nb 167 5 (by omega), nb 167 12 (by omega), nb 167 3 (by omega), nb 167 6 (by omega), nb 167 7 (by omega)]
    exact t
  have q0 : ∀ a : Int, a ≠ 6 → a ≠ 7 → dQ D k c a = D a := fun a x y => dQ_n (by omega)
  have mfk : MF (up_ M2 bh b (M2 167 35)) b fr bh (lf c) := by
    unfold MF
    rw [lf_1]
    refine ⟨fun z => by omega, fun _ => ?_⟩
    rw [nb fr b (by omega), hfr, up_at, m8]
    refine ⟨by omega, rfl, by omega, fun n x y => ?_⟩
    obtain ⟨n, rfl⟩ := Int.eq_ofNat_of_zero_le x
    have g := List.getElem?_eq_getElem (l := c) (i := n) (by omega)
    rw [lf_n g, up_of (show (185 : Int) ≠ bh by omega), up_of (show (186 : Int) ≠ bh by omega)]
    exact m10 n _ g
  have mfo : ∀ fr' bh' : Int, (fr' = 181 ∧ bh' = 182 ∨ fr' = 183 ∧ bh' = 184) → fr' ≠ fr → ∀ g : Int → Int, MF M1 b fr' bh' g → (0 < g (-1) → M1 bh' b ≤ (cf' : Int)) → MF (up_ M2 bh b (M2 167 35)) b fr' bh' g := fun fr' bh' h1 h2 g hg hc => by
    unfold MF
    rw [ne fr' b (by omega) (by omega) (by omega) (by omega) (by omega) (by omega), ne bh' b (by omega) (by omega) (by omega) (by omega) (by omega) (by omega)]
    refine ⟨hg.1, fun z => ?_⟩
    obtain ⟨x1, x2, x3, x4⟩ := hg.2 z
    have hc' := hc z
    refine ⟨x1, x2, x3, fun n y1 y2 => ?_⟩
    rw [nb 185 _ (by omega), nb 186 _ (by omega), f 185 _ (by omega) (by omega) (by omega) (by omega), f 186 _ (by omega) (by omega) (by omega) (by omega)]
    exact x4 n y1 y2
  refine ⟨⟨LAY_md a1 f2, ⟨⟨(nb _ _ (by omega)).trans m4.1.1, (nb _ _ (by omega)).trans m4.1.2⟩, m4.2.1, fun n x y => ⟨(m4.2.2 n x y).1, (nb _ _ (by omega)).trans (m4.2.2 n x y).2⟩⟩, (nb _ _ (by omega)).trans m2, (nb _ _ (by omega)).trans m3, mt, a6, hj, a8⟩, ⟨⟨?_, ?_, ?_, ?_, ?_⟩, fun p x y => ?_, fun p x y => ?_, fun p x y => ?_, fun p x y => ?_, ?_, ?_, fun k' w x y z u => ?_⟩, fun c' x y => ?_, ⟨cf' + c.length, ?_, by omega, fun z => ?_, fun z => ?_⟩⟩
  · rw [ne _ _ (by omega) (by omega) (by omega) (by omega) (by omega) (by omega), q0 0 (by decide) (by decide)]; exact s1
  · rw [ne _ _ (by omega) (by omega) (by omega) (by omega) (by omega) (by omega), q0 0 (by decide) (by decide)]; exact s2
  · rw [ne _ _ (by omega) (by omega) (by omega) (by omega) (by omega) (by omega), q0 0 (by decide) (by decide)]; exact s3
  · rw [ne _ _ (by omega) (by omega) (by omega) (by omega) (by omega) (by omega), q0 0 (by decide) (by decide)]; exact s4
  · rw [ne _ _ (by omega) (by omega) (by omega) (by omega) (by omega) (by omega), q0 0 (by decide) (by decide)]; exact s5
  · rw [q0 0 (by decide) (by decide)] at y; rw [ne _ _ (by omega) (by omega) (by omega) (by omega) (by omega) (by omega), q0 1 (by decide) (by decide)]; exact r1 p x y
  · rw [q0 0 (by decide) (by decide)] at y; rw [ne _ _ (by omega) (by omega) (by omega) (by omega) (by omega) (by omega), q0 2 (by decide) (by decide)]; exact r2 p x y
  · rw [q0 0 (by decide) (by decide)] at y; rw [ne _ _ (by omega) (by omega) (by omega) (by omega) (by omega) (by omega), q0 3 (by decide) (by decide)]; exact r3 p x y
  · rw [q0 0 (by decide) (by decide)] at y; rw [ne _ _ (by omega) (by omega) (by omega) (by omega) (by omega) (by omega), q0 4 (by decide) (by decide)]; exact r4 p x y
  · rcases hk with ⟨rfl, rfl, rfl⟩ | ⟨rfl, rfl, rfl⟩
    · rw [dQ_k]; exact mfk
    · rw [dQ_n (by decide)]; exact mfo 181 182 (by decide) (by decide) _ r5 d3
  · rcases hk with ⟨rfl, rfl, rfl⟩ | ⟨rfl, rfl, rfl⟩
    · rw [dQ_n (by decide)]; exact mfo 183 184 (by decide) (by decide) _ r6 d4
    · rw [dQ_k]; exact mfk
  · rw [q0 0 (by decide) (by decide)] at u
    rw [mnm_u (M := M1) (fun a j x y => ne a j (by omega) (by omega) (by omega) (by omega) (by omega) (by omega)), q0 5 (by decide) (by decide)]; exact r7 k' w x y z u
  · rw [q0 0 (by decide) (by decide)] at y
    rw [ne _ _ (by omega) (by omega) (by omega) (by omega) (by omega) (by omega), ne _ _ (by omega) (by omega) (by omega) (by omega) (by omega) (by omega), ne _ _ (by omega) (by omega) (by omega) (by omega) (by omega) (by omega), q0 8 (by decide) (by decide), q0 9 (by decide) (by decide), q0 10 (by decide) (by decide)]
    exact cc c' x y
  · rw [nb _ _ (by omega), m8]; omega
  · rcases hk with ⟨rfl, rfl, rfl⟩ | ⟨rfl, rfl, rfl⟩
    · rw [up_at, m8]; omega
    · rw [dQ_n (by decide)] at z
      have := d3 z
      rw [ne _ _ (by omega) (by omega) (by omega) (by omega) (by omega) (by omega)]; omega
  · rcases hk with ⟨rfl, rfl, rfl⟩ | ⟨rfl, rfl, rfl⟩
    · rw [dQ_n (by decide)] at z
      have := d4 z
      rw [ne _ _ (by omega) (by omega) (by omega) (by omega) (by omega) (by omega)]; omega
    · rw [up_at, m8]; omega
end PMFM
