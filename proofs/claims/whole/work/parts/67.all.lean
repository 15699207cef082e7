/-! the whole of what both objects say -/
section PWHOLE
/-- misc: 14 the tape (length at -1), 15 fault and place, 16 letters (how many at -1), 17 the image (length at -1), 18 the seed, 19 refusals -/
def MiOK (mi : AwM) : Prop :=
  (0 ≤ mi 14 (-1) ∧ mi 14 (-1) ≤ 1600) ∧ (∀ i : Int, 0 ≤ i → i < mi 14 (-1) → 0 ≤ mi 14 i ∧ mi 14 i ≤ 255) ∧
  (0 ≤ mi 16 (-1) ∧ mi 16 (-1) ≤ 20) ∧ (0 ≤ mi 17 (-1) ∧ mi 17 (-1) ≤ 135) ∧ (0 ≤ mi 18 0 ∧ mi 18 0 ≤ 2147483647)
/-- the class's misc -/
def CMi (M mi : AwM) : Prop :=
  M 1 1 = mi 14 (-1) ∧ (∀ i : Int, 0 ≤ i → i < mi 14 (-1) → M 2 i = w8_ (mi 14 i)) ∧
  M 3 4 = mi 15 0 ∧ M 3 5 = mi 15 1 ∧ M 1 10 = mi 16 (-1) ∧ (∀ i : Int, 0 ≤ i → i < mi 16 (-1) → M 135 i = mi 16 i) ∧
  M 1 12 = mi 17 (-1) ∧ (∀ i : Int, 0 ≤ i → i < mi 17 (-1) → an_ (M 136 i) 255 = mi 17 i) ∧
  M 1 13 = mi 18 0 ∧ (∀ i : Int, 0 ≤ i → i < 6 → M 134 i = mi 19 i)
/-- the model's misc -/
def MMi (M mi : AwM) : Prop :=
  M 167 1 = mi 14 (-1) ∧ (∀ i : Int, 0 ≤ i → i < mi 14 (-1) → M 168 i = mi 14 i) ∧
  M 167 10 = mi 15 0 ∧ M 167 11 = mi 15 1 ∧ M 167 67 = mi 16 (-1) ∧ (∀ i : Int, 0 ≤ i → i < mi 16 (-1) → M 206 i = mi 16 i) ∧
  M 167 70 = mi 17 (-1) ∧ (∀ i : Int, 0 ≤ i → i < mi 17 (-1) → M 207 i = mi 17 i) ∧
  M 167 55 = mi 18 0 ∧ (∀ i : Int, 0 ≤ i → i < 6 → M 196 i = mi 19 i)
def ownT : List (Int × Int × Int) := numT.filter (fun q => decide (q.1 = 5))
/-- the class's ring of undone acts -/
def CHi (M : AwM) (s : AwM) (n : Int) (R : Int → AwM) : Prop :=
  (0 ≤ M 26 1 ∧ M 26 1 < 20) ∧ M 26 2 = n ∧ (0 ≤ n ∧ n ≤ 20) ∧ ∀ j : Int, 0 ≤ j → j < n → LdOK s (R j) ∧ CL M (28 + 5 * ((M 26 1 + 19 - j) % 20)) s (R j)
/-- the model's -/
def MHi (M : AwM) (s : AwM) (n : Int) (R : Int → AwM) : Prop :=
  (0 ≤ M 167 53 ∧ M 167 53 < 20) ∧ M 167 54 = n ∧ (0 ≤ n ∧ n ≤ 20) ∧ ∀ j : Int, 0 ≤ j → j < n → LdOK s (R j) ∧ ML M (2 + (M 167 53 + (n - 1 - j)) % 20) s (R j)
def CR (M : AwM) (s d : AwM) (n : Int) (R : Int → AwM) (mi : AwM) : Prop :=
  CC M 153 (M 1 3) s d ∧ M 160 1 = M 1 3 ∧ M 3 1 = 147 - M 1 3 ∧ holdsT ownT M ∧ CHi M s n R ∧ MiOK mi ∧ CMi M mi
def MR (M : AwM) (s d : AwM) (n : Int) (R : Int → AwM) (mi : AwM) : Prop :=
  MM M (M 167 13) 0 s d ∧ MHi M s n R ∧ MiOK mi ∧ MMi M mi
def hif (M' M : AwM) : Prop := ∀ a i : Int, 167 ≤ a → M' a i = M a i
def lof (M' M : AwM) : Prop := ∀ a i : Int, a < 167 → M' a i = M a i
theorem hif_tr {M M1 M2 : AwM} (h : hif M1 M) (h' : hif M2 M1) : hif M2 M := fun a i x => (h' a i x).trans (h a i x)
theorem lof_tr {M M1 M2 : AwM} (h : lof M1 M) (h' : lof M2 M1) : lof M2 M := fun a i x => (h' a i x).trans (h a i x)
theorem CR.cc {M s d : AwM} {n : Int} {R : Int → AwM} {mi : AwM} (h : CR M s d n R mi) : CC M 153 (M 1 3) s d := h.1
theorem CR.tr {M s d : AwM} {n : Int} {R : Int → AwM} {mi : AwM} (h : CR M s d n R mi) : M 160 1 = M 1 3 := h.2.1
theorem CR.dr {M s d : AwM} {n : Int} {R : Int → AwM} {mi : AwM} (h : CR M s d n R mi) : M 3 1 = 147 - M 1 3 := h.2.2.1
theorem CR.ow {M s d : AwM} {n : Int} {R : Int → AwM} {mi : AwM} (h : CR M s d n R mi) : holdsT ownT M := h.2.2.2.1
theorem CR.hi {M s d : AwM} {n : Int} {R : Int → AwM} {mi : AwM} (h : CR M s d n R mi) : CHi M s n R := h.2.2.2.2.1
theorem CR.mk {M s d : AwM} {n : Int} {R : Int → AwM} {mi : AwM} (h : CR M s d n R mi) : MiOK mi := h.2.2.2.2.2.1
theorem CR.mi {M s d : AwM} {n : Int} {R : Int → AwM} {mi : AwM} (h : CR M s d n R mi) : CMi M mi := h.2.2.2.2.2.2
theorem CR.lay {M s d : AwM} {n : Int} {R : Int → AwM} {mi : AwM} (h : CR M s d n R mi) : LAY M := h.cc.lay
theorem MR.mm {M s d : AwM} {n : Int} {R : Int → AwM} {mi : AwM} (h : MR M s d n R mi) : MM M (M 167 13) 0 s d := h.1
theorem MR.hi {M s d : AwM} {n : Int} {R : Int → AwM} {mi : AwM} (h : MR M s d n R mi) : MHi M s n R := h.2.1
theorem MR.mk {M s d : AwM} {n : Int} {R : Int → AwM} {mi : AwM} (h : MR M s d n R mi) : MiOK mi := h.2.2.1
theorem MR.mi {M s d : AwM} {n : Int} {R : Int → AwM} {mi : AwM} (h : MR M s d n R mi) : MMi M mi := h.2.2.2
theorem MR.lay {M s d : AwM} {n : Int} {R : Int → AwM} {mi : AwM} (h : MR M s d n R mi) : LAY M := h.mm.lay
theorem CHi_fr {M M' s : AwM} {n : Int} {R : Int → AwM} (h : CHi M s n R) (h1 : ∀ i : Int, 1 ≤ i → M' 26 i = M 26 i) (h2 : ∀ a i : Int, 28 ≤ a → a ≤ 127 → M' a i = M a i) : CHi M' s n R := by
  obtain ⟨a, b, c, e⟩ := h
  unfold CHi
  rw [h1 1 (by decide), h1 2 (by decide)]
  exact ⟨a, b, c, fun j x y => ⟨(e j x y).1, CL_fr (e j x y).2 (h2 _ _ (by omega) (by omega)) (fun a i _ _ => h2 a i (by omega) (by omega))⟩⟩
theorem MHi_fr {M M' s : AwM} {n : Int} {R : Int → AwM} (h : MHi M s n R) (ho : SoOK s) (h1 : M' 167 53 = M 167 53) (h0 : M' 167 54 = M 167 54) (h7 : ∀ i : Int, 2 ≤ i → M' 197 i = M 197 i) (h8 : ∀ a i : Int, 198 ≤ a → a ≤ 200 → 24 ≤ i → M' a i = M a i) (h9 : ∀ i : Int, 240 ≤ i → M' 201 i = M 201 i) : MHi M' s n R := by
  obtain ⟨a, b, c, e⟩ := h
  unfold MHi
  rw [h1, h0]
  exact ⟨a, b, c, fun j x y => ⟨(e j x y).1, ML_fr (e j x y).2 ho (h7 _ (by omega)) (fun a i _ _ _ _ => h8 a i (by omega) (by omega) (by omega)) (fun i _ _ => h9 i (by omega))⟩⟩
theorem CMi_fr {M M' mi : AwM} (h : CMi M mi) (h1 : ∀ i : Int, M' 1 i = M 1 i) (h2 : ∀ i : Int, M' 2 i = M 2 i) (h3 : ∀ i : Int, M' 3 i = M 3 i) (h4 : ∀ a i : Int, 134 ≤ a → a ≤ 136 → M' a i = M a i) : CMi M' mi := by
  obtain ⟨a1, a2, a3, a4, a5, a6, a7, a8, a9, a10⟩ := h
  refine ⟨(h1 _).trans a1, fun i x y => (h2 _).trans (a2 i x y), (h3 _).trans a3, (h3 _).trans a4, (h1 _).trans a5, fun i x y => (h4 _ _ (by omega) (by omega)).trans (a6 i x y), (h1 _).trans a7, fun i x y => ?_, (h1 _).trans a9, fun i x y => (h4 _ _ (by omega) (by omega)).trans (a10 i x y)⟩
  rw [h4 _ _ (by omega) (by omega)]
  exact a8 i x y
theorem MMi_fr {M M' mi : AwM} (h : MMi M mi) (h1 : ∀ i : Int, i = 1 ∨ i = 10 ∨ i = 11 ∨ i = 67 ∨ i = 70 ∨ i = 55 → M' 167 i = M 167 i) (h2 : ∀ i : Int, M' 168 i = M 168 i) (h3 : ∀ i : Int, M' 206 i = M 206 i) (h4 : ∀ i : Int, M' 207 i = M 207 i) (h5 : ∀ i : Int, M' 196 i = M 196 i) : MMi M' mi := by
  obtain ⟨a1, a2, a3, a4, a5, a6, a7, a8, a9, a10⟩ := h
  exact ⟨(h1 _ (by omega)).trans a1, fun i x y => (h2 _).trans (a2 i x y), (h1 _ (by omega)).trans a3, (h1 _ (by omega)).trans a4, (h1 _ (by omega)).trans a5, fun i x y => (h3 _).trans (a6 i x y), (h1 _ (by omega)).trans a7, fun i x y => (h4 _).trans (a8 i x y), (h1 _ (by omega)).trans a9, fun i x y => (h5 _).trans (a10 i x y)⟩
theorem own_5 : ownT.all (fun q => decide (q.1 = 5)) = true := by decide +kernel
theorem own_fr {M M' : AwM} (h : holdsT ownT M) (h5 : ∀ i : Int, M' 5 i = M 5 i) : holdsT ownT M' := by
  intro q hq
  have e := of_decide_eq_true (List.all_eq_true.mp own_5 q hq)
  rw [e, h5, ← e]
  exact h q hq
/-- a step of the ledger that is now -/
theorem CR_of {M M' s d d' : AwM} {n : Int} {R : Int → AwM} {mi : AwM} (h : CR M s d n R mi) (hf : cfr 153 (M 1 3) M' M) (hc : CC M' 153 (M 1 3) s d') : CR M' s d' n R mi := by
  have hso := h.cc.hso
  have e3 : M' 1 3 = M 1 3 := hf _ _ (by omega) (by omega) (by omega) (by omega)
  refine ⟨?_, ?_, ?_, own_fr h.ow (fun i => hf _ _ (by omega) (by omega) (by omega) (by omega)), CHi_fr h.hi (fun i _ => hf _ _ (by omega) (by omega) (by omega) (by omega)) (fun a i _ _ => hf _ _ (by omega) (by omega) (by omega) (by omega)), h.mk, CMi_fr h.mi (fun i => hf _ _ (by omega) (by omega) (by omega) (by omega)) (fun i => hf _ _ (by omega) (by omega) (by omega) (by omega)) (fun i => hf _ _ (by omega) (by omega) (by omega) (by omega)) (fun a i _ _ => hf _ _ (by omega) (by omega) (by omega) (by omega))⟩
  · rw [e3]; exact hc
  · rw [e3, hf _ _ (by omega) (by omega) (by omega) (by omega)]; exact h.tr
  · rw [e3, hf _ _ (by omega) (by omega) (by omega) (by omega)]; exact h.dr
theorem cfr_hi {M M' : AwM} {cr so : Int} (hcr : cr = 153 ∨ cr = 160) (hso : so = 10 ∨ so = 137) (h : cfr cr so M' M) : hif M' M := fun a i x => h a i (by omega) (by omega) (by omega) (by omega)
theorem MR_of {M M' s d d' : AwM} {n : Int} {R : Int → AwM} {mi : AwM} (h : MR M s d n R mi) (hf : mfr 0 M' M) (hc : MM M' (M 167 13) 0 s d') : MR M' s d' n R mi := by
  have e3 : M' 167 13 = M 167 13 := hf _ _ (by omega) (by omega) (by omega) (by omega) (by omega)
  refine ⟨?_, MHi_fr h.hi h.mm.ok (hf _ _ (by omega) (by omega) (by omega) (by omega) (by omega)) (hf _ _ (by omega) (by omega) (by omega) (by omega) (by omega)) (fun i _ => hf _ _ (by omega) (by omega) (by omega) (by omega) (by omega)) (fun a i _ _ _ => hf _ _ (by omega) (by omega) (by omega) (by omega) (by omega)) (fun i _ => hf _ _ (by omega) (by omega) (by omega) (by omega) (by omega)), h.mk, MMi_fr h.mi (fun i _ => hf _ _ (by omega) (by omega) (by omega) (by omega) (by omega)) (fun i => hf _ _ (by omega) (by omega) (by omega) (by omega) (by omega)) (fun i => hf _ _ (by omega) (by omega) (by omega) (by omega) (by omega)) (fun i => hf _ _ (by omega) (by omega) (by omega) (by omega) (by omega)) (fun i => hf _ _ (by omega) (by omega) (by omega) (by omega) (by omega))⟩
  rw [e3]; exact hc
theorem mfr_lo {M M' : AwM} {L : Int} (h : mfr L M' M) : lof M' M := fun a i x => h a i (by omega) (by omega) (by omega) (by omega) (by omega)
/-- both -/
theorem CR_lo {M M' s d : AwM} {n : Int} {R : Int → AwM} {mi : AwM} (h : CR M s d n R mi) (hf : lof M' M) (hl : LAY M') : CR M' s d n R mi := by
  have hso := h.cc.hso
  have e3 : M' 1 3 = M 1 3 := hf _ _ (by omega)
  refine ⟨?_, ?_, ?_, own_fr h.ow (fun i => hf _ _ (by omega)), CHi_fr h.hi (fun i _ => hf _ _ (by omega)) (fun a i _ _ => hf _ _ (by omega)), h.mk, CMi_fr h.mi (fun i => hf _ _ (by omega)) (fun i => hf _ _ (by omega)) (fun i => hf _ _ (by omega)) (fun a i _ _ => hf _ _ (by omega))⟩
  · rw [e3]; exact CC_fr h.cc hl (hf _ _ (by omega)) (fun a i _ _ _ => hf a i (by omega)) (fun a i _ _ => hf a i (by omega))
  · rw [e3, hf _ _ (by omega)]; exact h.tr
  · rw [e3, hf _ _ (by omega)]; exact h.dr
theorem MR_hi {M M' s d : AwM} {n : Int} {R : Int → AwM} {mi : AwM} (h : MR M s d n R mi) (hf : hif M' M) (hl : LAY M') : MR M' s d n R mi := by
  have e3 : M' 167 13 = M 167 13 := hf _ _ (by omega)
  refine ⟨?_, MHi_fr h.hi h.mm.ok (hf _ _ (by omega)) (hf _ _ (by omega)) (fun i _ => hf _ _ (by omega)) (fun a i _ _ _ => hf _ _ (by omega)) (fun i _ => hf _ _ (by omega)), h.mk, MMi_fr h.mi (fun i _ => hf _ _ (by omega)) (fun i => hf _ _ (by omega)) (fun i => hf _ _ (by omega)) (fun i => hf _ _ (by omega)) (fun i => hf _ _ (by omega))⟩
  rw [e3]; exact MM_fr h.mm hl (hf _ _ (by omega)) (fun a i _ _ => hf a i (by omega)) (fun a i _ _ => hf a i (by omega))
/-- each object's step, answered alike: the form of every method -/
def CSt (f : AwM → Option (Int × AwM)) (s d : AwM) (n : Int) (R : Int → AwM) (mi : AwM) (r : Int) (s' d' : AwM) (n' : Int) (R' : Int → AwM) (mi' : AwM) : Prop :=
  ∀ M, CR M s d n R mi → ∃ M', f M = some (r, M') ∧ CR M' s' d' n' R' mi' ∧ hif M' M
def MSt (f : AwM → Option (Int × AwM)) (s d : AwM) (n : Int) (R : Int → AwM) (mi : AwM) (r : Int) (s' d' : AwM) (n' : Int) (R' : Int → AwM) (mi' : AwM) : Prop :=
  ∀ M, MR M s d n R mi → ∃ M', f M = some (r, M') ∧ MR M' s' d' n' R' mi' ∧ lof M' M
theorem both_n {f g : AwM → Option (Int × AwM)} {s d : AwM} {n : Int} {R : Int → AwM} {mi : AwM} {r : Int} {s' d' : AwM} {n' : Int} {R' : Int → AwM} {mi' : AwM} (hf : CSt f s d n R mi r s' d' n' R' mi') (hg : MSt g s d n R mi r s' d' n' R' mi') {M : AwM} (hc : CR M s d n R mi) (hm : MR M s d n R mi) : ∃ M1 M2, f M = some (r, M1) ∧ g M1 = some (r, M2) ∧ CR M2 s' d' n' R' mi' ∧ MR M2 s' d' n' R' mi' := by
  obtain ⟨M1, e1, c1, h1⟩ := hf M hc
  obtain ⟨M2, e2, m2, l2⟩ := hg M1 (MR_hi hm h1 c1.lay)
  exact ⟨M1, M2, e1, e2, CR_lo c1 l2 m2.lay, m2⟩
end PWHOLE
