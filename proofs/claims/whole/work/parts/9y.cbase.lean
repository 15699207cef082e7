/-! the class's reading of a formula: what it keeps -/
section PCBA
variable (T : Int → Int) (L K : Nat)
/-- the class at token i, o open, the cells C told -/
def CFo (M : AwM) (fo : Int) (i o : Nat) (C : List Int) : Prop :=
  (LAY M ∧ SCN (tks T L) K M i ∧ M 3 3 = (o : Int) ∧ M 3 2 = fo ∧ M 3 4 = 0 ∧ M 3 5 = -1) ∧ (fo = 20 ∨ fo = 23 ∨ fo = 147 ∨ fo = 150) ∧
  (M fo 1 = (C.length : Int) ∧ ∀ (k : Nat) (c : Int), C[k]? = some c → M (fo + 1) (k : Int) = cce c) ∧ (ENDS (tks T L) K ∧ C.length ≤ i ∧ o ≤ 7)
/-- what it writes -/
def ffr (fo : Int) (M' M : AwM) : Prop := ∀ a i : Int, ¬ (a = 4 ∧ 6 ≤ i ∧ i ≤ 11) → ¬ (a = 3 ∧ 3 ≤ i ∧ i ≤ 5) → ¬ (a = fo ∧ i = 1) → a ≠ fo + 1 → M' a i = M a i
variable {T : Int → Int} {L K : Nat}
theorem ffr_rf {fo : Int} {M : AwM} : ffr fo M M := fun _ _ _ _ _ _ => rfl
theorem ffr_tr {fo : Int} {M M1 M2 : AwM} (h : ffr fo M1 M) (h' : ffr fo M2 M1) : ffr fo M2 M := fun a i p q r s => (h' a i p q r s).trans (h a i p q r s)
theorem ffr_nx {fo : Int} {M M1 : AwM} (h : nxf M1 M) : ffr fo M1 M := fun a i p _ _ _ => h a i p
theorem lay_ff : layT.all (fun q => decide (¬ (q.1 = 3 ∧ 3 ≤ q.2.1) ∧ ¬ ((q.1 = 20 ∨ q.1 = 23 ∨ q.1 = 147 ∨ q.1 = 150) ∧ q.2.1 = 1) ∧ ¬ (q.1 = 21 ∨ q.1 = 24 ∨ q.1 = 148 ∨ q.1 = 151))) = true := by decide +kernel
theorem LAY_ff {fo : Int} {M M' : AwM} (hfo : fo = 20 ∨ fo = 23 ∨ fo = 147 ∨ fo = 150) (h : LAY M) (f : ffr fo M' M) : LAY M' := LAY_fq h (fun q hq => by
  have t := of_decide_eq_true (List.all_eq_true.mp lay_w4 q hq)
  have u := of_decide_eq_true (List.all_eq_true.mp lay_ff q hq)
  exact f _ _ (by omega) (by omega) (by omega) (by omega))
theorem kqo0 {fo : Int} (h : fo = 20 ∨ fo = 23 ∨ fo = 147 ∨ fo = 150) : kd_ SH fo = (0, 1) := by rcases h with rfl | rfl | rfl | rfl <;> rfl
theorem kqo1 {fo : Int} (h : fo = 20 ∨ fo = 23 ∨ fo = 147 ∨ fo = 150) : kd_ SH (fo + 1) = (1, 1600) := by rcases h with rfl | rfl | rfl | rfl <;> rfl
theorem lqo0 {fo : Int} {M : AwM} (hl : LAY M) (h : fo = 20 ∨ fo = 23 ∨ fo = 147 ∨ fo = 150) : M fo 0 = fo + 1 := by
  rcases h with rfl | rfl | rfl | rfl
  · exact ly20_0 hl
  · exact ly23_0 hl
  · exact ly147_0 hl
  · exact ly150_0 hl
section
variable {M : AwM} {fo : Int} {i o : Nat} {C : List Int}
theorem CFo.lay (h : CFo T L K M fo i o C) : LAY M := h.1.1
theorem CFo.sc (h : CFo T L K M fo i o C) : SCN (tks T L) K M i := h.1.2.1
theorem SCN.k8 {t : Nat → Tk} {K i : Nat} {M : AwM} (h : SCN t K M i) : M 4 8 = ckd (t i).1 := h.2.2.2.1.1
theorem SCN.k9 {t : Nat → Tk} {K i : Nat} {M : AwM} (h : SCN t K M i) (a : (t i).1 ≠ 5) (b : (t i).1 ≠ 6) : M 4 9 = (t i).2.1 := h.2.2.2.1.2.2.2 a b
theorem cS_n (h : SCN (tks T L) K M i) {c : Int} : fX4_isSign SH M 4 c = some (bi (sg (tks T L i) c)) := by
  have k8 := h.k8
  have k9 := h.k9
  unfold fX4_isSign sg
  rw [kd4, gd_t rfl, k8]
  unfold ckd
  by_cases q : (tks T L i).1 = 1
  · rw [q, if_neg (show ¬ (1 : Int) = 6 by decide), if_pos rfl, k9 (by omega) (by omega)]
    by_cases e : (tks T L i).2.1 = c
    · rw [if_pos e, decide_eq_true ⟨rfl, e⟩]; rfl
    · rw [if_neg e, decide_eq_false (fun z => e z.2)]; rfl
  · rw [decide_eq_false (fun z => q z.1)]
    by_cases q6 : (tks T L i).1 = 6
    · rw [if_pos q6, if_neg (by decide)]; rfl
    · rw [if_neg q6, if_neg q]; rfl
theorem cW_n (h : SCN (tks T L) K M i) {c : Int} : fX4_isOwnWord SH M 4 c = some (bi (ow (tks T L i) c)) := by
  have k8 := h.k8
  have k9 := h.k9
  unfold fX4_isOwnWord ow
  rw [kd4, gd_t rfl, k8]
  unfold ckd
  by_cases q : (tks T L i).1 = 4
  · rw [q, if_neg (show ¬ (4 : Int) = 6 by decide), if_pos rfl, k9 (by omega) (by omega)]
    by_cases e : (tks T L i).2.1 = c
    · rw [if_pos e, decide_eq_true ⟨rfl, e⟩]; rfl
    · rw [if_neg e, decide_eq_false (fun z => e z.2)]; rfl
  · rw [decide_eq_false (fun z => q z.1)]
    by_cases q6 : (tks T L i).1 = 6
    · rw [if_pos q6, if_neg (by decide)]; rfl
    · rw [if_neg q6, if_neg q]; rfl
theorem cfail_1 (h : SCN (tks T L) K M i) (hl : LAY M) : fX6_fail SH M 3 1 = some (0, up_ (up_ M 3 4 1) 3 5 ((tks T L i).2.2.2.1 : Int)) := by
  unfold fX6_fail
  rw [kd3, gd_t rfl, bd_1, if_pos rfl, up_oi (show (0 : Int) ≠ 4 by decide), ly3_0 hl, kd4, gd_t rfl, up_of (show (4 : Int) ≠ 3 by decide), h.2.2.2.1.2.2.1, bd_1]
theorem cfail_k (h : SCN (tks T L) K M i) (hl : LAY M) {k : Int} (hk : k ≠ 1) : fX6_fail SH M 3 k = some (0, up_ (up_ M 3 4 k) 3 5 ((tks T L i).2.2.1 : Int)) := by
  unfold fX6_fail
  rw [kd3, gd_t rfl, bd_1, if_neg hk, up_oi (show (0 : Int) ≠ 4 by decide), ly3_0 hl, kd4, gd_t rfl, up_of (show (4 : Int) ≠ 3 by decide), h.2.2.2.1.2.1, bd_1]
/-- it stopped with a fault -/
def CBAD (fo : Int) (M' M : AwM) (k : Int) (p : Nat) : Prop := M' 3 4 = k ∧ M' 3 5 = (p : Int) ∧ ffr fo M' M
theorem cbad_u {fo : Int} {k : Int} {p : Nat} : CBAD fo (up_ (up_ M 3 4 k) 3 5 (p : Int)) M k p := by
  refine ⟨by rw [up_oi (by decide), up_at], up_at, fun a i _ q _ _ => ?_⟩
  rw [up_nn (fun z => q ⟨z.1, by omega⟩), up_nn (fun z => q ⟨z.1, by omega⟩)]
theorem CFo.lt (h : CFo T L K M fo i o C) (hk : 1 ≤ (tks T L i).1 ∧ (tks T L i).1 ≤ 4) : i < K := by
  have a := h.sc.1.1
  have b := h.2.2.2.1
  refine Classical.byContradiction fun z => ?_
  have e : i = K := by omega
  subst e
  have := b.1.1
  unfold isE at this
  omega
theorem CFo_fr {M' : AwM} {i' o' : Nat} (h : CFo T L K M fo i o C) (hs : SCN (tks T L) K M' i') (hl : LAY M') (h3 : M' 3 3 = (o' : Int)) (h2 : ∀ {x : Int}, x = 2 ∨ x = 4 ∨ x = 5 → M' 3 x = M 3 x) (hf : M' fo 1 = M fo 1) (hc : ∀ k : Int, M' (fo + 1) k = M (fo + 1) k) (hi : i ≤ i') (ho : o' ≤ 7) : CFo T L K M' fo i' o' C := by
  obtain ⟨⟨a1, a2, a3, a4⟩, b1, ⟨c1, c2⟩, d1, d2, d3⟩ := h
  exact ⟨⟨hl, hs, h3, (h2 (x := 2) (by decide)).trans a4.1, (h2 (x := 4) (by decide)).trans a4.2.1, (h2 (x := 5) (by decide)).trans a4.2.2⟩, b1, ⟨hf.trans c1, fun k c e => (hc _).trans (c2 k c e)⟩, d1, by omega, ho⟩
theorem cnext_n (h : CFo T L K M fo i o C) (hk : 1 ≤ (tks T L i).1 ∧ (tks T L i).1 ≤ 4) : ∃ M', fX4_next SH M 4 = some M' ∧ CFo T L K M' fo (i + 1) o C ∧ nxf M' M := by
  obtain ⟨M', e, s, f⟩ := next_n h.lay h.sc (h.lt hk)
  have hfo := h.2.1
  exact ⟨M', e, CFo_fr h s (LAY_nx h.lay f) ((f _ _ (by omega)).trans h.1.2.2.1) (fun _ => f _ _ (by omega)) (f _ _ (by omega)) (fun k => f _ _ (by omega)) (by omega) h.2.2.2.2.2, f⟩
theorem SCN_fr {t : Nat → Tk} {K i : Nat} {M M' : AwM} (h : SCN t K M i) (hf : ∀ a j : Int, 4 ≤ a → a ≤ 9 → M' a j = M a j) : SCN t K M' i := by
  obtain ⟨a, b, c, ⟨d1, d2, d3, d4⟩, e⟩ := h
  exact ⟨a, (hf _ _ (by omega) (by omega)).trans b, (hf _ _ (by omega) (by omega)).trans c, ⟨(hf _ _ (by omega) (by omega)).trans d1, (hf _ _ (by omega) (by omega)).trans d2, (hf _ _ (by omega) (by omega)).trans d3, fun x y => (hf _ _ (by omega) (by omega)).trans (d4 x y)⟩, fun k hk => by
    rw [hf 6 _ (by omega) (by omega), hf 8 _ (by omega) (by omega), hf 9 _ (by omega) (by omega), hf 7 _ (by omega) (by omega)]
    exact e k hk⟩
theorem copen_n (h : CFo T L K M fo i o C) {o' : Nat} (ho : o' ≤ 7) : CFo T L K (up_ M 3 3 (o' : Int)) fo i o' C ∧ ffr fo (up_ M 3 3 (o' : Int)) M := by
  have hfo := h.2.1
  have f : ffr fo (up_ M 3 3 (o' : Int)) M := fun a i _ q _ _ => up_nn (fun z => q ⟨z.1, by omega⟩)
  exact ⟨CFo_fr h (SCN_fr h.sc (fun a j _ _ => up_of (by omega))) (LAY_ff hfo h.lay f) up_at (fun q => up_oi (by omega)) (up_of (by omega)) (fun k => up_of (by omega)) (Nat.le_refl _) ho, f⟩
theorem cadd_n (h : CFo T L K M fo i o C) {c v : Int} (hv : cce c = v) (hC : C.length + 1 ≤ i) : ∃ M', fX1_add SH M fo v = some M' ∧ CFo T L K M' fo i o (C ++ [c]) ∧ ffr fo M' M := by
  have hfo := h.2.1
  have hK := h.sc.1
  obtain ⟨⟨a1, a2, a3, a4⟩, b1, ⟨c1, c2⟩, d1, d2, d3⟩ := id h
  have f : ffr fo (up_ (up_ M (fo + 1) (C.length : Int) v) fo 1 ((C.length : Int) + 1)) M := fun a i _ _ r s => by
    rw [up_nn (fun z => r z), up_of s]
  have lc : (C ++ [c]).length = C.length + 1 := by rw [List.length_append]; rfl
  refine ⟨_, ?_, ⟨⟨LAY_ff hfo a1 f, SCN_fr a2 (fun a j _ _ => by rw [up_of (by omega), up_of (by omega)]), ?_, ?_⟩, b1, ⟨?_, fun k c' hk => ?_⟩, d1, by rw [lc]; omega, d3⟩, f⟩
  · unfold fX1_add
    rw [kqo0 hfo, gd_t rfl, c1, if_pos (by omega), lqo0 a1 hfo, kqo1 hfo, ga_t (by omega) (by omega), bd_1, up_of (by omega), c1, w32_s (v := (C.length : Int) + 1) (by omega) (by omega), bd_1]
  · rw [up_of (by omega), up_of (by omega)]; exact a3
  · exact ⟨by rw [up_of (by omega), up_of (by omega)]; exact a4.1, by rw [up_of (by omega), up_of (by omega)]; exact a4.2.1, by rw [up_of (by omega), up_of (by omega)]; exact a4.2.2⟩
  · rw [up_at, lc]; omega
  · rw [up_of (by omega)]
    by_cases ek : k = C.length
    · subst ek
      rw [List.getElem?_append_right (Nat.le_refl _)] at hk
      simp at hk
      rw [up_at, ← hk, hv]
    · have lt := (List.getElem?_eq_some_iff.mp hk).1
      rw [lc] at lt
      rw [List.getElem?_append_left (by omega)] at hk
      rw [up_oi (by omega)]
      exact c2 k c' hk
/-- a sign that must stand -/
theorem csign_n (h : CFo T L K M fo i o C) {c : Int} : (sg (tks T L i) c = true → ∃ M', fX6_sign SH M 3 c = some (1, M') ∧ CFo T L K M' fo (i + 1) o C ∧ ffr fo M' M) ∧ (sg (tks T L i) c = false → ∃ M', fX6_sign SH M 3 c = some (0, M') ∧ CBAD fo M' M 1 (tks T L i).2.2.2.1) := by
  have pre : ∀ X : Option (Int × AwM), (if sg (tks T L i) c = true then pb (fX4_next SH M 4) (u1 fun (M7 : AwM) => (some ((1 : Int), M7))) else pb (fX6_fail SH M 3 1) (u2 fun (x9 : Int) (M10 : AwM) => (gd_ (x9 = 0 ∨ x9 = 1) (some (x9, M10))))) = X → fX6_sign SH M 3 c = X := fun X hX => by
    unfold fX6_sign
    rw [kd3, gd_t rfl, ly3_0 h.lay, kd4, gd_t rfl, cS_n h.sc, pb_1, u1_1, bi_if]
    exact hX
  refine ⟨fun z => ?_, fun z => ?_⟩
  · have := sg_t.mp z
    obtain ⟨M', e, s, f⟩ := cnext_n h (by omega)
    exact ⟨M', pre _ (by rw [if_pos z, e, pb_1, u1_1]), s, ffr_nx f⟩
  · refine ⟨_, pre _ (by rw [z, if_neg (by decide), cfail_1 h.sc h.lay, pb_1, u2_1, gd_t (Or.inl rfl)]), cbad_u⟩
/-- a bracket is entered -/
theorem center_n (h : CFo T L K M fo i o C) (hk : 1 ≤ (tks T L i).1 ∧ (tks T L i).1 ≤ 4) : (o < 7 → ∃ M', fX6_enter SH M 3 = some (1, M') ∧ CFo T L K M' fo (i + 1) (o + 1) C ∧ ffr fo M' M) ∧ (o = 7 → ∃ M', fX6_enter SH M 3 = some (0, M') ∧ CBAD fo M' M 5 (tks T L i).2.2.1) := by
  have h3 : M 3 3 = (o : Int) := h.1.2.2.1
  unfold fX6_enter
  rw [kd3, gd_t rfl, h3]
  refine ⟨fun z => ?_, fun z => ?_⟩
  · obtain ⟨g1, g2⟩ := copen_n (o' := o + 1) h (by omega)
    obtain ⟨M', e, s, f⟩ := cnext_n g1 hk
    refine ⟨M', ?_, s, ffr_tr g2 (ffr_nx f)⟩
    rw [if_pos (by omega), w32_s (v := (o : Int) + 1) (by omega) (by omega), bd_1, show (o : Int) + 1 = ((o + 1 : Nat) : Int) by omega, ly3_0 g1.lay, kd4, gd_t rfl, e, pb_1, u1_1]
  · refine ⟨_, ?_, cbad_u⟩
    rw [if_neg (by omega), cfail_k h.sc h.lay (by decide), pb_1, u2_1, gd_t (Or.inl rfl)]
end
/-- the kinds that wait -/
def ftyL : List Int → List Bool → Option (List Bool)
  | [], t => some t
  | c :: r, t => match ftS c t with
    | none => none
    | some t' => ftyL r t'
theorem ftyL_app : ∀ (a : List Int) {c : List Int} {t t' : List Bool}, ftyL a t = some t' → ftyL (a ++ c) t = ftyL c t'
  | [], _, _, _, h => by rw [Option.some.inj h]; rfl
  | x :: a, c, t, t', h => by
    unfold ftyL at h
    show (match ftS x t with
      | none => none
      | some t' => ftyL (a ++ c) t') = _
    cases e : ftS x t with
    | none => rw [e] at h; exact absurd h (by simp)
    | some t1 => rw [e] at h; exact ftyL_app a h
/-- the cells c put one kind b on top, with room n -/
def Ty (c : List Int) (b : Bool) (n : Nat) : Prop := ∀ t : List Bool, t.length + n ≤ 64 → ftyL c t = some (b :: t)
theorem Ty_le {c : List Int} {b : Bool} {n m : Nat} (h : Ty c b n) (hm : n ≤ m) : Ty c b m := fun t ht => h t (by omega)
/-- a deed on two -/
theorem Ty_2 {a c : List Int} {x : Int} {p q : Bool} {n m : Nat} (ha : Ty a p n) (hc : Ty c p m) (hx : ∀ t, ftS x (p :: p :: t) = some (q :: t)) (hn : n ≤ m + 1) : Ty (a ++ c ++ [x]) q (m + 1) := fun t ht => by
  have e1 := ha t (by omega)
  have e2 := hc (p :: t) (by rw [List.length_cons]; omega)
  rw [List.append_assoc, ftyL_app a e1, ftyL_app c e2]
  show (match ftS x (p :: p :: t) with
    | none => none
    | some t' => ftyL [] t') = _
  rw [hx]
  rfl
theorem ft_ar {x : Int} (h : x = -15 ∨ x = -16 ∨ x = -17 ∨ x = -18 ∨ x = -19 ∨ x = -10 ∨ x = -11) (t : List Bool) : ftS x (false :: false :: t) = some (false :: t) := by
  unfold ftS
  rw [if_neg (by omega), if_neg (by omega), if_neg (by omega), if_neg (by omega), if_neg (by omega), if_pos (by omega)]
theorem ft_cm {x : Int} (h : x = -12 ∨ x = -13 ∨ x = -14) (t : List Bool) : ftS x (false :: false :: t) = some (true :: t) := by
  unfold ftS
  rw [if_neg (by omega), if_neg (by omega), if_neg (by omega), if_neg (by omega), if_pos (by omega)]
theorem ft_ao {x : Int} (h : x = -7 ∨ x = -8) (t : List Bool) : ftS x (true :: true :: t) = some (true :: t) := by
  unfold ftS
  rw [if_neg (by omega), if_neg (by omega), if_neg (by omega), if_pos (by omega)]
theorem Ty_not {a : List Int} {n : Nat} (ha : Ty a true n) : Ty (a ++ [-9]) true n := fun t ht => by
  rw [ftyL_app a (ha t ht)]
  rfl
theorem Ty_f {c : Int} (h : (0 ≤ c ∧ c ≤ 9999) ∨ (-6 ≤ c ∧ c < 0)) : Ty [c] false 1 := fun t ht => by
  show (match ftS c t with
    | none => none
    | some t' => ftyL [] t') = _
  unfold ftS
  rw [if_pos h, if_pos (by omega)]
  rfl
theorem Ty_all : Ty [10000] true 1 := fun t ht => by
  show (match ftS 10000 t with
    | none => none
    | some t' => ftyL [] t') = _
  unfold ftS
  rw [if_neg (by omega), if_pos rfl, if_pos (by omega)]
  rfl
end PCBA
