/-! the class tells what it presents, or its price -/
section PCFM
def lf (C : List Int) : Int → Int := fun j => if j < 0 then (C.length : Int) else (C[j.toNat]?).getD 0
def dQ (D : AwM) (k : Int) (C : List Int) : AwM := fun a => if a = k then lf C else D a
theorem dQ_k {D : AwM} {k : Int} {C : List Int} : dQ D k C k = lf C := if_pos rfl
theorem dQ_n {D : AwM} {k a : Int} {C : List Int} (h : a ≠ k) : dQ D k C a = D a := if_neg h
theorem lf_1 {C : List Int} : lf C (-1) = (C.length : Int) := if_pos (by decide)
theorem lf_n {C : List Int} {n : Nat} {c : Int} (h : C[n]? = some c) : lf C (n : Int) = c := by
  unfold lf
  rw [if_neg (by omega), Int.toNat_natCast, h]; rfl
theorem ftyL_1 : ∀ (a : List Int) (x : Int) (t : List Bool), ftyL (a ++ [x]) t = match ftyL a t with | none => none | some t' => ftS x t'
  | [], x, t => by
    show (match ftS x t with | none => none | some t' => ftyL [] t') = ftS x t
    cases ftS x t <;> rfl
  | y :: a, x, t => by
    show (match ftS y t with | none => none | some t' => ftyL (a ++ [x]) t') = match (match ftS y t with | none => none | some t' => ftyL a t') with | none => none | some t' => ftS x t'
    cases ftS y t with
    | none => rfl
    | some t1 => exact ftyL_1 a x t1
theorem fty_L {C : List Int} : ∀ n : Nat, n ≤ C.length → fty (lf C) n = ftyL (C.take n) []
  | 0, _ => rfl
  | n + 1, h => by
    have e : C.take (n + 1) = C.take n ++ [C[n]'(by omega)] := by rw [List.take_succ, List.getElem?_eq_getElem (by omega)]; rfl
    rw [e, ftyL_1, ← fty_L n (by omega)]
    show (match fty (lf C) n with | none => none | some t => ftS (lf C (n : Int)) t) = _
    rw [lf_n (List.getElem?_eq_getElem (by omega))]
theorem FoOK_Ty {C : List Int} {bl : Bool} {n : Nat} (h : Ty C bl n) (hn : n ≤ 64) (hC : C.length ≤ 1600) : FoOK (lf C) bl := by
  refine ⟨by rw [lf_1]; omega, by rw [lf_1]; omega, fun _ => ?_⟩
  rw [lf_1, Int.toNat_natCast, fty_L _ (Nat.le_refl _), List.take_length]
  exact h [] (by show 0 + n ≤ 64; omega)
section
variable (T : Int → Int) (L K : Nat)
def FQ (k : Int) (i : Nat) (r : (Int × Nat) ⊕ (List Int × Nat)) : Prop := match r with
  | .inl q => 0 < q.1 ∧ (k = 6 → KTbad T L K 1 0 (i + 1) 0 q.1 q.2) ∧ (k = 7 → KSbad T L K 5 3 (i + 1) 0 q.1 q.2)
  | .inr q => (k = 6 → KTok T L K 1 1 0 (i + 1) 0 q.2 q.1 ∧ Ty q.1 true 27 ∧ tT (tks T L q.2)) ∧ (k = 7 → KSok T L K 5 3 (i + 1) 0 q.2 q.1 ∧ Ty q.1 false 24 ∧ tS (tks T L q.2)) ∧ i + 1 + q.1.length ≤ q.2 ∧ i + 1 < q.2 ∧ q.2 ≤ K
def dR (D : AwM) (k : Int) (r : (Int × Nat) ⊕ (List Int × Nat)) : (Int × Nat) ⊕ (AwM × Nat) := match r with
  | .inl q => .inl q
  | .inr q => .inr (dQ D k q.1, q.2)
end
variable {T : Int → Int} {L K : Nat} {M : AwM} {so : Int} {D : AwM} {i : Nat}
theorem CD_Q {M0 M' : AwM} {k d : Int} {j : Nat} {c : List Int} (h : CD T L K M0 so D (nD D) i) (hk : (k = 6 ∧ d = 10) ∨ (k = 7 ∧ d = 13)) (hf : ffr (so + d) M' (up_ M0 3 2 (so + d))) (hs : CFo T L K M' (so + d) j 0 c) : CD T L K M' so (dQ D k c) (nD (dQ D k c)) j := by
  have hso := h.hso
  obtain ⟨⟨a1, a2, a3, a4, a5, a6⟩, ⟨b1, b2, b3, b4, b5⟩, c1, c2, c3, c4, ⟨d1, d2⟩, ⟨e1', e2'⟩⟩ := id h
  have ne : ∀ a j : Int, 10 ≤ a → ¬ (a = so + d ∧ j = 1) → a ≠ so + d + 1 → M' a j = M0 a j := fun a j x y z => by
    rw [hf a j (by omega) (by omega) y z, up_of (by omega)]
  have q0 : ∀ a : Int, a ≠ 6 → a ≠ 7 → dQ D k c a = D a := fun a x y => dQ_n (by omega)
  have en : nD (dQ D k c) = nD D := by unfold nD; rw [q0 0 (by decide) (by decide)]
  rw [en]
  have cf0 : CF M' (so + d) (lf c) := by
    obtain ⟨_, _, ⟨p1, p2⟩, _⟩ := hs
    refine ⟨by rw [p1, lf_1], fun j x y => ?_⟩
    rw [lf_1] at y
    obtain ⟨n, rfl⟩ := Int.eq_ofNat_of_zero_le x
    have g := List.getElem?_eq_getElem (l := c) (i := n) (by omega)
    rw [lf_n g]
    exact p2 n _ g
  refine ⟨⟨hs.1.1, hs.1.2.1, ?_, a4, ⟨hs.1.2.2.1, hs.1.2.2.2.2⟩, a6⟩, ⟨?_, ?_, ?_, ?_, ?_⟩, fun p x y => ?_, fun c' x y => ?_, fun g x y => ?_, fun k' w x y z u => ?_, ?_, ?_⟩
  · rw [hf 3 1 (by omega) (by omega) (by omega) (by omega), up_oi (by decide)]; exact a3
  · rw [ne _ _ (by omega) (by omega) (by omega)]; exact b1
  · rw [ne _ _ (by omega) (by omega) (by omega)]; exact b2
  · rw [ne _ _ (by omega) (by omega) (by omega)]; exact b3
  · rw [ne _ _ (by omega) (by omega) (by omega), q0 0 (by decide) (by decide)]; exact b4
  · rw [ne _ _ (by omega) (by omega) (by omega), q0 0 (by decide) (by decide)]; exact b5
  · rw [q0 0 (by decide) (by decide)] at y; rw [ne _ _ (by omega) (by omega) (by omega), q0 1 (by decide) (by decide)]; exact c1 p x y
  · rw [q0 0 (by decide) (by decide)] at y; rw [ne _ _ (by omega) (by omega) (by omega), ne _ _ (by omega) (by omega) (by omega), ne _ _ (by omega) (by omega) (by omega), ne _ _ (by omega) (by omega) (by omega), q0 2 (by decide) (by decide), q0 8 (by decide) (by decide), q0 9 (by decide) (by decide), q0 10 (by decide) (by decide)]; exact c2 c' x y
  · rw [q0 0 (by decide) (by decide)] at y; rw [ne _ _ (by omega) (by omega) (by omega), ne _ _ (by omega) (by omega) (by omega), q0 3 (by decide) (by decide), q0 4 (by decide) (by decide)]; exact c3 g x y
  · rw [q0 0 (by decide) (by decide)] at u; rw [ne _ _ (by omega) (by omega) (by omega), q0 5 (by decide) (by decide)]; exact c4 k' w x y z u
  · rcases hk with ⟨rfl, rfl⟩ | ⟨rfl, rfl⟩
    · rw [dQ_k]; exact cf0
    · rw [dQ_n (by decide)]
      exact ⟨by rw [ne _ _ (by omega) (by omega) (by omega)]; exact d1, fun q x y => by rw [ne _ _ (by omega) (by omega) (by omega)]; exact d2 q x y⟩
  · rcases hk with ⟨rfl, rfl⟩ | ⟨rfl, rfl⟩
    · rw [dQ_n (by decide)]
      exact ⟨by rw [ne _ _ (by omega) (by omega) (by omega)]; exact e1', fun q x y => by rw [ne _ _ (by omega) (by omega) (by omega)]; exact e2' q x y⟩
    · rw [dQ_k]; exact cf0
theorem cdf_fq {M0 M' : AwM} {d v : Int} (hso : so = 10 ∨ so = 137) (hd : d = 10 ∨ d = 13) (hf : ffr (so + d) M' (up_ M0 3 2 v)) : cdf so M' M0 := fun a j x y z => by
  rw [hf a j x (by omega) (by omega) (by omega), up_nn (by omega)]
theorem CFo_0 {M0 : AwM} {k d : Int} (h : CD T L K M0 so D (nD D) i) (hk : (k = 6 ∧ d = 10) ∨ (k = 7 ∧ d = 13)) (h0 : D k (-1) = 0) : CFo T L K (up_ M0 3 2 (so + d)) (so + d) i 0 [] := by
  have hso := h.hso
  obtain ⟨⟨a1, a2, a3, a4, a5, a6⟩, _, c1, c2, c3, c4, ⟨d1, d2⟩, ⟨e1', e2'⟩⟩ := id h
  refine ⟨⟨LAY_s hso (Or.inr (Or.inr ⟨rfl, by decide⟩)) a1, SCN_fr a2 (fun a j x y => up_of (by omega)), by rw [up_oi (by decide)]; exact a5.1, up_at, by rw [up_oi (by decide)]; exact a5.2.1, by rw [up_oi (by decide)]; exact a5.2.2⟩, by omega, ⟨?_, fun k c e => absurd e (by simp)⟩, a6, Nat.zero_le _, by decide⟩
  rcases hk with ⟨rfl, rfl⟩ | ⟨rfl, rfl⟩
  · rw [up_of (by omega), d1, h0]; rfl
  · rw [up_of (by omega), e1', h0]; rfl
theorem cform_d {k : Int} (h : CD T L K M so D (nD D) i) (hi : 1 ≤ (tks T L i).1 ∧ (tks T L i).1 ≤ 4) (hk : k = 6 ∨ k = 7) : (0 < D k (-1) → COut T L K (if k = 6 then fX6_tellPresents SH M 3 else fX6_tellPrice SH M 3) M so (.inl (6, (tks T L i).2.2.1))) ∧ (D k (-1) = 0 → ∃ r, FQ T L K k i r ∧ COut T L K (if k = 6 then fX6_tellPresents SH M 3 else fX6_tellPrice SH M 3) M so (dR D k r)) := by
  have hso := h.hso
  obtain ⟨_, _, c1, c2, c3, c4, ⟨d1, d2⟩, ⟨e1', e2'⟩⟩ := id h
  obtain ⟨M1, e1, h1, f1⟩ := cdnx_n h hi
  rcases hk with rfl | rfl
  · rw [if_pos rfl]
    have it : fX1_isTold SH M (so + 10) = _ := isTold_n (M := M) (fo := so + 10) (by omega)
    unfold fX6_tellPresents
    rw [kd3, gd_t rfl, h.so', kso0 hso, gd_t rfl, lso0_9 h.lay hso, kso10 hso, gd_t rfl, it, pb_1, u1_1, bi_if, d1]
    refine ⟨fun z => ?_, fun z => ?_⟩
    · rw [if_pos (decide_eq_true z), cfail_k h.sc h.lay (by decide), pb_1, u2_1, gd_t (Or.inl rfl)]
      exact ⟨show (0 : Int) < 6 by decide, _, rfl, cdb_u⟩
    · rw [if_neg (by rw [z]; decide), ly3_0 h.lay, kd4, gd_t rfl, e1, pb_1, u1_1, h1.so', kso0 hso, gd_t rfl, lso0_9 h1.lay hso, bd_1]
      have g := CFo_0 (k := 6) h1 (Or.inl ⟨rfl, rfl⟩) z
      rcases (tests 7 0 rfl).2 80 (by decide) _ _ _ _ g (by show 0 + 1 ≤ i + 1; omega) with ⟨M', j, c, e, s, f, ⟨l1, l2⟩, ty, kt, tl⟩ | ⟨M', kd, p, e, s, kp, kt⟩
      · refine ⟨.inr (c, j), ⟨fun _ => ⟨kt, ty, tl⟩, fun q => absurd q (by decide), l1, l2, s.sc.1.1⟩, M', ?_, CD_Q h1 (Or.inl ⟨rfl, rfl⟩) f s, cdf_tr (cdf_nx f1) (cdf_fq hso (Or.inl rfl) f)⟩
        show pb (fRec_P1 80 4 SH _ 3) _ = _
        dsimp only at e
        rw [e, pb_1, u2_1, gd_t (Or.inr rfl)]
      · refine ⟨.inl (kd, p), ⟨kp, fun _ => kt, fun q => absurd q (by decide)⟩, kp, M', ?_, s.1, s.2.1, cdf_tr (cdf_nx f1) (cdf_fq hso (Or.inl rfl) s.2.2)⟩
        show pb (fRec_P1 80 4 SH _ 3) _ = _
        dsimp only at e
        rw [e, pb_1, u2_1, gd_t (Or.inl rfl)]
  · rw [if_neg (by decide)]
    have it : fX1_isTold SH M (so + 13) = _ := isTold_n (M := M) (fo := so + 13) (by omega)
    unfold fX6_tellPrice
    rw [kd3, gd_t rfl, h.so', kso0 hso, gd_t rfl, lso0_10 h.lay hso, kso13 hso, gd_t rfl, it, pb_1, u1_1, bi_if, e1']
    refine ⟨fun z => ?_, fun z => ?_⟩
    · rw [if_pos (decide_eq_true z), cfail_k h.sc h.lay (by decide), pb_1, u2_1, gd_t (Or.inl rfl)]
      exact ⟨show (0 : Int) < 6 by decide, _, rfl, cdb_u⟩
    · rw [if_neg (by rw [z]; decide), ly3_0 h.lay, kd4, gd_t rfl, e1, pb_1, u1_1, h1.so', kso0 hso, gd_t rfl, lso0_10 h1.lay hso, bd_1]
      have g := CFo_0 (k := 7) h1 (Or.inr ⟨rfl, rfl⟩) z
      rcases sums 7 0 80 rfl (by decide) _ _ _ _ g (by show 0 + 1 ≤ i + 1; omega) with ⟨M', j, c, e, s, f, ⟨l1, l2⟩, ty, kt, tl⟩ | ⟨M', kd, p, e, s, kp, kt⟩
      · refine ⟨.inr (c, j), ⟨fun q => absurd q (by decide), fun _ => ⟨kt, ty, tl⟩, l1, l2, s.sc.1.1⟩, M', ?_, CD_Q h1 (Or.inr ⟨rfl, rfl⟩) f s, cdf_tr (cdf_nx f1) (cdf_fq hso (Or.inr rfl) f)⟩
        show pb (fRec_P0 80 4 SH _ 3 0) _ = _
        dsimp only at e
        rw [e, pb_1, u2_1, gd_t (Or.inr rfl)]
      · refine ⟨.inl (kd, p), ⟨kp, fun q => absurd q (by decide), fun _ => kt⟩, kp, M', ?_, s.1, s.2.1, cdf_tr (cdf_nx f1) (cdf_fq hso (Or.inr rfl) s.2.2)⟩
        show pb (fRec_P0 80 4 SH _ 3 0) _ = _
        dsimp only at e
        rw [e, pb_1, u2_1, gd_t (Or.inl rfl)]
end PCFM
