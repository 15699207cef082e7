/-! the model joins what waits; frames come and go -/
section PMJO
variable {T : Int → Int} {L : Nat} {b : Int} {cf : Nat}
def rk (op : Int) : Int := if op = 21 then 1 else if op = 20 then 2 else if op = 22 then 3 else if op = 17 then 4 else if op = 18 then 4 else if op = 19 then 4 else if op = 10 then 5 else if op = 11 then 5 else 6
theorem rk_n {sh : AwS} {M : AwM} {op : Int} : fX9_rank sh M op = some (rk op) := by
  unfold fX9_rank rk
  by_cases a : op = 21
  · rw [if_pos a, if_pos a]
  · rw [if_neg a, if_neg a]
    by_cases a : op = 20
    · rw [if_pos a, if_pos a]
    · rw [if_neg a, if_neg a]
      by_cases a : op = 22
      · rw [if_pos a, if_pos a]
      · rw [if_neg a, if_neg a]
        by_cases a : op = 17
        · rw [if_pos a, if_pos a]
        · rw [if_neg a, if_neg a]
          by_cases a : op = 18
          · rw [if_pos a, if_pos a]
          · rw [if_neg a, if_neg a]
            by_cases a : op = 19
            · rw [if_pos a, if_pos a]
            · rw [if_neg a, if_neg a]
              by_cases a : op = 10
              · rw [if_pos a, if_pos a]
              · rw [if_neg a, if_neg a]
                by_cases a : op = 11
                · rw [if_pos a, if_pos a]
                · rw [if_neg a, if_neg a]
def cel (op : Int) : Int := mce op 0
def nots : List Int → Nat
  | [] => 0
  | x :: r => (if x = 22 then 1 else 0) + nots r
theorem MB_pair {M : AwM} {k ph pr w : Int} {bg : Bool} {ops : List Int} {r : List Fr} {o : Nat} {C : List Int} (h : MB T L b cf M ((k, ph, bg, pr, ops) :: r) o C) (hw : 10 ≤ w ∧ w ≤ 22) : MB T L b cf (up_ M 193 (r.length : Int) w) ((k, ph, bg, w, ops) :: r) o C ∧ mbf b cf (up_ M 193 (r.length : Int) w) M := by
  have f : mbf b cf (up_ M 193 (r.length : Int) w) M := fun a' i p q _ => up_of (by omega)
  obtain ⟨⟨a1, a2, a3, a4⟩, ⟨b1, b2, b3, b4⟩, ⟨c1, c2⟩, d, e⟩ := id h
  obtain ⟨⟨f1, f2, f3, f4, f5, f6⟩, f7⟩ := c1
  exact ⟨MB_base h f ⟨(up_of (by omega)).trans b1, (up_of (by omega)).trans b2, (up_of (by omega)).trans b3, (up_of (by omega)).trans b4⟩ ⟨⟨⟨(up_of (by decide)).trans f1, (up_of (by decide)).trans f2, (up_of (by decide)).trans f3, fun _ => ⟨up_at, hw⟩, (up_of (by decide)).trans f5, opsM_lo f6 (fun i _ => up_of (by decide))⟩, frm_lo f7 (fun a' i x y z => up_nn (fun w => by omega)) (fun i _ => up_of (by omega))⟩, cods_fr c2 (fun a' i _ _ _ => up_of (by omega))⟩ d, f⟩
theorem MB_push {M : AwM} {fs : List Fr} {o : Nat} {C : List Int} {kd : Int} (h : MB T L b cf M fs o C) (hn : fs.length < 8) : ∃ M', fX9_pushes SH M 167 kd = some M' ∧ MB T L b cf M' ((kd, 0, true, 0, []) :: fs) o C ∧ mbf b cf M' M := by
  obtain ⟨⟨a1, a2, a3, a4⟩, ⟨b1, b2, b3, b4⟩, ⟨c1, c2⟩, d, e⟩ := id h
  have f : mbf b cf (up_ (up_ (up_ (up_ (up_ M 190 (fs.length : Int) kd) 191 (fs.length : Int) 0) 192 (fs.length : Int) 1) 194 (fs.length : Int) (tot fs : Int)) 167 42 ((fs.length : Int) + 1)) M := fun a i p q _ => by
    rw [up_nn (fun z => p ⟨z.1, by omega⟩), up_of (by omega), up_of (by omega), up_of (by omega), up_of (by omega)]
  have et : tot ((kd, 0, true, 0, []) :: fs) = tot fs := by show 0 + tot fs = tot fs; omega
  refine ⟨_, ?_, MB_base h f ⟨?_, ?_, ?_, ?_⟩ ⟨⟨⟨?_, ?_, ?_, fun z => absurd rfl z, ?_, trivial⟩, ?_⟩, ?_⟩ ⟨d.1, by rw [et]; exact d.2.1, by rw [List.length_cons]; omega, d.2.2.2⟩, f⟩
  · unfold fX9_pushes
    rw [kd167, gd_t rfl, ly167_37 a1, kd190, b1, ga_t (by omega) (by omega), bd_1, up_of (show (167 : Int) ≠ 190 by decide), up_of (show (167 : Int) ≠ 190 by decide), ly167_38 a1, kd191, b1, ga_t (by omega) (by omega), bd_1]
    rw [up_of (show (167 : Int) ≠ 191 by decide), up_of (show (167 : Int) ≠ 190 by decide), up_of (show (167 : Int) ≠ 191 by decide), up_of (show (167 : Int) ≠ 190 by decide), ly167_39 a1, kd192, b1, gd_t (by refine ⟨rfl, by omega, ?_⟩; show _ < (20 : Int); omega), bd_1]
    rw [up_of (show (167 : Int) ≠ 192 by decide), up_of (show (167 : Int) ≠ 191 by decide), up_of (show (167 : Int) ≠ 190 by decide), up_of (show (167 : Int) ≠ 192 by decide), up_of (show (167 : Int) ≠ 191 by decide), up_of (show (167 : Int) ≠ 190 by decide), up_of (show (167 : Int) ≠ 192 by decide), up_of (show (167 : Int) ≠ 191 by decide), up_of (show (167 : Int) ≠ 190 by decide), ly167_41 a1, kd194, b1, b3, ga_t (by omega) (by omega), bd_1]
    rw [up_of (show (167 : Int) ≠ 194 by decide), up_of (show (167 : Int) ≠ 192 by decide), up_of (show (167 : Int) ≠ 191 by decide), up_of (show (167 : Int) ≠ 190 by decide), b1, w32_s (v := (fs.length : Int) + 1) (by omega) (by omega), bd_1]
  · rw [up_at, List.length_cons]; omega
  · rw [up_oi (by decide), up_of (by decide), up_of (by decide), up_of (by decide), up_of (by decide)]; exact b2
  · rw [up_oi (by decide), up_of (by decide), up_of (by decide), up_of (by decide), up_of (by decide), et]; exact b3
  · rw [up_oi (by decide), up_of (by decide), up_of (by decide), up_of (by decide), up_of (by decide)]; exact b4
  · rw [up_of (by decide), up_of (by decide), up_of (by decide), up_of (by decide), up_at]
  · rw [up_of (by decide), up_of (by decide), up_of (by decide), up_at]
  · rw [up_of (by decide), up_of (by decide), up_at]; rfl
  · rw [up_of (by decide), up_at]
  · refine frm_lo c1 (fun a i x y z => ?_) (fun i _ => ?_)
    · rw [up_of (by omega), up_nn (fun w => by omega), up_nn (fun w => by omega), up_nn (fun w => by omega), up_nn (fun w => by omega)]
    · rw [up_of (by omega), up_of (by omega), up_of (by omega), up_of (by omega), up_of (by omega)]
  · exact cods_fr c2 (fun a i _ _ _ => by rw [up_of (by omega), up_of (by omega), up_of (by omega), up_of (by omega), up_of (by omega)])
theorem MB_pop {M : AwM} {k ph pr : Int} {bg : Bool} {r : List Fr} {o : Nat} {C : List Int} (h : MB T L b cf M ((k, ph, bg, pr, []) :: r) (o + 1) C) : MB T L b cf (up_ (up_ M 167 42 (r.length : Int)) 167 43 (o : Int)) r o C ∧ mbf b cf (up_ (up_ M 167 42 (r.length : Int)) 167 43 (o : Int)) M := by
  have f : mbf b cf (up_ (up_ M 167 42 (r.length : Int)) 167 43 (o : Int)) M := fun a' i p q _ => by rw [up_nn (fun z => p ⟨z.1, by omega⟩), up_nn (fun z => p ⟨z.1, by omega⟩)]
  obtain ⟨⟨a1, a2, a3, a4⟩, ⟨b1, b2, b3, b4⟩, ⟨c1, c2⟩, d, e⟩ := id h
  have et : tot ((k, ph, bg, pr, []) :: r) = tot r := by show 0 + tot r = tot r; omega
  rw [et] at b3 d
  rw [List.length_cons] at d
  exact ⟨MB_base h f ⟨by rw [up_oi (by decide), up_at], up_at, by rw [up_oi (by decide), up_oi (by decide)]; exact b3, by rw [up_oi (by decide), up_oi (by decide)]; exact b4⟩ ⟨frm_lo c1.2 (fun a' i x y z => by rw [up_of (by omega), up_of (by omega)]) (fun i _ => by rw [up_of (by omega), up_of (by omega)]), cods_fr c2 (fun a' i _ _ _ => by rw [up_of (by omega), up_of (by omega)])⟩ ⟨d.1, d.2.1, by omega, by omega⟩, f⟩
/-- what waits above a rank is joined -/
theorem MB_joinl {k ph pr : Int} {bg : Bool} {ops0 : List Int} {r : List Fr} {o : Nat} {le : Int} (h0 : ∀ x ∈ ops0.head?, rk x < le) : ∀ (X C : List Int) (M : AwM) (N : Nat), MB T L b cf M ((k, ph, bg, pr, X ++ ops0) :: r) (o + nots X) C → (∀ x ∈ X, le ≤ rk x) → cf + C.length + X.length ≤ 1600 → X.length < N → ∃ M', lp (u1 (fX9_joins_L0 SH 167 le)) N M = some M' ∧ MB T L b cf M' ((k, ph, bg, pr, ops0) :: r) o (C ++ X.map cel) ∧ mbf b cf M' M ∧ M' 167 46 = M 167 46 ∧ (∀ a i : Int, 190 ≤ a → M' a i = M a i)
  | [], C, M, N, h, hX, hn, hN => by
    obtain ⟨N, rfl⟩ : ∃ k, N = k + 1 := ⟨N - 1, by omega⟩
    obtain ⟨⟨a1, a2, a3, a4⟩, ⟨b1, b2, b3, b4⟩, ⟨c1, c2⟩, d, e⟩ := id h
    have h' : MB T L b cf M ((k, ph, bg, pr, ops0) :: r) o (C ++ List.map cel []) := by
      rw [List.map_nil, List.append_nil]; exact h
    refine ⟨M, lp_st ?_, h', mbf_rf, rfl, fun _ _ _ => rfl⟩
    have b1' : M 167 42 = (r.length : Int) + 1 := by rw [b1, List.length_cons]; omega
    have b3' : M 167 45 = ((ops0.length + tot r : Nat) : Int) := b3
    rw [List.length_cons] at d
    have dt : ops0.length + tot r ≤ 60 := d.2.1
    obtain ⟨⟨f1, f2, f3, f4, f5, f6⟩, f7⟩ := c1
    have f5' : M 194 (r.length : Int) = (tot r : Int) := f5
    rw [u1_1]
    unfold fX9_joins_L0
    rw [kd167, gd_t rfl, ly167_41 a1, kd194, b1', w32_s (v := (r.length : Int) + 1 - 1) (by omega) (by omega), show (r.length : Int) + 1 - 1 = (r.length : Int) by omega, ga_t (by omega) (by omega), f5', b3']
    cases ops0 with
    | nil =>
      rw [if_neg (by show ¬ ((tot r : Int) < (((0 : Nat) + tot r : Nat) : Int)); omega)]
    | cons y ys =>
      have f6' : (M 195 ((tot r + ys.length : Nat) : Int) = y ∧ 10 ≤ y ∧ y ≤ 22) := f6.1
      rw [List.length_cons] at dt
      rw [if_pos (by rw [List.length_cons]; omega), ly167_44 a1, kd195, w32_s (v := (((y :: ys).length + tot r : Nat) : Int) - 1) (by rw [List.length_cons]; omega) (by rw [List.length_cons]; omega), ga_t (by rw [List.length_cons]; omega) (by rw [List.length_cons]; omega), show (((y :: ys).length + tot r : Nat) : Int) - 1 = ((tot r + ys.length : Nat) : Int) by rw [List.length_cons]; omega, f6'.1, rk_n, pb_1, u1_1, if_pos (h0 y rfl)]
  | x :: X, C, M, N, h, hX, hn, hN => by
    obtain ⟨N, rfl⟩ : ∃ k, N = k + 1 := ⟨N - 1, by omega⟩
    rw [List.length_cons] at hn hN
    obtain ⟨⟨a1, a2, a3, a4⟩, ⟨b1, b2, b3, b4⟩, ⟨c1, c2⟩, d, e⟩ := id h
    have b1' : M 167 42 = (r.length : Int) + 1 := by rw [b1, List.length_cons]; omega
    have b3' : M 167 45 = (((X ++ ops0).length + 1 + tot r : Nat) : Int) := b3
    have d1 : (X ++ ops0).length + 1 + tot r ≤ 60 := d.2.1
    have d2 := d.2.2.1
    rw [List.length_cons] at d2
    obtain ⟨⟨f1, f2, f3, f4, f5, f6⟩, f7⟩ := c1
    have f5' : M 194 (r.length : Int) = (tot r : Int) := f5
    have f6' : (M 195 ((tot r + (X ++ ops0).length : Nat) : Int) = x ∧ 10 ≤ x ∧ x ≤ 22) := f6.1
    have f6t : opsM M (tot r) (X ++ ops0) := f6.2
    have ff : mbf b cf (up_ M 167 45 ((tot r + (X ++ ops0).length : Nat) : Int)) M := fun a i p _ _ => up_nn (fun z => p ⟨z.1, by omega⟩)
    have h1 : MB T L b cf (up_ M 167 45 ((tot r + (X ++ ops0).length : Nat) : Int)) ((k, ph, bg, pr, X ++ ops0) :: r) (o + nots (x :: X)) C := MB_base h ff ⟨(up_oi (by decide)).trans b1, (up_oi (by decide)).trans b2, by rw [up_at]; show _ = (((X ++ ops0).length + tot r : Nat) : Int); omega, (up_oi (by decide)).trans b4⟩ ⟨⟨⟨(up_of (by decide)).trans f1, (up_of (by decide)).trans f2, (up_of (by decide)).trans f3, fun z => by rw [up_of (by decide)]; exact f4 z, (up_of (by decide)).trans f5, opsM_lo f6t (fun i _ => up_of (by decide))⟩, frm_lo f7 (fun a i _ _ _ => up_of (by omega)) (fun i _ => up_of (by omega))⟩, cods_fr c2 (fun a i _ _ _ => up_of (by omega))⟩ ⟨d.1, by show (X ++ ops0).length + tot r ≤ 60; omega, by rw [List.length_cons]; omega, d.2.2.2⟩
    obtain ⟨M2, e2, h2, ff2, g2, k2⟩ := MB_add (s := x) (v := 0) (c := cel x) h1 ⟨by omega, by omega⟩ (fun z => by omega) rfl (by omega)
    have q45 : up_ M 167 45 ((tot r + (X ++ ops0).length : Nat) : Int) 167 45 = ((tot r + (X ++ ops0).length : Nat) : Int) := up_at
    have q195 : up_ M 167 45 ((tot r + (X ++ ops0).length : Nat) : Int) 195 ((tot r + (X ++ ops0).length : Nat) : Int) = x := (up_of (by decide)).trans f6'.1
    have s45 : M2 167 45 = ((tot r + (X ++ ops0).length : Nat) : Int) := (g2 _ (by decide)).trans q45
    have s195 : M2 195 ((tot r + (X ++ ops0).length : Nat) : Int) = x := (k2 _ _ (by omega)).trans q195
    have l1 := LAY_mb a1 ff
    have l2 := h2.1.1
    have step : ∃ M3, fX9_joins_L0 SH 167 le M = some (.inl M3) ∧ MB T L b cf M3 ((k, ph, bg, pr, X ++ ops0) :: r) (o + nots X) (C ++ [cel x]) ∧ mbf b cf M3 M ∧ M3 167 46 = M 167 46 ∧ (∀ a i : Int, 190 ≤ a → M3 a i = M a i) := by
      have pre : ∀ R : Option (AwM ⊕ AwM), (if x = 22 then bd_ (up_ M2 167 43 (w32 (M2 167 43 - 1))) (fun (M15 : AwM) => (some (.inl M15) : Option (AwM ⊕ AwM))) else some (.inl M2)) = R → fX9_joins_L0 SH 167 le M = R := fun R hR => by
        unfold fX9_joins_L0
        rw [kd167, gd_t rfl, ly167_41 a1, kd194, b1', w32_s (v := (r.length : Int) + 1 - 1) (by omega) (by omega), show (r.length : Int) + 1 - 1 = (r.length : Int) by omega, ga_t (by omega) (by omega), f5', b3', if_pos (by omega), ly167_44 a1, kd195, w32_s (v := (((X ++ ops0).length + 1 + tot r : Nat) : Int) - 1) (by omega) (by omega), ga_t (by omega) (by omega), show (((X ++ ops0).length + 1 + tot r : Nat) : Int) - 1 = ((tot r + (X ++ ops0).length : Nat) : Int) by omega, f6'.1, rk_n, pb_1, u1_1, if_neg (by have := hX x (List.mem_cons_self); omega), bd_1, ly167_44 l1, kd195, q45, ga_t (by omega) (by omega), q195, e2, pb_1, u1_1, ly167_44 l2, kd195, s45, ga_t (by omega) (by omega), s195]
        exact hR
      by_cases z : x = 22
      · have en : o + nots (x :: X) = (o + nots X) + 1 := by show o + ((if x = 22 then 1 else 0) + nots X) = _; rw [if_pos z]; omega
        have h43 : M2 167 43 = ((o + nots X : Nat) : Int) + 1 := by rw [h2.2.1.2.1, en]; omega
        have od := h2.2.2.2.1.2.2.2
        rw [en] at od
        have h3 := MB_43 (o' := o + nots X) h2 (by omega)
        refine ⟨_, pre _ ?_, h3.1, mbf_tr ff (mbf_tr ff2 h3.2), ?_, fun a i ha => ?_⟩
        · rw [if_pos z, h43, w32_s (v := ((o + nots X : Nat) : Int) + 1 - 1) (by omega) (by omega), show ((o + nots X : Nat) : Int) + 1 - 1 = ((o + nots X : Nat) : Int) by omega, bd_1]
        · rw [up_oi (by decide), g2 _ (by decide), up_oi (by decide)]
        · rw [up_of (by omega), k2 a i ha, up_of (by omega)]
      · have en : o + nots (x :: X) = o + nots X := by show o + ((if x = 22 then 1 else 0) + nots X) = _; rw [if_neg z]; omega
        rw [en] at h2
        refine ⟨_, pre _ (if_neg z), h2, mbf_tr ff ff2, ?_, fun a i ha => ?_⟩
        · rw [g2 _ (by decide), up_oi (by decide)]
        · rw [k2 a i ha, up_of (by omega)]
    obtain ⟨M3, e3, h3, ff3, g3, k3⟩ := step
    obtain ⟨M4, e4, h4, ff4, g4, k4⟩ := MB_joinl h0 X (C ++ [cel x]) M3 N h3 (fun y hy => hX y (List.mem_cons_of_mem _ hy)) (by rw [List.length_append, List.length_singleton]; omega) (by omega)
    refine ⟨M4, ?_, ?_, mbf_tr ff3 ff4, g4.trans g3, fun a i ha => (k4 a i ha).trans (k3 a i ha)⟩
    · rw [lp_go (s' := M3)]
      · exact e4
      · rw [u1_1]; exact e3
    · rw [List.append_assoc] at h4
      exact h4
theorem MB_joins {k ph pr : Int} {bg : Bool} {X ops0 : List Int} {r : List Fr} {o : Nat} {le : Int} {C : List Int} {M : AwM} (h : MB T L b cf M ((k, ph, bg, pr, X ++ ops0) :: r) (o + nots X) C) (h0 : ∀ x ∈ ops0.head?, rk x < le) (hX : ∀ x ∈ X, le ≤ rk x) (hn : cf + C.length + X.length ≤ 1600) : ∃ M', fX9_joins SH M 167 le = some M' ∧ MB T L b cf M' ((k, ph, bg, pr, ops0) :: r) o (C ++ X.map cel) ∧ mbf b cf M' M ∧ M' 167 46 = M 167 46 ∧ (∀ a i : Int, 190 ≤ a → M' a i = M a i) := by
  have d := h.2.2.2.1.2.1
  have d' : (X ++ ops0).length + tot r ≤ 60 := d
  rw [List.length_append] at d'
  obtain ⟨M', e, hh⟩ := MB_joinl h0 X C M FU h hX hn (FU_gt (by omega))
  refine ⟨M', ?_, hh⟩
  unfold fX9_joins
  rw [e, pb_1, u1_1]
end PMJO
