/-! the class reads all tokens, and looks at them -/
section PSC3
theorem c189 {M : AwM} {g : Bool} : fX4_readOne_J189 SH M 4 (bi g) = some (if g = true ∧ M 4 8 ≠ 1 ∧ M 4 8 ≠ 0 then up_ (up_ M 4 8 5) 4 11 (M 4 10) else M) := by
  unfold fX4_readOne_J189
  rw [bi_if]
  cases g
  · rw [if_neg (by decide), if_neg (fun z => absurd z.1 (by decide))]
  · rw [if_pos rfl, kd4, gd_t rfl]
    by_cases a : M 4 8 = 1
    · rw [if_pos a, if_neg (fun z => z.2.1 a)]
    · rw [if_neg a]
      by_cases b : M 4 8 = 0
      · rw [if_pos b, if_neg (fun z => z.2.2 b)]
      · rw [if_neg b, if_pos ⟨rfl, a, b⟩, bd_1, up_oi (by decide), bd_1]
theorem c176 {M : AwM} {s : Nat} {g : Bool} {v : Int} (hs : s < 1600) (h7 : M 4 7 = (s : Int)) (h10 : M 4 10 = (s : Int)) (h11 : M 4 11 = (s : Int)) (hv : v = 1 ∨ v = 5) : ∃ M', fX4_readOne_J176 SH M 4 (bi g) 4 v = some M' ∧ scf M' M ∧ M' 4 7 = ((s + 1 : Nat) : Int) ∧ M' 4 8 = v ∧ M' 4 9 = M 4 9 ∧ M' 4 10 = (s : Int) ∧ M' 4 11 = (s : Int) := by
  unfold fX4_readOne_J176
  rw [kd4, gd_t rfl, bd_1, gd_t rfl, up_oi (by decide), h7, w32_s (v := (s : Int) + 1) (by omega) (by omega), bd_1, c189]
  have f1 : scf (up_ (up_ M 4 8 v) 4 7 ((s : Int) + 1)) M := scf_tr (scf_up (by omega)) (scf_up (by omega))
  by_cases c : g = true ∧ up_ (up_ M 4 8 v) 4 7 ((s : Int) + 1) 4 8 ≠ 1 ∧ up_ (up_ M 4 8 v) 4 7 ((s : Int) + 1) 4 8 ≠ 0
  · rw [if_pos c]
    have v5 : v = 5 := by
      have := c.2.1
      rw [up_oi (by decide), up_at] at this
      omega
    refine ⟨_, rfl, scf_tr f1 (scf_tr (scf_up (by omega)) (scf_up (by omega))), ?_, ?_, ?_, ?_, ?_⟩
    · rw [up_oi (by decide), up_oi (by decide), up_at]; omega
    · rw [up_oi (by decide), up_at, v5]
    · rw [up_oi (by decide), up_oi (by decide), up_oi (by decide), up_oi (by decide)]
    · rw [up_oi (by decide), up_oi (by decide), up_oi (by decide), up_oi (by decide)]; exact h10
    · rw [up_at, up_oi (by decide), up_oi (by decide)]; exact h10
  · rw [if_neg c]
    refine ⟨_, rfl, f1, ?_, ?_, ?_, ?_, ?_⟩
    · rw [up_at]; omega
    · rw [up_oi (by decide), up_at]
    · rw [up_oi (by decide), up_oi (by decide)]
    · rw [up_oi (by decide), up_oi (by decide)]; exact h10
    · rw [up_oi (by decide), up_oi (by decide)]; exact h11
/-- a word or a number, glued or not -/
theorem c189x {M M1 : AwM} {s n : Nat} {x : Tk} {g : Bool} (f : scf M1 M) (h7 : M1 4 7 = (n : Int)) (hx : TKC M1 x) (hs : x.2.2.1 = s) (hk : x.1 ≠ 0 ∧ x.1 ≠ 1) : ∃ M', fX4_readOne_J189 SH M1 4 (bi g) = some M' ∧ scf M' M ∧ M' 4 7 = (n : Int) ∧ TKC M' (if g = true then (5, 0, s, s, n) else x) := by
  obtain ⟨h8, h10, h11, h9⟩ := hx
  have k8 : M1 4 8 ≠ 1 ∧ M1 4 8 ≠ 0 := by
    rw [h8]
    unfold ckd
    by_cases q : x.1 = 6
    · rw [if_pos q]; decide
    · rw [if_neg q]; exact ⟨hk.2, hk.1⟩
  rw [hs] at h10
  rw [c189]
  cases g
  · rw [if_neg (fun z => absurd z.1 (by decide)), if_neg (by decide)]
    exact ⟨M1, rfl, f, h7, h8, by rw [hs]; exact h10, h11, h9⟩
  · rw [if_pos ⟨rfl, k8⟩, if_pos rfl]
    refine ⟨_, rfl, scf_tr f (scf_tr (scf_up (by omega)) (scf_up (by omega))), ?_, ?_, ?_, ?_, fun q => absurd rfl q⟩
    · rw [up_oi (by decide), up_oi (by decide)]; exact h7
    · rw [up_oi (by decide), up_at]; rfl
    · rw [up_oi (by decide), up_oi (by decide)]; exact h10
    · rw [up_at]; exact h10
theorem tkW_k (T : Int → Int) (s n : Nat) : (tkW T s n false).2.2.1 = s ∧ ((tkW T s n false).1 ≠ 0 ∧ (tkW T s n false).1 ≠ 1) := by
  unfold tkW
  rw [if_neg (show ¬ (false : Bool) = true by decide)]
  split
  · exact ⟨rfl, (show (4 : Int) ≠ 0 ∧ (4 : Int) ≠ 1 by decide)⟩
  · split
    · exact ⟨rfl, (show (5 : Int) ≠ 0 ∧ (5 : Int) ≠ 1 by decide)⟩
    · exact ⟨rfl, (show (3 : Int) ≠ 0 ∧ (3 : Int) ≠ 1 by decide)⟩
theorem tkN_k (T : Int → Int) (s n : Nat) : (tkN T s n false).2.2.1 = s ∧ ((tkN T s n false).1 ≠ 0 ∧ (tkN T s n false).1 ≠ 1) := by
  unfold tkN
  rw [if_neg (show ¬ (false : Bool) = true by decide)]
  split
  · exact ⟨rfl, (show (5 : Int) ≠ 0 ∧ (5 : Int) ≠ 1 by decide)⟩
  · exact ⟨rfl, (show (2 : Int) ≠ 0 ∧ (2 : Int) ≠ 1 by decide)⟩
theorem tkW_g (T : Int → Int) (s n : Nat) (g : Bool) : tkW T s n g = if g = true then (5, 0, s, s, n) else tkW T s n false := by
  cases g
  · rw [if_neg (by decide)]
  · rw [if_pos rfl]; unfold tkW; rw [if_pos rfl]
theorem tkN_g (T : Int → Int) (s n : Nat) (g : Bool) : tkN T s n g = if g = true then (5, 0, s, s, n) else tkN T s n false := by
  cases g
  · rw [if_neg (by decide)]
  · rw [if_pos rfl]; unfold tkN; rw [if_pos rfl]
theorem tkW_e (T : Int → Int) (s n : Nat) (g : Bool) : (tkW T s n g).2.2.2.2 = n := by
  unfold tkW
  split
  · rfl
  · split
    · rfl
    · split <;> rfl
theorem tkN_e (T : Int → Int) (s n : Nat) (g : Bool) : (tkN T s n g).2.2.2.2 = n := by
  unfold tkN
  split
  · rfl
  · split <;> rfl
theorem c60_n {M : AwM} {T : Int → Int} {L s : Nat} (hl : LAY M) (hO : OWN M) (hT : TpB M T L) (h7 : M 4 7 = (s : Int)) (hs : s ≤ L) (g : Bool) : ∃ M', fX4_readOne_J60 SH M 4 2 (L : Int) (bi g) = some M' ∧ scf M' M ∧ M' 4 7 = ((tkA T L s g).2.2.2.2 : Int) ∧ TKC M' (tkA T L s g) := by
  have hL := hT.1
  have f1 : scf (up_ (up_ (up_ M 4 10 (s : Int)) 4 11 (s : Int)) 4 9 0) M := scf_tr (scf_tr (scf_up (by omega)) (scf_up (by omega))) (scf_up (by omega))
  have q7 : up_ (up_ (up_ M 4 10 (s : Int)) 4 11 (s : Int)) 4 9 0 4 7 = (s : Int) := by rw [up_oi (by decide), up_oi (by decide), up_oi (by decide)]; exact h7
  have q9 : up_ (up_ (up_ M 4 10 (s : Int)) 4 11 (s : Int)) 4 9 0 4 9 = 0 := up_at
  have q10 : up_ (up_ (up_ M 4 10 (s : Int)) 4 11 (s : Int)) 4 9 0 4 10 = (s : Int) := by rw [up_oi (by decide), up_oi (by decide), up_at]
  have q11 : up_ (up_ (up_ M 4 10 (s : Int)) 4 11 (s : Int)) 4 9 0 4 11 = (s : Int) := by rw [up_oi (by decide), up_at]
  unfold fX4_readOne_J60
  rw [kd4, gd_t rfl, h7, bd_1, up_oi (show ((7 : Int)) ≠ 10 by decide), h7, bd_1, bd_1]
  generalize up_ (up_ (up_ M 4 10 (s : Int)) 4 11 (s : Int)) 4 9 0 = M1 at *
  have l1 : LAY M1 := LAY_fq hl (fun q hq => by
    have t := of_decide_eq_true (List.all_eq_true.mp lay_w4 q hq)
    exact f1 _ _ (by omega))
  have O1 : OWN M1 := fun k k0 k1 => (f1 _ _ (by omega)).trans (hO k k0 k1)
  have T1 := TpB_sc hT f1
  rw [q7]
  unfold tkA
  by_cases z : L ≤ s
  · rw [if_neg (by omega), if_pos z, bd_1, c189, if_neg (fun c => by have := c.2.2; rw [up_at] at this; exact absurd rfl this)]
    refine ⟨_, rfl, scf_tr f1 (scf_up (by omega)), ?_, ?_, ?_, ?_, fun _ _ => ?_⟩
    · rw [up_oi (by decide)]; exact q7
    · rw [up_at]; rfl
    · rw [up_oi (by decide)]; exact q10
    · rw [up_oi (by decide)]; exact q11
    · rw [up_oi (by decide)]; exact q9
  · have t := T1.lt (i := (s : Int)) (by omega) (by omega)
    rw [if_pos (by omega), if_neg z, kd2, gd_t (by refine ⟨rfl, by omega, ?_⟩; show _ < (1600 : Int); omega), clet_n, pb_1, u1_1, bi_if]
    by_cases zl : isL (T (s : Int)) = true
    · obtain ⟨M2, e2, f2, g7, gx⟩ := cword_n l1 O1 T1 (by omega) q7 q10 q11
      have k := tkW_k T s (rnE isL T L s)
      obtain ⟨M3, e3, f3, h37, hx⟩ := c189x (g := g) (scf_tr f1 f2) g7 gx k.1 k.2
      rw [if_pos (decide_eq_true (t.1.mpr zl)), if_pos zl, e2, pb_1, u1_1, e3]
      refine ⟨M3, rfl, f3, ?_, ?_⟩
      · rw [tkW_e]; exact h37
      · rw [tkW_g]; exact hx
    · rw [if_neg (fun q => zl (t.1.mp (of_decide_eq_true q))), if_neg zl, cdig_n, pb_1, u1_1, bi_if]
      by_cases zd : isD (T (s : Int)) = true
      · obtain ⟨M2, e2, f2, g7, gx⟩ := cnum_n T1 (by omega) q7 q9 q10 q11
        have k := tkN_k T s (rnE isD T L s)
        obtain ⟨M3, e3, f3, h37, hx⟩ := c189x (g := g) (scf_tr f1 f2) g7 gx k.1 k.2
        rw [if_pos (decide_eq_true (t.2.1.mpr zd)), if_pos zd, e2, pb_1, u1_1, e3]
        refine ⟨M3, rfl, f3, ?_, ?_⟩
        · rw [tkN_e]; exact h37
        · rw [tkN_g]; exact hx
      · rw [if_neg (fun q => zd (t.2.1.mp (of_decide_eq_true q))), if_neg zd, bd_1, up_at]
        have f2 : scf (up_ M1 4 9 (M1 2 (s : Int))) M := scf_tr f1 (scf_up (by omega))
        have r7 : up_ M1 4 9 (M1 2 (s : Int)) 4 7 = (s : Int) := by rw [up_oi (by decide)]; exact q7
        have r10 : up_ M1 4 9 (M1 2 (s : Int)) 4 10 = (s : Int) := by rw [up_oi (by decide)]; exact q10
        have r11 : up_ M1 4 9 (M1 2 (s : Int)) 4 11 = (s : Int) := by rw [up_oi (by decide)]; exact q11
        have r9 : up_ M1 4 9 (M1 2 (s : Int)) 4 9 = M1 2 (s : Int) := up_at
        have bt := T1.2 (s : Int) (by omega) (by omega)
        have b8 : M1 2 (s : Int) < 128 := by
          rw [bt.2]; unfold w8_; omega
        generalize M1 2 (s : Int) = b at *
        generalize up_ M1 4 9 b = M2 at *
        unfold tkC
        have bad : T (s : Int) ∉ sgL → ∃ M', fX4_readOne_J175 SH M2 4 (bi g) 4 = some M' ∧ scf M' M ∧ M' 4 7 = ((s + 1 : Nat) : Int) ∧ TKC M' (6, T (s : Int), s, s, s + 1) := fun _ => by
          obtain ⟨M3, e3, f3, g7, g8, g9, g10, g11⟩ := c176 (g := g) (show s < 1600 by omega) r7 r10 r11 (Or.inr rfl)
          exact ⟨M3, e3, scf_tr f2 f3, g7, g8, g10, g11, fun _ h => absurd rfl h⟩
        by_cases v0 : 0 < b
        · have eb := t.2.2.2.2.1 ⟨v0, b8⟩
          obtain ⟨r, er, hr⟩ := idx_n (M := M2) (v := b) (by omega) b8
          have ec : c16_ b = b := by unfold c16_; omega
          rw [if_pos v0, ec, er, pb_1, u1_1]
          rw [eb] at hr
          by_cases r0 : r < 0
          · rw [if_pos r0, if_neg (hr.mp r0)]
            exact bad (hr.mp r0)
          · have mem : T (s : Int) ∈ sgL := Classical.byContradiction fun q => r0 (hr.mpr q)
            rw [if_neg r0, if_pos mem]
            obtain ⟨M3, e3, f3, g7, g8, g9, g10, g11⟩ := c176 (g := g) (show s < 1600 by omega) r7 r10 r11 (Or.inl rfl)
            exact ⟨M3, e3, scf_tr f2 f3, g7, g8, g10, g11, fun _ _ => by rw [g9, r9]; exact eb⟩
        · have nm := t.2.2.2.2.2 v0
          rw [if_neg v0, if_neg nm]
          exact bad nm
theorem cone_n {M : AwM} {T : Int → Int} {L e : Nat} {k : Int} (hl : LAY M) (hO : OWN M) (hT : TpB M T L) (he : e ≤ L) (h7 : M 4 7 = (e : Int)) (h8 : M 4 8 = k) : ∃ M', fX4_readOne SH M 4 2 (L : Int) = some M' ∧ scf M' M ∧ M' 4 7 = ((tok T L e (glu k)).2.2.2.2 : Int) ∧ TKC M' (tok T L e (glu k)) := by
  have e0 : fX4_readOne SH M 4 2 (L : Int) = fX4_readOne_J29 SH M 4 2 (L : Int) (bi (glu k)) := by
    unfold fX4_readOne fX4_readOne_J24 glu
    rw [kd4, gd_t rfl, h8]
    by_cases a : k = 2
    · rw [if_pos a, decide_eq_true (Or.inl a)]; rfl
    · rw [if_neg a]
      by_cases b : k = 3
      · rw [if_pos b, decide_eq_true (Or.inr (Or.inl b))]; rfl
      · rw [if_neg b]
        by_cases c : k = 4
        · rw [if_pos c, decide_eq_true (Or.inr (Or.inr c))]; rfl
        · rw [if_neg c, decide_eq_false (by omega)]; rfl
  have a2 := (rnE_p isB T L e).2.1 he
  obtain ⟨M1, e1, g7, gf⟩ := cskip_n hT he h7
  have f1 : scf M1 M := fun a i p => gf a i (by omega)
  have l1 : LAY M1 := LAY_fq hl (fun q hq => by
    have t := of_decide_eq_true (List.all_eq_true.mp lay_w4 q hq)
    exact f1 _ _ (by omega))
  have O1 : OWN M1 := fun k k0 k1 => (f1 _ _ (by omega)).trans (hO k k0 k1)
  obtain ⟨M2, e2, f2, r7, rx⟩ := c60_n l1 O1 (TpB_sc hT f1) g7 a2 (glu k && decide (rnE isB T L e = e))
  refine ⟨M2, ?_, scf_tr f1 f2, r7, rx⟩
  rw [e0]
  unfold fX4_readOne_J29 fX4_readOne_J59
  rw [kd4, gd_t rfl, e1, pb_1, u1_1, bi_if, g7, h7]
  by_cases a : glu k = true
  · rw [if_pos a]
    rw [a] at e2
    by_cases b : rnE isB T L e = e
    · rw [decide_eq_true b] at e2
      rw [if_pos (by omega)]
      exact e2
    · rw [decide_eq_false b] at e2
      rw [if_neg (by omega)]
      exact e2
  · rw [if_neg a]
    rw [bf a] at e2
    exact e2
end PSC3
