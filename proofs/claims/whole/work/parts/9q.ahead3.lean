/-! the model reads a token, all together -/
section PAH3
theorem LD {c : Int} (h : isL c = true) : isD c = false := by
  have := isL_t.mp h
  refine bf (fun q => ?_)
  have := isD_t.mp q
  omega
theorem m334 {M : AwM} {T : Int → Int} {L s n : Nat} {g : Bool} (hl : LAY M) (hn : s ≤ n ∧ n ≤ 1600) (ll : ∀ q : Int, (s : Int) ≤ q → q < (n : Int) → ltr (T q)) (h3 : M 167 3 = 1) (h4 : M 167 4 = (s : Int)) (h7 : M 167 7 = w8 T (s : Int) (min (n - s) 8) 0) (h12 : M 167 12 = (if (if g = true then (s : Int) else -1) = -1 ∧ 6 < n - s then (s : Int) + 6 else (if g = true then (s : Int) else -1))) : ∃ M', fX9_ahead_J334 SH M 167 (n : Int) 1 6 ((n - s : Nat) : Int) = some M' ∧ maf M' M ∧ MTK M' (tkW T s n g) := by
  unfold fX9_ahead_J334
  rw [kd167, gd_t rfl, bd_1, if_neg (show ¬ (1 : Int) = 0 by decide)]
  have q5 : up_ M 167 5 (n : Int) 167 5 = (n : Int) := up_at
  have q3 : up_ M 167 5 (n : Int) 167 3 = 1 := by rw [up_oi (by decide)]; exact h3
  have q4 : up_ M 167 5 (n : Int) 167 4 = (s : Int) := by rw [up_oi (by decide)]; exact h4
  have q7 : up_ M 167 5 (n : Int) 167 7 = w8 T (s : Int) (min (n - s) 8) 0 := by rw [up_oi (by decide)]; exact h7
  have q12 : up_ M 167 5 (n : Int) 167 12 = (if (if g = true then (s : Int) else -1) = -1 ∧ 6 < n - s then (s : Int) + 6 else (if g = true then (s : Int) else -1)) := by rw [up_oi (by decide)]; exact h12
  have f1 : maf (up_ M 167 5 (n : Int)) M := maf_up (by omega)
  generalize up_ M 167 5 (n : Int) = M1 at *
  unfold tkW
  by_cases zg : g = true
  · rw [if_pos zg, if_neg (fun q => by have := q.1; omega)] at q12
    have dn : MTK M1 (5, 0, s, s, n) := ⟨q4, q5, fun _ => ⟨q12, by rw [q3]; decide⟩, fun h => absurd rfl h, fun h => absurd (show (5 : Int) = 0 from h) (by decide), fun h => absurd (show (5 : Int) = 1 ∨ (5 : Int) = 6 from h) (by decide), fun h => absurd (show (5 : Int) = 2 from h) (by decide), fun h => absurd (show (5 : Int) = 3 from h) (by decide), fun h => absurd (show (5 : Int) = 4 from h) (by decide)⟩
    rw [if_pos zg]
    refine ⟨M1, ?_, f1, dn⟩
    by_cases z8 : (8 : Int) < ((n - s : Nat) : Int)
    · rw [if_pos z8]
    · rw [if_neg z8, q4, q12, w32_s (v := (s : Int) + 6) (by omega) (by omega), if_neg (by omega)]
  · have e1 : (if g = true then (s : Int) else -1) = -1 := if_neg zg
    rw [e1] at q12
    rw [if_neg zg]
    by_cases z8 : n - s ≤ 8
    · have nd := nd_w (T := T) (n - s) 8 (s : Int) z8 (fun q x y => ll q x (by omega))
      have e8 := n8_w (T := T) (n - s) 8 (s : Int) 0 z8 (fun q x y => ll q x (by omega))
      rw [show min (n - s) 8 = n - s by omega, ← e8] at q7
      rw [if_neg (show ¬ (8 : Int) < ((n - s : Nat) : Int) by omega), q4, w32_s (v := (s : Int) + 6) (by omega) (by omega)]
      by_cases zo : ownX (w5 T (s : Int) (n - s)) = -1
      · rw [if_neg (show ¬ (n - s ≤ 8 ∧ ownX (w5 T (s : Int) (n - s)) ≠ -1) from fun q => q.2 zo)]
        by_cases z6 : 6 < n - s
        · rw [if_pos (⟨rfl, z6⟩ : (-1 : Int) = -1 ∧ 6 < n - s)] at q12
          rw [q12, if_pos rfl, q7, isOwn_n nd, pb_1, u1_1, bi_if, if_neg (by rw [zo]; decide), if_pos z6]
          exact ⟨M1, rfl, f1, q4, q5, fun _ => ⟨q12.trans (by show (s : Int) + 6 = ((s + 6 : Nat) : Int); omega), by rw [q3]; decide⟩, fun h => absurd rfl h, fun h => absurd (show (5 : Int) = 0 from h) (by decide), fun h => absurd (show (5 : Int) = 1 ∨ (5 : Int) = 6 from h) (by decide), fun h => absurd (show (5 : Int) = 2 from h) (by decide), fun h => absurd (show (5 : Int) = 3 from h) (by decide), fun h => absurd (show (5 : Int) = 4 from h) (by decide)⟩
        · rw [if_neg (show ¬ ((-1 : Int) = -1 ∧ 6 < n - s) from fun q => z6 q.2)] at q12
          rw [q12, if_neg (show ¬ (-1 : Int) = (s : Int) + 6 by omega), if_neg z6]
          exact ⟨M1, rfl, f1, q4, q5, fun h => absurd (show (3 : Int) = 5 from h) (by decide), fun _ => q12, fun h => absurd (show (3 : Int) = 0 from h) (by decide), fun h => absurd (show (3 : Int) = 1 ∨ (3 : Int) = 6 from h) (by decide), fun h => absurd (show (3 : Int) = 2 from h) (by decide), fun _ => ⟨q3, q7⟩, fun h => absurd (show (3 : Int) = 4 from h) (by decide)⟩
      · rw [if_pos (show n - s ≤ 8 ∧ ownX (w5 T (s : Int) (n - s)) ≠ -1 from ⟨z8, zo⟩)]
        have oc := ownX_c (w5 T (s : Int) (n - s))
        have eo := (own8_w nd (k := ownX (w5 T (s : Int) (n - s))) (by omega) (by omega)).mpr rfl
        have dn : ∀ M2 : AwM, M2 167 3 = 1 → M2 167 4 = (s : Int) → M2 167 5 = (n : Int) → M2 167 7 = n8f 8 (w5 T (s : Int) (n - s)) 0 → M2 167 12 = -1 → MTK M2 (4, ownX (w5 T (s : Int) (n - s)), s, s, n) := fun M2 a3 a4 a5 a7 a12 => ⟨a4, a5, fun h => absurd (show (4 : Int) = 5 from h) (by decide), fun _ => a12, fun h => absurd (show (4 : Int) = 0 from h) (by decide), fun h => absurd (show (4 : Int) = 1 ∨ (4 : Int) = 6 from h) (by decide), fun h => absurd (show (4 : Int) = 2 from h) (by decide), fun h => absurd (show (4 : Int) = 3 from h) (by decide), fun _ => ⟨a3, a7.trans eo⟩⟩
        by_cases z6 : 6 < n - s
        · rw [if_pos (⟨rfl, z6⟩ : (-1 : Int) = -1 ∧ 6 < n - s)] at q12
          rw [q12, if_pos rfl, q7, isOwn_n nd, pb_1, u1_1, bi_if, if_pos (decide_eq_true zo), bd_1]
          exact ⟨_, rfl, maf_tr f1 (maf_up (by omega)), dn _ ((up_oi (by decide)).trans q3) ((up_oi (by decide)).trans q4) ((up_oi (by decide)).trans q5) ((up_oi (by decide)).trans q7) up_at⟩
        · rw [if_neg (show ¬ ((-1 : Int) = -1 ∧ 6 < n - s) from fun q => z6 q.2)] at q12
          rw [q12, if_neg (show ¬ (-1 : Int) = (s : Int) + 6 by omega)]
          exact ⟨M1, rfl, f1, dn M1 q3 q4 q5 q7 q12⟩
    · rw [if_pos (⟨rfl, by omega⟩ : (-1 : Int) = -1 ∧ 6 < n - s)] at q12
      rw [if_pos (show (8 : Int) < ((n - s : Nat) : Int) by omega), if_neg (show ¬ (n - s ≤ 8 ∧ ownX (w5 T (s : Int) (n - s)) ≠ -1) from fun q => z8 q.1), if_pos (show 6 < n - s by omega)]
      exact ⟨M1, rfl, f1, q4, q5, fun _ => ⟨q12.trans (by show (s : Int) + 6 = ((s + 6 : Nat) : Int); omega), by rw [q3]; decide⟩, fun h => absurd rfl h, fun h => absurd (show (5 : Int) = 0 from h) (by decide), fun h => absurd (show (5 : Int) = 1 ∨ (5 : Int) = 6 from h) (by decide), fun h => absurd (show (5 : Int) = 2 from h) (by decide), fun h => absurd (show (5 : Int) = 3 from h) (by decide), fun h => absurd (show (5 : Int) = 4 from h) (by decide)⟩
theorem m135 {M : AwM} {T : Int → Int} {L s : Nat} {g : Bool} (hl : LAY M) (hT : MTp M T L) (hs : s < L) (h4 : M 167 4 = (s : Int)) (h12 : M 167 12 = if g = true then (s : Int) else -1) (hg : g = true → isL (T (s : Int)) = true ∨ isD (T (s : Int)) = true) : ∃ M', fX9_ahead_J135 SH M 167 (s : Int) (bi (isL (T (s : Int)))) (bi (isD (T (s : Int)))) = some M' ∧ maf M' M ∧ MTK M' (tkA T L s g) := by
  have hL := hT.2.1
  unfold fX9_ahead_J135
  rw [kd167, gd_t rfl, bd_1, bd_1, bd_1, w32_s (v := (s : Int) + 1) (by omega) (by omega), bd_1]
  have f1 : maf (up_ (up_ (up_ (up_ M 167 6 0) 167 7 0) 167 3 3) 167 5 ((s : Int) + 1)) M := maf_tr (maf_tr (maf_tr (maf_up (by omega)) (maf_up (by omega))) (maf_up (by omega))) (maf_up (by omega))
  have q6 : up_ (up_ (up_ (up_ M 167 6 0) 167 7 0) 167 3 3) 167 5 ((s : Int) + 1) 167 6 = 0 := by rw [up_oi (by decide), up_oi (by decide), up_oi (by decide), up_at]
  have q7 : up_ (up_ (up_ (up_ M 167 6 0) 167 7 0) 167 3 3) 167 5 ((s : Int) + 1) 167 7 = 0 := by rw [up_oi (by decide), up_oi (by decide), up_at]
  have q3 : up_ (up_ (up_ (up_ M 167 6 0) 167 7 0) 167 3 3) 167 5 ((s : Int) + 1) 167 3 = 3 := by rw [up_oi (by decide), up_at]
  have q5 : up_ (up_ (up_ (up_ M 167 6 0) 167 7 0) 167 3 3) 167 5 ((s : Int) + 1) 167 5 = (s : Int) + 1 := up_at
  have q4 : up_ (up_ (up_ (up_ M 167 6 0) 167 7 0) 167 3 3) 167 5 ((s : Int) + 1) 167 4 = (s : Int) := by rw [up_oi (by decide), up_oi (by decide), up_oi (by decide), up_oi (by decide)]; exact h4
  have q12 : up_ (up_ (up_ (up_ M 167 6 0) 167 7 0) 167 3 3) 167 5 ((s : Int) + 1) 167 12 = if g = true then (s : Int) else -1 := by rw [up_oi (by decide), up_oi (by decide), up_oi (by decide), up_oi (by decide)]; exact h12
  generalize up_ (up_ (up_ (up_ M 167 6 0) 167 7 0) 167 3 3) 167 5 ((s : Int) + 1) = M1 at *
  have l1 := LAY_ma hl f1
  have T1 := MTp_ma hT f1
  have c0 : (if g = true then (s : Int) else -1) = -1 ∨ (if g = true then (s : Int) else -1) = (s : Int) := by
    by_cases z : g = true
    · rw [if_pos z]; exact Or.inr rfl
    · rw [if_neg z]; exact Or.inl rfl
  unfold tkA
  rw [if_neg (show ¬ L ≤ s by omega), bi_if]
  by_cases zl : isL (T (s : Int)) = true
  · have f2 : maf (up_ M1 167 3 1) M := maf_tr f1 (maf_up (by omega))
    have l2 := LAY_ma hl f2
    obtain ⟨M2, e2, p7, p12, pf⟩ := mwl_n l2 (MTp_ma hT f2) hs ((up_oi (by decide)).trans q7) ((up_oi (by decide)).trans q12) c0
    have f3 : maf M2 (up_ M1 167 3 1) := fun a i p => pf a i (by omega)
    have nb := (rnE_p isL T L s)
    have nb2 := nb.2.1 (by omega)
    have ll := rnL_l (T := T) (L := L) (s := s)
    obtain ⟨M3, e3, f4, t4⟩ := m334 (L := L) (LAY_ma l2 f3) ⟨nb.1, by omega⟩ ll ((pf _ _ (by omega)).trans up_at) ((pf _ _ (by omega)).trans ((up_oi (by decide)).trans q4)) p7 p12
    refine ⟨M3, ?_, maf_tr f2 (maf_tr f3 f4), ?_⟩
    · rw [if_pos zl]
      unfold fX9_ahead_J176 fX9_ahead_J186
      rw [zl, LD zl, show bi true = 1 from rfl, show bi false = 0 from rfl, if_neg (show ¬ (1 : Int) = 0 by decide), kd167, gd_t rfl, bd_1, if_neg (show ¬ (1 : Int) = 0 by decide), e2, pb_1, u3_1]
      exact e3
    · rw [if_pos zl]; exact t4
  · rw [if_neg zl, if_neg zl, bi_if]
    by_cases zd : isD (T (s : Int)) = true
    · have f2 : maf (up_ M1 167 3 2) M := maf_tr f1 (maf_up (by omega))
      have l2 := LAY_ma hl f2
      obtain ⟨M2, e2, p6, p12, pf⟩ := mdl_n l2 (MTp_ma hT f2) hs ((up_oi (by decide)).trans q6) ((up_oi (by decide)).trans q12) c0
      have f3 : maf M2 (up_ M1 167 3 2) := fun a i p => pf a i (by omega)
      have r4 : up_ M2 167 5 ((rnE isD T L s : Nat) : Int) 167 4 = (s : Int) := (up_oi (by decide)).trans ((pf _ _ (by omega)).trans ((up_oi (by decide)).trans q4))
      have r3 : up_ M2 167 5 ((rnE isD T L s : Nat) : Int) 167 3 = 2 := (up_oi (by decide)).trans ((pf _ _ (by omega)).trans up_at)
      have r5 : up_ M2 167 5 ((rnE isD T L s : Nat) : Int) 167 5 = ((rnE isD T L s : Nat) : Int) := up_at
      have r6 : up_ M2 167 5 ((rnE isD T L s : Nat) : Int) 167 6 = _ := (up_oi (by decide)).trans p6
      have r12 : up_ M2 167 5 ((rnE isD T L s : Nat) : Int) 167 12 = _ := (up_oi (by decide)).trans p12
      refine ⟨up_ M2 167 5 ((rnE isD T L s : Nat) : Int), ?_, maf_tr f2 (maf_tr f3 (maf_up (by omega))), ?_⟩
      · rw [if_pos zd]
        unfold fX9_ahead_J176 fX9_ahead_J186 fX9_ahead_J334
        rw [zd, bf zl, show bi true = 1 from rfl, show bi false = 0 from rfl, if_pos (show (0 : Int) = 0 from rfl), kd167, gd_t rfl, bd_1, if_pos (show (0 : Int) = 0 from rfl), e2, pb_1, u3_1, gd_t rfl, bd_1, if_pos (show (0 : Int) = 0 from rfl)]
      · rw [if_pos zd]
        generalize up_ M2 167 5 ((rnE isD T L s : Nat) : Int) = M3 at *
        generalize rnE isD T L s = n at *
        unfold tkN
        have bad : ∀ pl : Nat, M3 167 12 = (pl : Int) → MTK M3 (5, 0, s, pl, n) := fun pl h => ⟨r4, r5, fun _ => ⟨h, by rw [r3]; decide⟩, fun h => absurd rfl h, fun h => absurd (show (5 : Int) = 0 from h) (by decide), fun h => absurd (show (5 : Int) = 1 ∨ (5 : Int) = 6 from h) (by decide), fun h => absurd (show (5 : Int) = 2 from h) (by decide), fun h => absurd (show (5 : Int) = 3 from h) (by decide), fun h => absurd (show (5 : Int) = 4 from h) (by decide)⟩
        by_cases zg : g = true
        · rw [if_pos zg, if_neg (fun q => by have := q.1; omega)] at r12
          rw [if_pos zg]
          exact bad s r12
        · rw [if_neg zg] at r12
          rw [if_neg zg]
          by_cases z4 : 4 < n - s
          · rw [if_pos (⟨rfl, z4⟩ : (-1 : Int) = -1 ∧ 4 < n - s)] at r12
            rw [if_pos z4]
            exact bad (s + 4) (by rw [r12]; omega)
          · rw [if_neg (show ¬ ((-1 : Int) = -1 ∧ 4 < n - s) from fun q => z4 q.2)] at r12
            rw [if_neg z4]
            rw [show min (n - s) 4 = n - s by omega] at r6
            exact ⟨r4, r5, fun h => absurd (show (2 : Int) = 5 from h) (by decide), fun _ => r12, fun h => absurd (show (2 : Int) = 0 from h) (by decide), fun h => absurd (show (2 : Int) = 1 ∨ (2 : Int) = 6 from h) (by decide), fun _ => ⟨r3, r6⟩, fun h => absurd (show (2 : Int) = 3 from h) (by decide), fun h => absurd (show (2 : Int) = 4 from h) (by decide)⟩
    · have zg : ¬ g = true := fun q => (hg q).elim zl zd
      rw [if_neg zg] at q12
      rw [if_neg zd, if_neg zd]
      rw [ly167_0 l1, kd168, ga_t (by omega) (by omega), (T1.2.2 _ (by omega) (by omega)).2, bd_1]
      refine ⟨_, rfl, maf_tr f1 (maf_up (by omega)), ?_⟩
      have s4 : up_ M1 167 6 (T (s : Int)) 167 4 = (s : Int) := (up_oi (by decide)).trans q4
      have s5 : up_ M1 167 6 (T (s : Int)) 167 5 = ((s + 1 : Nat) : Int) := ((up_oi (by decide)).trans q5).trans (by omega)
      have s3 : up_ M1 167 6 (T (s : Int)) 167 3 = 3 := (up_oi (by decide)).trans q3
      have s12 : up_ M1 167 6 (T (s : Int)) 167 12 = -1 := (up_oi (by decide)).trans q12
      unfold tkC
      by_cases zm : T (s : Int) ∈ sgL
      · rw [if_pos zm]
        exact ⟨s4, s5, fun h => absurd (show (1 : Int) = 5 from h) (by decide), fun _ => s12, fun h => absurd (show (1 : Int) = 0 from h) (by decide), fun _ => ⟨s3, up_at⟩, fun h => absurd (show (1 : Int) = 2 from h) (by decide), fun h => absurd (show (1 : Int) = 3 from h) (by decide), fun h => absurd (show (1 : Int) = 4 from h) (by decide)⟩
      · rw [if_neg zm]
        exact ⟨s4, s5, fun h => absurd (show (6 : Int) = 5 from h) (by decide), fun _ => s12, fun h => absurd (show (6 : Int) = 0 from h) (by decide), fun _ => ⟨s3, up_at⟩, fun h => absurd (show (6 : Int) = 2 from h) (by decide), fun h => absurd (show (6 : Int) = 3 from h) (by decide), fun h => absurd (show (6 : Int) = 4 from h) (by decide)⟩
/-- a letter or a digit stands right ahead -/
def gld (T : Int → Int) (s : Nat) : Bool := decide (0 < s) && (isL (T ((s : Int) - 1)) || isD (T ((s : Int) - 1)))
theorem m98 {M : AwM} {T : Int → Int} {L s : Nat} (hl : LAY M) (hT : MTp M T L) (hs : s ≤ L) {v2 v3 : Int} : fX9_ahead_J98 SH M 167 (s : Int) v2 v3 = fX9_ahead_J135 SH (if gld T s = true then up_ M 167 12 (s : Int) else M) 167 (s : Int) v2 v3 := by
  have hL := hT.2.1
  unfold fX9_ahead_J98 fX9_ahead_J130 gld
  by_cases z : 0 < s
  · rw [if_pos (show (0 : Int) < (s : Int) by omega), kd167, gd_t rfl, ly167_0 hl, kd168, w32_s (v := (s : Int) - 1) (by omega) (by omega), ga_t (by omega) (by omega), (hT.2.2 _ (by omega) (by omega)).2, mlet_n, pb_1, u1_1, bi_if, mdig_n, pb_1, u1_1, bi_if, decide_eq_true z, Bool.true_and, gd_t rfl, bd_1]
    cases isL (T ((s : Int) - 1)) <;> cases isD (T ((s : Int) - 1)) <;> rfl
  · rw [if_neg (show ¬ (0 : Int) < (s : Int) by omega), decide_eq_false z, Bool.false_and, if_neg (by decide)]
theorem mahd_n {M : AwM} {T : Int → Int} {L e : Nat} {gl : Bool} (hl : LAY M) (hT : MTp M T L) (he : e ≤ L) (h5 : M 167 5 = (e : Int)) (hg : gl = gld T e) : ∃ M', fX9_ahead SH M 167 = some M' ∧ maf M' M ∧ MTK M' (tok T L e gl) := by
  have hL := hT.2.1
  obtain ⟨a1, a2, a3, a4⟩ := rnE_p isB T L e
  have a2 := a2 he
  have sk := mskip_n hl hT he
  have gg : (gl && decide (rnE isB T L e = e)) = gld T (rnE isB T L e) := by
    by_cases z : rnE isB T L e = e
    · rw [z, decide_eq_true rfl, Bool.and_true, hg]
    · rw [decide_eq_false z, Bool.and_false]
      have b := a3 (rnE isB T L e - 1) (by omega) (by omega)
      rw [show ((rnE isB T L e - 1 : Nat) : Int) = ((rnE isB T L e : Nat) : Int) - 1 by omega] at b
      have b' := isB_t.mp b
      unfold gld
      rw [bf (fun q => by have := isL_t.mp q; omega : ¬ isL (T (((rnE isB T L e : Nat) : Int) - 1)) = true), bf (fun q => by have := isD_t.mp q; omega : ¬ isD (T (((rnE isB T L e : Nat) : Int) - 1)) = true)]
      simp
  unfold tok
  rw [gg]
  unfold fX9_ahead
  rw [kd167, gd_t rfl, h5, sk, pb_1, u1_1]
  generalize rnE isB T L e = s at *
  unfold fX9_ahead_J41
  rw [kd167, gd_t rfl, bd_1, bd_1, bd_1, bd_1]
  have f1 : maf (up_ (up_ (up_ (up_ M 167 4 (s : Int)) 167 5 (s : Int)) 167 3 0) 167 12 (-1)) M := maf_tr (maf_tr (maf_tr (maf_up (by omega)) (maf_up (by omega))) (maf_up (by omega))) (maf_up (by omega))
  have q4 : up_ (up_ (up_ (up_ M 167 4 (s : Int)) 167 5 (s : Int)) 167 3 0) 167 12 (-1) 167 4 = (s : Int) := by rw [up_oi (by decide), up_oi (by decide), up_oi (by decide), up_at]
  have q5 : up_ (up_ (up_ (up_ M 167 4 (s : Int)) 167 5 (s : Int)) 167 3 0) 167 12 (-1) 167 5 = (s : Int) := by rw [up_oi (by decide), up_oi (by decide), up_at]
  have q3 : up_ (up_ (up_ (up_ M 167 4 (s : Int)) 167 5 (s : Int)) 167 3 0) 167 12 (-1) 167 3 = 0 := by rw [up_oi (by decide), up_at]
  have q12 : up_ (up_ (up_ (up_ M 167 4 (s : Int)) 167 5 (s : Int)) 167 3 0) 167 12 (-1) 167 12 = -1 := up_at
  generalize up_ (up_ (up_ (up_ M 167 4 (s : Int)) 167 5 (s : Int)) 167 3 0) 167 12 (-1) = M1 at *
  have l1 := LAY_ma hl f1
  have T1 := MTp_ma hT f1
  rw [T1.1.1]
  by_cases z : s < L
  · rw [if_pos (by omega), ly167_0 l1, kd168, ga_t (by omega) (by omega), (T1.2.2 _ (by omega) (by omega)).2, mlet_n, pb_1, u1_1, mdig_n, pb_1, u1_1, bi_if, bi_if]
    by_cases za : isL (T (s : Int)) = true ∨ isD (T (s : Int)) = true
    · have j98 : (if isL (T (s : Int)) = true then fX9_ahead_J98 SH M1 167 (s : Int) (bi (isL (T (s : Int)))) (bi (isD (T (s : Int)))) else if isD (T (s : Int)) = true then fX9_ahead_J98 SH M1 167 (s : Int) (bi (isL (T (s : Int)))) (bi (isD (T (s : Int)))) else fX9_ahead_J135 SH M1 167 (s : Int) (bi (isL (T (s : Int)))) (bi (isD (T (s : Int))))) = fX9_ahead_J98 SH M1 167 (s : Int) (bi (isL (T (s : Int)))) (bi (isD (T (s : Int)))) := by
        by_cases zl : isL (T (s : Int)) = true
        · rw [if_pos zl]
        · rw [if_neg zl, if_pos (za.resolve_left zl)]
      rw [j98, m98 l1 T1 a2]
      by_cases zg : gld T s = true
      · have f2 : maf (up_ M1 167 12 (s : Int)) M := maf_tr f1 (maf_up (by omega))
        obtain ⟨M2, e2, f3, t3⟩ := m135 (g := gld T s) (LAY_ma hl f2) (MTp_ma hT f2) z ((up_oi (by decide)).trans q4) (by rw [up_at, if_pos zg]) (fun _ => za)
        rw [if_pos zg]
        exact ⟨M2, e2, maf_tr f2 f3, t3⟩
      · obtain ⟨M2, e2, f3, t3⟩ := m135 (g := gld T s) l1 T1 z q4 (by rw [q12, if_neg zg]) (fun _ => za)
        rw [if_neg zg]
        exact ⟨M2, e2, maf_tr f1 f3, t3⟩
    · have zl : ¬ isL (T (s : Int)) = true := fun q => za (Or.inl q)
      have zd : ¬ isD (T (s : Int)) = true := fun q => za (Or.inr q)
      have tg : tkA T L s (gld T s) = tkA T L s false := by
        unfold tkA
        rw [if_neg (show ¬ L ≤ s by omega), if_neg zl, if_neg zd, if_neg (show ¬ L ≤ s by omega), if_neg zl, if_neg zd]
      obtain ⟨M2, e2, f3, t3⟩ := m135 (g := false) l1 T1 z q4 (by rw [q12, if_neg (by decide)]) (fun q => absurd q (by decide))
      rw [if_neg zl, if_neg zd, tg]
      exact ⟨M2, e2, maf_tr f1 f3, t3⟩
  · rw [if_neg (by omega)]
    unfold tkA
    rw [if_pos (show L ≤ s by omega)]
    exact ⟨M1, rfl, f1, q4, q5, fun h => absurd (show (0 : Int) = 5 from h) (by decide), fun _ => q12, fun _ => q3, fun h => absurd (show (0 : Int) = 1 ∨ (0 : Int) = 6 from h) (by decide), fun h => absurd (show (0 : Int) = 2 from h) (by decide), fun h => absurd (show (0 : Int) = 3 from h) (by decide), fun h => absurd (show (0 : Int) = 4 from h) (by decide)⟩
/-- on from a token that can stand -/
theorem glu_g {T : Int → Int} {L : Nat} {x : Tk} (h : TkOK T L x) (hk : 1 ≤ x.1 ∧ x.1 ≤ 4) : glu x.1 = gld T x.2.2.2.2 := by
  obtain ⟨k, e, lt, z, pl, s1, s2, s3, s4, s6⟩ := h
  have lt := lt (by omega)
  unfold gld glu
  rw [decide_eq_true (show 0 < x.2.2.2.2 by omega), Bool.true_and]
  rcases (show x.1 = 1 ∨ x.1 = 2 ∨ x.1 = 3 ∨ x.1 = 4 by omega) with q | q | q | q
  · rw [decide_eq_false (by omega), (s1 q).2.1, (s1 q).2.2]; rfl
  · rw [decide_eq_true (by omega), (s2 q).2]; simp
  · rw [decide_eq_true (by omega), (s3 q).2]; simp
  · rw [decide_eq_true (by omega), (s4 q).2]; simp
theorem mnext_n {M : AwM} {T : Int → Int} {L i : Nat} (hl : LAY M) (hT : MTp M T L) (h : MTK M (tks T L i)) (hk : 1 ≤ (tks T L i).1 ∧ (tks T L i).1 ≤ 4) : ∃ M', fX9_ahead SH M 167 = some M' ∧ maf M' M ∧ MTK M' (tks T L (i + 1)) :=
  mahd_n hl hT (tks_ok T L i).2.1.2 h.2.1 (glu_g (tks_ok T L i) hk)
theorem mfirst_n {M : AwM} {T : Int → Int} {L : Nat} (hl : LAY M) (hT : MTp M T L) (h5 : M 167 5 = 0) : ∃ M', fX9_ahead SH M 167 = some M' ∧ maf M' M ∧ MTK M' (tks T L 0) :=
  mahd_n (e := 0) (gl := false) hl hT (Nat.zero_le _) h5 rfl
end PAH3
