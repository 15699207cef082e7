/-! the run of the search; the model's -/
section PRUN
def stQ (d : AwM) (c : Int) : Int × Int × Int × Int := (d 1 c, d 2 c, -1, 0)
def rnQ (s d : AwM) (c : Int) : Nat → List (Int × Int × Int × Int)
  | 0 => rchQ [] (stQ d c)
  | j + 1 => match (rnQ s d c j)[j]? with
    | none => rnQ s d c j
    | some x => goQ (rnQ s d c j) s d c x.1 x.2.1
theorem rnQ_s {s d : AwM} {c : Int} {j : Nat} {x : Int × Int × Int × Int} (h : (rnQ s d c j)[j]? = some x) : rnQ s d c (j + 1) = goQ (rnQ s d c j) s d c x.1 x.2.1 := by
  show (match (rnQ s d c j)[j]? with
    | none => rnQ s d c j
    | some x => goQ (rnQ s d c j) s d c x.1 x.2.1) = _
  rw [h]
def QW (l : List (Int × Int × Int × Int)) : Prop := ∀ x ∈ l, hb x.2.1 x.1 = true
theorem QW_rch {l : List (Int × Int × Int × Int)} (h : QW l) {x : Int × Int × Int × Int} (hx : hb x.2.1 x.1 = true) : QW (rchQ l x) := by
  unfold rchQ
  by_cases e : inQ l x.1 x.2.1 = true
  · rw [if_pos e]; exact h
  · rw [if_neg e]
    intro y hy
    rcases List.mem_append.mp hy with a | a
    · exact h y a
    · rw [List.mem_singleton.mp a]; exact hx
theorem QW_pay {l : List (Int × Int × Int × Int)} {w m : Int} (h : QW l) : ∀ t : Nat, QW (payQ l w m t)
  | 0 => h
  | t + 1 => by
    unfold payQ
    by_cases c : ¬ (t : Int) = w ∧ hb m (t : Int) = true
    · rw [if_pos c]; exact QW_rch (QW_pay h t) c.2
    · rw [if_neg c]; exact QW_pay h t
theorem QW_pre {l : List (Int × Int × Int × Int)} {s d : AwM} {c w m : Int} (h : QW l) (w0 : 0 ≤ w) (hw : hb m w = true) : ∀ t : Nat, QW (preQ l s d c w m t)
  | 0 => h
  | t + 1 => by
    unfold preQ
    by_cases z : (hb m (t : Int) || hb (d 3 c) (t : Int)) = false ∧ tst s d c w (t : Int) (pc m) (cnH s d c w) = true
    · rw [if_pos z]
      refine QW_rch (QW_pre h w0 hw t) ?_
      show hb (stb m (t : Int)) w = true
      rw [hb_stb (by omega) w0, hw]
      rfl
    · rw [if_neg z]; exact QW_pre h w0 hw t
theorem st_nd {s d : AwM} (hl : LdOK s d) {c : Int} (c0 : 0 ≤ c) (c1 : c < s 0 1) : NdOK (s 0 0) (stQ d c) := ⟨hl.ho c c0 c1, hl.kn c c0 c1, Or.inl rfl⟩
theorem rnQ_ok {s d : AwM} (ho : SoOK s) (hl : LdOK s d) {c : Int} (c0 : 0 ≤ c) (c1 : c < s 0 1) : ∀ j : Nat, QOK (s 0 0) (rnQ s d c j) ∧ QW (rnQ s d c j)
  | 0 => ⟨(QOK_rch ho.p (QOK_0 _) (st_nd hl c0 c1)).1, QW_rch (fun x hx => absurd hx (List.not_mem_nil)) (hl.kh c c0 c1)⟩
  | j + 1 => by
    have hP := ho.p
    obtain ⟨a, b⟩ := rnQ_ok ho hl c0 c1 j
    cases e : (rnQ s d c j)[j]? with
    | none =>
      have : rnQ s d c (j + 1) = rnQ s d c j := by
        show (match (rnQ s d c j)[j]? with
          | none => rnQ s d c j
          | some x => goQ (rnQ s d c j) s d c x.1 x.2.1) = _
        rw [e]
      rw [this]
      exact ⟨a, b⟩
    | some x =>
      have xm := List.mem_of_getElem? e
      have nd := a.1 x xm
      have bx := b x xm
      rw [rnQ_s e]
      unfold goQ
      exact ⟨preQ_ok hP nd.1 nd.2.1 (payQ_ok hP nd.1 nd.2.1 a _ (by omega)) _ (by omega), QW_pre (QW_pay b _) nd.1.1 bx _⟩
theorem QOK_len {P : Int} {l : List (Int × Int × Int × Int)} (h : QOK P l) : l.length ≤ 10240 := by
  have := accS_b (f := fun i => bi (inC l i)) (lo := 0) (hi := 1) 10240 (fun c _ _ => by
    show 0 ≤ bi _ ∧ bi _ ≤ 1
    cases inC l c <;> decide)
  have := h.2
  omega
/-- all before are gone on from -/
def PR (s d : AwM) (c p : Int) (j : Nat) : Prop := ∀ i : Nat, i < j → ∃ y, (rnQ s d c i)[i]? = some y ∧ y.1 ≠ p
theorem mfind_n {M : AwM} {b : Int} {s d : AwM} (g : MM M b 0 s d) {c p : Int} (c0 : 0 ≤ c) (c1 : c < s 0 1) : ∃ (M' : AwM) (j : Nat) (r : Int), fX9_findsState SH M 167 c p = some (r, M') ∧ mw2 M' M ∧ MQu M' (s 0 0) (rnQ s d c j) ∧ PR s d c p j ∧ ((r = -1 ∧ (rnQ s d c j).length ≤ j) ∨ ∃ y, (rnQ s d c j)[j]? = some y ∧ y.1 = p ∧ r = cdM y.1 y.2.1) := by
  have hP := g.ok.p
  have hc := g.ok.c
  have hbb := g.b01
  have k1 := lp_rel (body := u2 (fX9_findsState_L2 SH 167 c p)) (P := fun j (t : Int × AwM) => t.1 = (j : Int) ∧ (∀ i : Int, 0 ≤ i → i < j → t.2 204 i = -1) ∧ mw2 t.2 M) (X := fun r : AwM => (∀ i : Int, 0 ≤ i → i < 10240 → r 204 i = -1) ∧ mw2 r M) (n := 10240) ?_ FU (0, M) (FU_gt (by omega)) ⟨rfl, fun i a b => by omega, mw2_rf⟩
  · obtain ⟨M1, e1, v1, f1⟩ := k1
    have g1 := MM_m2 g f1
    have f2 : mw2 (up_ M1 167 66 0) M := fun a i x y z w => (up_nn (fun q => y q)).trans (f1 a i x y z w)
    have g2 := MM_m2 g f2
    have q2 : MQu (up_ M1 167 66 0) (s 0 0) [] := by
      refine ⟨up_at, fun k x hx => by simp at hx, fun x hx => absurd hx (List.not_mem_nil), fun w m w0 w1 hm _ => ?_⟩
      have nb := nd_b hP (x := (w, m, -1, 0)) ⟨⟨w0, w1⟩, hm, Or.inl rfl⟩
      rw [up_of (by decide)]
      exact v1 _ nb.1 nb.2.1
    have sn := st_nd g.ld c0 c1
    obtain ⟨M3, e3, q3, f3⟩ := mreach_n g2.lay hP (QOK_0 _) q2 sn
    have g3 := MM_mw g2 f3
    have k2 := lp_rel (body := u2 (fX9_findsState_L49 SH 167 c p)) (P := fun j (t : Int × AwM) => t.1 = (j : Int) ∧ MQu t.2 (s 0 0) (rnQ s d c j) ∧ mw2 t.2 M ∧ PR s d c p j) (X := fun r : AwM ⊕ (Int × AwM) => ∃ (M' : AwM) (j : Nat), mw2 M' M ∧ MQu M' (s 0 0) (rnQ s d c j) ∧ PR s d c p j ∧ ((r = .inl M' ∧ (rnQ s d c j).length ≤ j) ∨ ∃ y, (rnQ s d c j)[j]? = some y ∧ y.1 = p ∧ r = .inr ((j : Int), M'))) (n := 10240) ?_ FU (0, M3) (FU_gt (by omega)) ⟨rfl, q3, mw2_tr f2 (mwf_2 f3), fun i hi => by omega⟩
    · obtain ⟨r, e4, M', j, f4, q4, pr, hr⟩ := k2
      have hM198 : up_ M1 167 66 0 198 c = d 1 c := by have := g2.ho c0 c1; rwa [show 12 * (0 : Int) + c = c by omega] at this
      have hM199 : up_ M1 167 66 0 199 c = d 2 c := by have := g2.kn c0 c1; rwa [show 12 * (0 : Int) + c = c by omega] at this
      have start : fX9_findsState SH M 167 c p = pb (some r) (Sum.elim (u1 (fun (tq20 : AwM) => some ((-1), tq20))) (u2 (fun (x21 : Int) (M22 : AwM) => gd_ ((kd_ SH (M22 167 65)).1 = 1 ∧ (0 : Int) ≤ x21 ∧ x21 < ((kd_ SH (M22 167 65)).2 : Int)) (some ((M22 (M22 167 65) x21), M22))))) := by
        unfold fX9_findsState
        rw [e1, pb_1, u1_1, kd167, gd_t rfl, bd_1, ly167_49 g2.lay, kd198, ga_t c0 (by omega), ly167_50 g2.lay, kd199, ga_t c0 (by omega), hM198, hM199, show fX9_reaches SH (up_ M1 167 66 0) 167 (d 1 c) (d 2 c) (-1) 100000000 = some M3 from e3, pb_1, u1_1, e4]
      rcases hr with ⟨rfl, hn⟩ | ⟨y, hy, yp, rfl⟩
      · exact ⟨M', j, -1, start, f4, q4, pr, Or.inl ⟨rfl, hn⟩⟩
      · have jl : j < (rnQ s d c j).length := (List.getElem?_eq_some_iff.mp hy).1
        have le := QOK_len (rnQ_ok g.ok g.ld c0 c1 j).1
        have l4 := LAY_m2 g.lay f4
        refine ⟨M', j, cdM y.1 y.2.1, ?_, f4, q4, pr, Or.inr ⟨y, hy, yp, rfl⟩⟩
        rw [start, pb_1]
        show gd_ ((kd_ SH (M' 167 65)).1 = 1 ∧ (0 : Int) ≤ (j : Int) ∧ (j : Int) < ((kd_ SH (M' 167 65)).2 : Int)) (some ((M' (M' 167 65) (j : Int)), M')) = _
        rw [ly167_65 l4, kd205, ga_t (by omega) (by omega), q4.2.1 j y hy]
    · rintro j ⟨i, M5⟩ hj ⟨hi, q5, f5, pr⟩
      change i = (j : Int) at hi
      change MQu M5 _ _ at q5
      change mw2 M5 M at f5
      subst hi
      have g5 := MM_m2 g f5
      have le := QOK_len (rnQ_ok g.ok g.ld c0 c1 j).1
      rw [u2_1]
      unfold fX9_findsState_L49
      rw [kd167, gd_t rfl, q5.1]
      by_cases hjn : j < (rnQ s d c j).length
      · have hy : (rnQ s d c j)[j]? = some (rnQ s d c j)[j] := List.getElem?_eq_getElem hjn
        generalize (rnQ s d c j)[j] = y at hy
        have ok := rnQ_ok g.ok g.ld c0 c1 j
        have ym := List.mem_of_getElem? hy
        have nd := ok.1.1 y ym
        have nb := nd_b hP nd
        have nd1 := nd.1
        obtain ⟨t1, t2⟩ := cdM_d nd.1.1 nb.2.2.1 nb.2.2.2
        rw [if_pos (by omega), ly167_65 g5.lay, kd205, ga_t (by omega) (by omega), q5.2.1 j y hy, t1, w32_s (v := y.1) (by omega) (by omega)]
        by_cases yp : y.1 = p
        · rw [if_pos yp]
          exact Or.inr ⟨_, rfl, M5, j, f5, q5, pr, Or.inr ⟨y, hy, yp, rfl⟩⟩
        · obtain ⟨M6, e6, q6, f6⟩ := goM_n g5 c0 c1 ok.1 q5 nd.1 nd.2.1 (ok.2 y ym)
          rw [if_neg yp, e6, pb_1, u1_1, w32_s (v := (j : Int) + 1) (by omega) (by omega)]
          refine Or.inl ⟨by omega, _, rfl, by simp, ?_, mw2_tr f5 f6, fun i hi => ?_⟩
          · rw [rnQ_s hy]; exact q6
          · by_cases e : i = j
            · subst e; exact ⟨y, hy, yp⟩
            · exact pr i (by omega)
      · rw [if_neg (by omega)]
        exact Or.inr ⟨_, rfl, M5, j, f5, q5, pr, Or.inl ⟨rfl, by omega⟩⟩
  · rintro j ⟨i, M3⟩ hj ⟨hi, v3, f3⟩
    change i = (j : Int) at hi
    change ∀ i : Int, 0 ≤ i → i < j → M3 204 i = -1 at v3
    change mw2 M3 M at f3
    subst hi
    have g3 := MM_m2 g f3
    rw [u2_1]
    unfold fX9_findsState_L2
    by_cases hjn : j < 10240
    · rw [if_pos (by omega), kd167, gd_t rfl, ly167_64 g3.lay, kd204, ga_t (by omega) (by omega), bd_1, w32_s (v := (j : Int) + 1) (by omega) (by omega)]
      refine Or.inl ⟨hjn, _, rfl, by simp, fun i i0 i1 => ?_, fun a i x y z w => (up_of (by omega)).trans (f3 a i x y z w)⟩
      show up_ M3 204 (j : Int) (-1) 204 i = -1
      by_cases e : i = (j : Int)
      · rw [e, up_at]
      · rw [up_oi e]; exact v3 i i0 (by omega)
    · rw [if_neg (by omega)]
      exact Or.inr ⟨M3, rfl, fun i i0 i1 => v3 i i0 (by omega), f3⟩
end PRUN
