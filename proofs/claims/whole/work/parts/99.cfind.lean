/-! the run of the search, the class's -/
section PCFI
/-- all before are gone on from without the wanted one -/
def PC (s d : AwM) (c p : Int) (j : Nat) : Prop := ∀ i : Nat, i < j → ∃ y, (rnQ s d c i)[i]? = some y ∧ hb y.2.1 p = false
def FD (s d : AwM) (c p : Int) (j : Nat) (y : Int × Int × Int × Int) : Prop := (rnQ s d c j)[j]? = some y ∧ hb y.2.1 p = true ∧ PC s d c p j
theorem cfind_n {M : AwM} {so : Int} {s d : AwM} (g : CC M 153 so s d) {c p : Int} (c0 : 0 ≤ c) (c1 : c < s 0 1) (p0 : 0 ≤ p) (p1 : p < s 0 0) (h : CQ M (s 0 0) (rnQ s d c 0)) (hM : MEM M s d c) : ∃ (r : Int) (M' : AwM), lp (u3 (fX7_find_L60 SH 128 153 c p)) FU (-1, 0, M) = some (r, M') ∧ wf2 so M' M ∧ ((r = -1 ∧ ∃ j, PC s d c p j ∧ (rnQ s d c j).length ≤ j) ∨ ∃ j y, FD s d c p j y ∧ r = cdC (s 0 0) p y.2.1 ∧ CQ M' (s 0 0) (rchQ (rnQ s d c j) (p, y.2.1, y.1, p))) := by
  have hP := g.ok.p
  have hso := g.hso
  have key := lp_rel (body := u3 (fX7_find_L60 SH 128 153 c p)) (P := fun j (t : Int × Int × AwM) => t.2.1 = (j : Int) ∧ wf2 so t.2.2 M ∧ ((t.1 = -1 ∧ CQ t.2.2 (s 0 0) (rnQ s d c j) ∧ MEM t.2.2 s d c ∧ PC s d c p j) ∨ ∃ i y, FD s d c p i y ∧ t.1 = cdC (s 0 0) p y.2.1 ∧ CQ t.2.2 (s 0 0) (rchQ (rnQ s d c i) (p, y.2.1, y.1, p)))) (X := fun r : Int × AwM => wf2 so r.2 M ∧ ((r.1 = -1 ∧ ∃ j, PC s d c p j ∧ (rnQ s d c j).length ≤ j) ∨ ∃ j y, FD s d c p j y ∧ r.1 = cdC (s 0 0) p y.2.1 ∧ CQ r.2 (s 0 0) (rchQ (rnQ s d c j) (p, y.2.1, y.1, p)))) (n := 10241) ?_ FU (-1, 0, M) (FU_gt (by omega)) ⟨rfl, wf2_rf, Or.inl ⟨rfl, h, hM, fun i hi => by omega⟩⟩
  · obtain ⟨⟨r, M'⟩, e, f, hr⟩ := key
    exact ⟨r, M', e, f, hr⟩
  · rintro j ⟨a, i, M3⟩ hj ⟨hi, f3, hs⟩
    change i = (j : Int) at hi
    change wf2 so M3 M at f3
    subst hi
    have g3 := CC_w2 g f3
    rw [u3_1]
    unfold fX7_find_L60
    rw [kd128, gd_t rfl]
    rcases hs with ⟨ha, q3, m3, pr⟩ | ⟨k, y, fd, ha, q3⟩
    · change a = -1 at ha
      change CQ M3 (s 0 0) _ at q3
      change MEM M3 s d c at m3
      subst ha
      have ok := rnQ_ok g.ok g.ld c0 c1 j
      have le := QOK_len ok.1
      rw [q3.2.1]
      by_cases hjn : j < (rnQ s d c j).length
      · have hy : (rnQ s d c j)[j]? = some (rnQ s d c j)[j] := List.getElem?_eq_getElem hjn
        generalize (rnQ s d c j)[j] = y at hy
        have ym := List.mem_of_getElem? hy
        have nd := ok.1.1 y ym
        have bw := ok.2 y ym
        obtain ⟨t1, t2⟩ := cdC_d hP nd.1.1 nd.1.2 nd.2.1
        rw [if_pos (by omega), if_pos (by omega), if_pos rfl, ly128_1 g3.lay, kd130, ga_t (by omega) (by omega), q3.2.2.1 j y hy, q3.1, t1, t2, w32_s (v := (j : Int) + 1) (by omega) (by omega)]
        refine Or.inl ⟨by omega, ?_⟩
        by_cases hb' : hb y.2.1 p = true
        · obtain ⟨M4, e4, q4, f4⟩ := payT_n g3.lay hP ok.1 q3 nd.1 nd.2.1 ⟨p0, p1⟩ hb'
          have cn := (cdC_n hP p0 p1 nd.2.1).2.1
          rw [e4, pb_1, u2_1, if_neg (by omega)]
          exact ⟨_, rfl, by simp, wf2_tr f3 (wfr_2 f4), Or.inr ⟨j, y, ⟨hy, hb', pr⟩, rfl, q4⟩⟩
        · have hf : hb y.2.1 p = false := by cases q : hb y.2.1 p; rfl; exact absurd q hb'
          obtain ⟨M4, e4, q4, f4⟩ := payF_n g3.lay hP ok.1 q3 nd.1 nd.2.1 ⟨p0, p1⟩ hf
          have g4 := CC_w2 g3 (wfr_2 f4)
          have m4 : MEM M4 s d c := MEM_fr m3 (fun a i x z => f4 a i (by omega) (by omega))
          obtain ⟨M5, e5, q5, m5, f5⟩ := preF_n g4 c0 c1 (payQ_ok hP nd.1 nd.2.1 ok.1 (s 0 0).toNat (by omega)) q4 m4 nd.1 nd.2.1 bw
          rw [e4, pb_1, u2_1, if_pos rfl, e5, pb_1, u1_1]
          refine ⟨_, rfl, by simp, wf2_tr (wf2_tr f3 (wfr_2 f4)) f5, Or.inl ⟨rfl, ?_, m5, fun i hi => ?_⟩⟩
          · rw [rnQ_s hy]; exact q5
          · by_cases e : i = j
            · subst e; exact ⟨y, hy, hf⟩
            · exact pr i (by omega)
      · rw [if_neg (by omega)]
        exact Or.inr ⟨_, rfl, f3, Or.inl ⟨rfl, j, pr, by omega⟩⟩
    · change a = _ at ha
      have ok := rnQ_ok g.ok g.ld c0 c1 k
      have nd := ok.1.1 y (List.mem_of_getElem? fd.1)
      have cn := (cdC_n hP p0 p1 nd.2.1).2.1
      refine Or.inr ⟨(a, M3), ?_, f3, Or.inr ⟨k, y, fd, ha, q3⟩⟩
      by_cases z1 : (j : Int) < M3 128 2
      · rw [if_pos z1]
        by_cases z2 : (j : Int) < 10240
        · rw [if_pos z2, if_neg (by omega)]
        · rw [if_neg z2]
      · rw [if_neg z1]
end PCFI
