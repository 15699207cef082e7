/-! the class's search, before the way is told -/
section PCFN
theorem find0_n {M : AwM} {so : Int} {s d : AwM} (g : CC M 153 so s d) {c p : Int} (c0 : 0 ≤ c) (c1 : c < s 0 1) (p0 : 0 ≤ p) (p1 : p < s 0 0) : ∃ (r : Int) (M' : AwM), fX7_find SH M 128 153 c p = fX7_find_J137 SH M' 128 r ∧ wf2 so M' M ∧ ((d 1 c = p ∧ r = cdC (s 0 0) p (d 2 c) ∧ CQ M' (s 0 0) (rnQ s d c 0)) ∨ (d 1 c ≠ p ∧ ((r = -1 ∧ ∃ j, PC s d c p j ∧ (rnQ s d c j).length ≤ j) ∨ ∃ j y, FD s d c p j y ∧ r = cdC (s 0 0) p y.2.1 ∧ CQ M' (s 0 0) (rchQ (rnQ s d c j) (p, y.2.1, y.1, p))))) := by
  have hP := g.ok.p
  have hc := g.ok.c
  obtain ⟨M1, e1, q1, m1, f1⟩ := begin_n g c0 c1
  have g1 := CC_w2 g f1
  have l1 := g1.lay
  have nd := st_nd g.ld c0 c1
  obtain ⟨M2, e2, q2, f2⟩ := reach_n l1 hP (QOK_0 _) q1 nd
  have g2 := CC_w2 g1 (wfr_2 f2)
  have m2 : MEM M2 s d c := MEM_fr m1 (fun a i x y => f2 a i (by omega) (by omega))
  have ho : M1 155 c = d 1 c := g1.ho c0 c1
  have hk : M1 156 c = d 2 c := g1.kn c0 c1
  have e2' : fX7_reach SH M1 128 (d 1 c) (d 2 c) (-1) = some M2 := e2
  unfold fX7_find
  rw [kd128, gd_t rfl, e1, pb_1, u1_1, kd153, gd_t rfl, ly153_0 l1, kd154, gd_t rfl, ly154_1 l1, kd155, ga_t c0 (by omega), ly154_2 l1, kd156, ga_t c0 (by omega), ho, hk, e2', pb_1, u1_1]
  by_cases z : d 1 c = p
  · have cn := cdC_n hP p0 p1 (g.ld.kn c c0 c1)
    have lpe : lp (u3 (fX7_find_L60 SH 128 153 c p)) FU (cdC (s 0 0) p (d 2 c), 0, M2) = some (cdC (s 0 0) p (d 2 c), M2) := by
      have key := lp_rel (body := u3 (fX7_find_L60 SH 128 153 c p)) (P := fun j (t : Int × Int × AwM) => t = (cdC (s 0 0) p (d 2 c), 0, M2)) (X := fun r : Int × AwM => r = (cdC (s 0 0) p (d 2 c), M2)) (n := 0) ?_ FU (cdC (s 0 0) p (d 2 c), 0, M2) (FU_gt (by omega)) rfl
      · obtain ⟨r, e, rfl⟩ := key
        exact e
      · rintro j t hj rfl
        refine Or.inr ⟨_, ?_, rfl⟩
        rw [u3_1]
        unfold fX7_find_L60
        rw [kd128, gd_t rfl]
        by_cases z1 : (0 : Int) < M2 128 2
        · rw [if_pos z1, if_pos (show (0 : Int) < 10240 by decide), if_neg (by omega)]
        · rw [if_neg z1]
    refine ⟨cdC (s 0 0) p (d 2 c), M2, ?_, wf2_tr f1 (wfr_2 f2), Or.inl ⟨z, rfl, q2⟩⟩
    rw [if_pos z, z, stOf_n q2.1 hP p0 p1 (g.ld.kn c c0 c1), pb_1, u1_1, lpe, pb_1, u2_1]
  · obtain ⟨r, M3, e3, f3, hr⟩ := cfind_n g2 c0 c1 p0 p1 q2 m2
    refine ⟨r, M3, ?_, wf2_tr (wf2_tr f1 (wfr_2 f2)) f3, Or.inr ⟨z, hr⟩⟩
    rw [if_neg z, e3, pb_1, u2_1]
end PCFN
