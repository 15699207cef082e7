/-! comes alike -/
section PCOM
theorem fd_u {s d : AwM} {c p : Int} {j j' : Nat} {y y' : Int × Int × Int × Int} (h : FD s d c p j y) (h' : FD s d c p j' y') : j = j' ∧ y = y' := by
  obtain ⟨a1, a2, a3⟩ := h
  obtain ⟨b1, b2, b3⟩ := h'
  have e : j = j' := by
    refine Classical.byContradiction fun ne => ?_
    by_cases lt : j < j'
    · obtain ⟨z, hz', hf⟩ := b3 j lt
      rw [a1] at hz'
      rw [← Option.some.inj hz', a2] at hf
      exact absurd hf (by decide)
    · obtain ⟨z, hz', hf⟩ := a3 j' (by omega)
      rw [b1] at hz'
      rw [← Option.some.inj hz', b2] at hf
      exact absurd hf (by decide)
  subst e
  rw [a1] at b1
  exact ⟨rfl, Option.some.inj b1⟩
theorem fd_no {s d : AwM} {c p : Int} {j j' : Nat} {y : Int × Int × Int × Int} (h : FD s d c p j y) (hp : PC s d c p j') (hl : (rnQ s d c j').length ≤ j') : False := by
  obtain ⟨a1, a2, a3⟩ := h
  by_cases lt : j < j'
  · obtain ⟨z, hz', hf⟩ := hp j lt
    rw [a1] at hz'
    rw [← Option.some.inj hz', a2] at hf
    exact absurd hf (by decide)
  · have e : rnQ s d c j = rnQ s d c j' := by
      have := rnQ_end hl (j - j')
      rwa [show j' + (j - j') = j by omega] at this
    have := (List.getElem?_eq_some_iff.mp a1).1
    rw [e] at this
    omega
theorem dich {s d : AwM} (ho : SoOK s) (hl : LdOK s d) {c : Int} (c0 : 0 ≤ c) (c1 : c < s 0 1) (p : Int) : (∃ j y, FD s d c p j y) ∨ ∃ j, PC s d c p j ∧ (rnQ s d c j).length ≤ j := by
  have key : ∀ n : Nat, PC s d c p n ∨ (∃ j y, FD s d c p j y) ∨ ∃ j, PC s d c p j ∧ (rnQ s d c j).length ≤ j := by
    intro n
    induction n with
    | zero => exact Or.inl (fun i hi => by omega)
    | succ n ih =>
      rcases ih with h | h
      · by_cases hjn : n < (rnQ s d c n).length
        · have hy : (rnQ s d c n)[n]? = some (rnQ s d c n)[n] := List.getElem?_eq_getElem hjn
          generalize (rnQ s d c n)[n] = y at hy
          cases q : hb y.2.1 p
          · refine Or.inl (fun i hi => ?_)
            by_cases e : i = n
            · subst e; exact ⟨y, hy, q⟩
            · exact h i (by omega)
          · exact Or.inr (Or.inl ⟨n, y, hy, q, h⟩)
        · exact Or.inr (Or.inr ⟨n, h, by omega⟩)
      · exact Or.inr h
  rcases key 10241 with h | h
  · obtain ⟨y, hy, _⟩ := h 10240 (by omega)
    have := (List.getElem?_eq_some_iff.mp hy).1
    have := QOK_len (rnQ_ok ho hl c0 c1 10240).1
    omega
  · exact h
/-- the answer, by the way -/
def waR (ys : List (Int × Int × Int × Int)) (x : Int × Int × Int × Int) (k : Int) : Int := if k = -1 then (ys.length : Int) else if 0 ≤ k ∧ k < (ys.length : Int) then (wat ys x (ys.length - 1 - k.toNat)).2.2.2 else -1
theorem CR_w2 {M M' s d : AwM} {n : Int} {R : Int → AwM} {mi : AwM} (h : CR M s d n R mi) (f : wf2 (M 1 3) M' M) : CR M' s d n R mi ∧ hif M' M := by
  have hso := h.cc.hso
  have hf : fg M' M := fun a i b1 b2 b3 b4 b5 b6 b7 b8 => f a i (by omega) (by omega) (by omega) (by omega) (by omega)
  exact ⟨CR_g h (LAY_w2 hso h.lay f) hf h.mk (CMi_fr h.mi (fun i => f _ _ (by omega) (by omega) (by omega) (by omega) (by omega)) (fun i => f _ _ (by omega) (by omega) (by omega) (by omega) (by omega)) (fun i => f _ _ (by omega) (by omega) (by omega) (by omega) (by omega)) (fun a i _ _ => f _ _ (by omega) (by omega) (by omega) (by omega) (by omega))), fun a i x => f _ _ (by omega) (by omega) (by omega) (by omega) (by omega)⟩
theorem MR_m2 {M M' s d : AwM} {n : Int} {R : Int → AwM} {mi : AwM} (h : MR M s d n R mi) (f : mw2 M' M) : MR M' s d n R mi ∧ lof M' M := by
  have hf : fgm M' M := fun a i b1 b2 b3 b4 b5 b6 b7 => f a i (by omega) (by omega) (by omega) (by omega)
  exact ⟨MR_g h (LAY_m2 h.lay f) hf h.mk (MMi_fr h.mi (fun i _ => f _ _ (by omega) (by omega) (by omega) (by omega)) (fun i => f _ _ (by omega) (by omega) (by omega) (by omega)) (fun i => f _ _ (by omega) (by omega) (by omega) (by omega)) (fun i => f _ _ (by omega) (by omega) (by omega) (by omega)) (fun i => f _ _ (by omega) (by omega) (by omega) (by omega))), fun a i x => f _ _ (by omega) (by omega) (by omega) (by omega)⟩
theorem tfr_2 {so : Int} {M M' : AwM} (h : tfr M' M) : wf2 so M' M := fun a i p q _ _ _ => h a i (by omega) (by omega)
/-- the class, when a way is told -/
theorem ccom_t {M M1 s d : AwM} {n : Int} {R : Int → AwM} {mi : AwM} (h : CR M s d n R mi) {c p k v : Int} (ha : ath s c p = true) (k0 : -1 ≤ k) (k1 : k ≤ 2147483647) {M2 : AwM} {L : Nat} (hL : L ≤ 20) (e : fX7_find SH M 128 153 c p = fX7_find_J137 SH M1 128 v) (e2 : fX7_find_J137 SH M1 128 v = some ((L : Int), M2)) (h7 : M2 128 7 = (L : Int)) (f : wf2 (M 1 3) M2 M) {ys : List (Int × Int × Int × Int)} {x : Int × Int × Int × Int} (hy : ys.length = L) (hx : ∀ t : Nat, t < L → M2 133 (t : Int) = (wat ys x t).2.2.2) : fX8_comes SH M 1 c p k = some (waR ys x k, M2) := by
  have l2 := LAY_w2 h.cc.hso h.lay f
  subst hy
  unfold fX8_comes
  rw [kd1, gd_t rfl, ath_n h, pb_1, u1_1, bi_if, if_pos ha, if_neg (by omega), ly1_7 h.lay, ly1_4 h.lay, kd128, gd_t rfl, e, e2, pb_1, u2_1]
  unfold waR
  by_cases z : k = -1
  · rw [if_pos z, if_pos z]
  · rw [if_neg z, if_neg z, ly1_7 l2, kd128, gd_t rfl, act_n l2 k0 k1 h7 hL, pb_1, u1_1]
    by_cases z2 : 0 ≤ k ∧ k < (ys.length : Int)
    · have := hx (ys.length - 1 - k.toNat) (by omega)
      rw [if_pos z2, if_pos z2, ← this, show ((ys.length - 1 - k.toNat : Nat) : Int) = (ys.length : Int) - 1 - k by omega]
    · rw [if_neg z2, if_neg z2]
theorem mcom_t {M M1 s d : AwM} {n : Int} {R : Int → AwM} {mi : AwM} (h : MR M s d n R mi) {c p k : Int} (ha : ath s c p = true) (h1 : MR M1 s d n R mi) {l ys : List (Int × Int × Int × Int)} {x : Int × Int × Int × Int} (e : fX9_findsState SH M 167 c p = some (cdM x.1 x.2.1, M1)) (hq : QOK (s 0 0) l) (q : MQu M1 (s 0 0) l) (xm : x ∈ l) (hw : Way l ys x) (hn : ys.length ≤ 20) : fX9_comes SH M 167 c p k = some (waR ys x k, M1) := by
  obtain ⟨hc, hp⟩ := ath_t ha
  have nb := nd_b h.mm.ok.p (hq.1 x xm)
  unfold fX9_comes
  rw [kd167, gd_t rfl, (mis_n (c := c) (p := p) h.mm).1, pb_1, u1_1, bi_if, if_pos (decide_eq_true hc), (mis_n (c := c) (p := p) h.mm).2, pb_1, u1_1, bi_if, if_pos (decide_eq_true hp), e, pb_1, u2_1, if_neg (by omega)]
  exact mtold_n h1.lay h.mm.ok.p hq q xm hw hn
theorem comes_b {s d : AwM} {n : Int} {R : Int → AwM} {mi : AwM} {c p k : Int} (hk : k ≤ 2147483647) : BSt (fun M => fX8_comes SH M 1 c p k) (fun M => fX9_comes SH M 167 c p k) s d n R mi := by
  by_cases ha : ath s c p = true
  · obtain ⟨⟨c0, c1⟩, p0, p1⟩ := ath_t ha
    have low : ∀ {M : AwM}, CR M s d n R mi → k < -1 → fX8_comes SH M 1 c p k = some (-1, M) := fun {M} h z => by
      unfold fX8_comes
      rw [kd1, gd_t rfl, ath_n h, pb_1, u1_1, bi_if, if_pos ha, if_pos z]
    have lowR : ∀ ys x, k < -1 → waR ys x k = -1 := fun ys x z => by
      unfold waR
      rw [if_neg (by omega), if_neg (by omega)]
    by_cases z : d 1 c = p
    · refine ⟨waR [] (stQ d c) k, s, d, n, R, mi, fun M h => ?_, fun M h => ?_⟩
      · by_cases kl : k < -1
        · exact ⟨M, by rw [lowR _ _ kl]; exact low h kl, h, fun _ _ _ => rfl⟩
        · obtain ⟨r, M1, e1, f1, hr⟩ := find0_n h.cc c0 c1 p0 p1
          rcases hr with ⟨_, rfl, q⟩ | ⟨z', _⟩
          · have ok := rnQ_ok h.cc.ok h.cc.ld c0 c1 0
            have l1 := LAY_w2 h.cc.hso h.lay f1
            have xm : stQ d c ∈ rnQ s d c 0 := List.mem_singleton.mpr rfl
            obtain ⟨M2, e2, h7, ht, f2⟩ := find1_n h.cc.ok.p ok.1 l1 q (ys := []) xm (show Way _ [] _ from rfl) (by simp)
            rw [show (stQ d c).1 = p from z, show (stQ d c).2.1 = d 2 c from rfl] at e2
            have f3 := wf2_tr f1 (tfr_2 f2)
            have h2 := CR_w2 h f3
            exact ⟨M2, ccom_t h ha (by omega) hk (L := 0) (by omega) e1 e2 h7 f3 rfl ht, h2⟩
          · exact absurd z z'
      · obtain ⟨M1, j, r, e1, f1, q, pr, hr⟩ := mfind_n h.mm (c := c) (p := p) c0 c1
        have h1 := MR_m2 h f1
        have ow := own_f z pr (hr.elim (fun a => Or.inl a.2) (fun a => by obtain ⟨y, a1, a2, _⟩ := a; exact Or.inr ⟨y, a1, a2⟩))
        obtain ⟨rfl, o2⟩ := ow
        rcases hr with ⟨_, hlen⟩ | ⟨y, y1, y2, rfl⟩
        · have := (List.getElem?_eq_some_iff.mp o2).1; omega
        · rw [o2] at y1
          have ey := Option.some.inj y1
          subst ey
          have ok := rnQ_ok h.mm.ok h.mm.ld c0 c1 0
          exact ⟨M1, mcom_t h ha h1.1 e1 ok.1 q (List.mem_singleton.mpr rfl) (show Way _ [] _ from rfl) (by simp), h1⟩
    · by_cases fd : ∃ j y, FD s d c p j y
      · obtain ⟨j, y, fd⟩ := fd
        by_cases ok : SoOK s ∧ LdOK s d
        · obtain ⟨ys, yw, yl⟩ := fd_way ok.1 ok.2 c0 c1 p0 p1 fd
          have hP := ok.1.p
          have okj := rnQ_ok ok.1 ok.2 c0 c1 j
          have ndy := okj.1.1 y (List.mem_of_getElem? fd.1)
          refine ⟨waR ys (p, y.2.1, y.1, p) k, s, d, n, R, mi, fun M h => ?_, fun M h => ?_⟩
          · by_cases kl : k < -1
            · exact ⟨M, by rw [lowR _ _ kl]; exact low h kl, h, fun _ _ _ => rfl⟩
            · obtain ⟨r, M1, e1, f1, hr⟩ := find0_n h.cc c0 c1 p0 p1
              rcases hr with ⟨z', _⟩ | ⟨_, ⟨_, j', pc', hlen⟩ | ⟨j', y', fd', rfl, q⟩⟩
              · exact absurd z' z
              · exact (fd_no fd pc' hlen).elim
              · obtain ⟨rfl, rfl⟩ := fd_u fd fd'
                have l1 := LAY_w2 h.cc.hso h.lay f1
                have ndx : NdOK (s 0 0) (p, y.2.1, y.1, p) := ⟨⟨p0, p1⟩, ndy.2.1, Or.inr ⟨ndy.1, p0, by show p < 20; omega⟩⟩
                have okx := (QOK_rch hP okj.1 ndx).1
                have xm : (p, y.2.1, y.1, p) ∈ rchQ (rnQ s d c j) (p, y.2.1, y.1, p) := by
                  obtain ⟨a, am, a1, a2⟩ := inQ_t.mp (in_rch (rnQ s d c j) (p, y.2.1, y.1, p))
                  have nh := nh_run z j fd.2.2
                  rcases mem_rch am with b | b
                  · exact absurd a1 (nh a b)
                  · rw [b] at am; exact am
                obtain ⟨M2, e2, h7, ht, f2⟩ := find1_n hP okx l1 q xm (Way_mn (pf_mem (pf_rch _ _)) _ _ yw) yl
                have f3 := wf2_tr f1 (tfr_2 f2)
                have h2 := CR_w2 h f3
                exact ⟨M2, ccom_t h ha (by omega) hk yl e1 e2 h7 f3 rfl ht, h2⟩
          · obtain ⟨M1, j', r, e1, f1, q, pr, hr⟩ := mfind_n h.mm (c := c) (p := p) c0 c1
            have h1 := MR_m2 h f1
            obtain ⟨sf, sg⟩ := same_f z p0 p1 fd pr (hr.elim (fun a => Or.inl a.2) (fun a => by obtain ⟨y, a1, a2, _⟩ := a; exact Or.inr ⟨y, a1, a2⟩))
            have xm := List.mem_of_getElem? sf
            have ok' := rnQ_ok ok.1 ok.2 c0 c1 j'
            have sub : ∀ a ∈ rnQ s d c j, a ∈ rnQ s d c j' := by
              by_cases le : j ≤ j'
              · exact pf_mem (pf_le s d c j' le)
              · exfalso
                have := pf_at (pf_le s d c j (show j' ≤ j by omega)) sf
                exact nh_run z j fd.2.2 _ (List.mem_of_getElem? this) rfl
            rcases hr with ⟨_, hlen⟩ | ⟨y', y1, y2, rfl⟩
            · have := (List.getElem?_eq_some_iff.mp sf).1; omega
            · rw [sf] at y1
              have ey := Option.some.inj y1
              subst ey
              exact ⟨M1, mcom_t h ha h1.1 e1 ok'.1 q xm (Way_mn sub _ _ yw) yl, h1⟩
        · exact ⟨-1, s, d, n, R, mi, fun M h => absurd ⟨h.cc.ok, h.cc.ld⟩ ok, fun M h => absurd ⟨h.mm.ok, h.mm.ld⟩ ok⟩
      · refine ⟨-1, s, d, n, R, mi, fun M h => ?_, fun M h => ?_⟩
        · by_cases kl : k < -1
          · exact ⟨M, low h kl, h, fun _ _ _ => rfl⟩
          · obtain ⟨r, M1, e1, f1, hr⟩ := find0_n h.cc c0 c1 p0 p1
            rcases hr with ⟨z', _⟩ | ⟨_, ⟨rfl, _⟩ | ⟨j', y', fd', _⟩⟩
            · exact absurd z' z
            · obtain ⟨M2, e2, h7, f2⟩ := find2_n (M := M1)
              have f3 := wf2_tr f1 (tfr_2 f2)
              have h2 := CR_w2 h f3
              have l2 := h2.1.lay
              refine ⟨M2, ?_, h2⟩
              show fX8_comes SH M 1 c p k = _
              unfold fX8_comes
              rw [kd1, gd_t rfl, ath_n h, pb_1, u1_1, bi_if, if_pos ha, if_neg (by omega), ly1_7 h.lay, ly1_4 h.lay, kd128, gd_t rfl, e1, e2, pb_1, u2_1]
              by_cases z1 : k = -1
              · rw [if_pos z1]
              · rw [if_neg z1, ly1_7 l2, kd128, gd_t rfl, act_o l2 (by omega) hk h7, pb_1, u1_1]
            · exact absurd ⟨j', y', fd'⟩ fd
        · obtain ⟨M1, j', r, e1, f1, q, pr, hr⟩ := mfind_n h.mm (c := c) (p := p) c0 c1
          have h1 := MR_m2 h f1
          refine ⟨M1, ?_, h1⟩
          rcases dich h.mm.ok h.mm.ld c0 c1 p with a | ⟨j, pj, lj⟩
          · exact absurd a fd
          · rcases hr with ⟨rfl, hlen⟩ | ⟨y', y1, y2, rfl⟩
            · show fX9_comes SH M 167 c p k = _
              unfold fX9_comes
              rw [kd167, gd_t rfl, (mis_n (c := c) (p := p) h.mm).1, pb_1, u1_1, bi_if, if_pos (decide_eq_true ⟨c0, c1⟩), (mis_n (c := c) (p := p) h.mm).2, pb_1, u1_1, bi_if, if_pos (decide_eq_true ⟨p0, p1⟩), e1, pb_1, u2_1, if_pos rfl]
            · exact absurd y2 (none_f z pj lj j' y' (List.mem_of_getElem? y1))
  · refine ⟨-1, s, d, n, R, mi, fun M h => ⟨M, ?_, h, fun _ _ _ => rfl⟩, fun M h => ⟨M, ?_, h, fun _ _ _ => rfl⟩⟩
    · show fX8_comes SH M 1 c p k = _
      unfold fX8_comes
      rw [kd1, gd_t rfl, ath_n h, pb_1, u1_1, bi_if, if_neg ha]
    · show fX9_comes SH M 167 c p k = _
      unfold fX9_comes
      rw [kd167, gd_t rfl, (mis_n (c := c) (p := p) h.mm).1, pb_1, u1_1, bi_if]
      by_cases hc : 0 ≤ c ∧ c < s 0 1
      · rw [if_pos (decide_eq_true hc), (mis_n (c := c) (p := p) h.mm).2, pb_1, u1_1, bi_if]
        by_cases hp : 0 ≤ p ∧ p < s 0 0
        · exact absurd (by unfold ath; rw [decide_eq_true hc, decide_eq_true hp]; rfl) ha
        · rw [if_neg (by rw [decide_eq_false hp]; decide)]
      · rw [if_neg (by rw [decide_eq_false hc]; decide)]
end PCOM
