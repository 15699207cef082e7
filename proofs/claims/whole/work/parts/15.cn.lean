/-! the abstract walk: copies, arrays of references, chars -/
section AWSP
variable {Γ : AwC} {own nm : String} {cc : ByteArray} {nL d kc nc : Nat} {rt : Option FieldType} {sh sh1 : AwS} {M M1 : AwM} {k n k2 n2 pc pc' : Nat} {ls ls' : List (Option AwV)} {st st' stN : List AwV} {Q : State → Prop}
theorem i32_i2c (v : Int) : ((i32 v).toUInt32 % 65536).toInt32 = i32 (c16_ v) := by
  rw [pk_char]
  have h1 : (i32 v).toBitVec.toNat = (v % 4294967296).toNat := by
    show (BitVec.ofInt 32 v).toNat = _
    rw [BitVec.toNat_ofInt]
    rfl
  rw [h1]
  have h2 : (((v % 4294967296).toNat % 65536 : Nat) : Int) = c16_ v := by unfold c16_; omega
  rw [← h2]
  rfl
theorem aw_i2c (hC : AOK Γ own cc nL d kc nc nm rt) {x : Int} (hd : decode cc pc = .ok (.i2c, 1)) (hp : pc + 1 = pc') (kk : AW Γ sh M k n pc' ls (.inl (c16_ x) :: st) Q) : AW Γ sh M k n pc ls (.inl x :: st) Q := by
  subst hp
  obtain ⟨⟨p, l, e, R⟩, ⟨s, m, args, below⟩, ⟨meth, c⟩, G⟩ := Γ
  intro H locs lsA hr hS hL hst
  obtain ⟨hx, h1⟩ := ok1 hst
  refine lv_i2c hC.1 hC.2.1 hd (i32_i2c x) ?_
  exact kk H locs lsA hr hS hL (okc (c16_in _) h1)
/-- System.arraycopy between two rows of ints -/
def cp_ (M : AwM) (a sp b dp q : Int) : AwM := fun a' i' => if a' = b ∧ dp ≤ i' ∧ i' < dp + q then M a (sp + (i' - dp)) else M a' i'
theorem rep_.puts {G : AwG} {U : State} {sh : AwS} {M M' : AwM} {H H1 : Heap} {a : Int} {kq : Nat × Nat} (h : rep_ G U sh M H) (hk : kd_ sh a = kq) (hk9 : kq.1 ≠ 9) (z : H1.size = H.size) (o : ∀ q : Nat, q ≠ G.2.1 + a.toNat → H1[q]? = H[q]?) (hM : ∀ b : Nat, b ≠ a.toNat → M' (b : Int) = M (b : Int)) (hn : rk_ G U H1 a.toNat kq (M' a.toNat)) : rep_ G U sh M' H1 := by
  obtain ⟨h0, h1, h2⟩ := kd_at hk hk9
  refine ⟨z.trans h.1, h.2.1, fun b kb hb hkb => ?_, fun b hb j => ?_⟩
  · by_cases hab : b = a.toNat
    · subst hab
      rw [h2] at hkb
      cases hkb
      exact hn
    · rw [hM b hab]
      exact rk_kept (h.2.2.1 b kb hb hkb) (o _ (by omega))
  · rw [hM b (by omega)]
    exact h.2.2.2 b hb j
theorem aw_copy (hC : AOK Γ own cc nL d kc nc nm rt) {idx : Nat} {a sp b dp q : Int} (hw : Cond.methodLink own idx arraycopyName ∈ gw_tbl ∧ Cond.native arraycopyName ∈ gw_tbl ∧ Cond.static arraycopyName ∈ gw_tbl ∧ Cond.initialized "java/lang/System" ∈ gw_tbl) (hd : decode cc pc = .ok (.invokestatic idx, 3)) (hp : pc + 3 = pc') (hd2 : 2 ≤ d) (hct : (st.map ct_).sum ≤ 8)
    (hg : (kd_ sh a).1 = 1 ∧ (kd_ sh b).1 = 1 ∧ 0 ≤ sp ∧ 0 ≤ dp ∧ 0 ≤ q ∧ sp + q ≤ (kd_ sh a).2 ∧ dp + q ≤ (kd_ sh b).2) (hM : M1 = cp_ M a sp b dp q) (kk : AW Γ sh M1 k n pc' ls st Q) : AW Γ sh M k n pc ls (.inl q :: .inl dp :: .inr (.inr b) :: .inl sp :: .inr (.inr a) :: st) Q := by
  subst hp
  subst hM
  obtain ⟨⟨p, l, e, R⟩, ⟨s, m, args, below⟩, ⟨meth, c⟩, G⟩ := Γ
  intro H locs lsA hr hS hL hst
  obtain ⟨hq, h1⟩ := ok1 hst
  obtain ⟨hdp, h2⟩ := ok1 h1
  obtain ⟨-, h3⟩ := ok1 h2
  obtain ⟨hsp, h4⟩ := ok1 h3
  obtain ⟨-, h5⟩ := ok1 h4
  obtain ⟨hx, hb, hml, hown, hts, hlk, hret, hnm, hK, hN, hR, hX, hb1, hb2, hZ⟩ := hC
  obtain ⟨g1, g2, g4, g5, g6, g7, g8⟩ := hg
  generalize hka : kd_ sh a = ka at g1 g7
  generalize hkb : kd_ sh b = kb at g2 g8
  obtain ⟨ta, na⟩ := ka
  obtain ⟨tb, nb⟩ := kb
  cases g1
  cases g2
  obtain ⟨a1, a2, a3⟩ := kd_at hka (by simp)
  obtain ⟨b1, b2, b3⟩ := kd_at hkb (by simp)
  obtain ⟨cA, r1, r2, r3⟩ := hr.2.2.1 a.toNat _ (by omega) a3
  obtain ⟨cB, s1, s2, s3⟩ := hr.2.2.1 b.toNat _ (by omega) b3
  have ca : ((a.toNat : Nat) : Int) = a := by omega
  have cb : ((b.toNat : Nat) : Int) = b := by omega
  have e1 : (i32 sp).toNatClampNeg = sp.toNat := i32_cl hsp
  have e2 : (i32 dp).toNatClampNeg = dp.toNat := i32_cl hdp
  have e3 : (i32 q).toNatClampNeg = q.toNat := i32_cl hq
  dsimp only at *
  rw [List.map_cons, List.map_cons, List.map_cons, List.map_cons, List.map_cons, show cv_ G (.inr (.inr a)) = rv_ G a from rfl, show cv_ G (.inr (.inr b)) = rv_ G b from rfl, rv_pos G a1, rv_pos G b1]
  intro T hT X
  obtain ⟨-, k0, hk0, cm0, hkk0⟩ := r1 na (fun j => .int (i32 (M a.toNat j)))
  obtain ⟨-, k1, hk1, cm1, hkk1⟩ := s1 nb (fun j => .int (i32 (M b.toNat j)))
  have z0 : ∀ {z : Int}, I32 z → 0 ≤ z → ¬ i32 z < 0 := fun hz h0 => by rw [← i32_0, i32_lt hz I32_0]; omega
  have hfw : nativeFrameWords "java/lang/System" "arraycopy" 5 = 7 := by decide +kernel
  have hcm : ((st.map (cv_ G)).map fun v => v.category).sum = (st.map ct_).sum := cat_map G st
  obtain ⟨vm', X', step⟩ := X.arraycopy hx hown (hts _ hw.1) (hts _ hw.2.1) (hts _ hw.2.2.1) (hts _ hw.2.2.2) (src := G.2.1 + a.toNat) (dst := G.2.1 + b.toNat) (cs := vp_cell cA (na, .inl (fun j => i32 (M a.toNat j)))) (cd := vp_cell cB (nb, .inl (fun j => i32 (M b.toNat j)))) (srcPos := i32 sp) (destPos := i32 dp) (n := i32 q) (by rw [hT]; exact r2) (by rw [hT]; exact s2)
    (fun _ h => by cases h) (fun _ h => by cases h) (fun h => by cases h) (fun h => by cases h) hk0 hk1 hkk0 hkk1 (by simp [refKind]) (z0 hsp g4) (z0 hdp g5) (z0 hq g6)
    (by rw [i32_i hsp, i32_i hq]; show ¬ _ > ((arrV cA na _).slots.size : Int); rw [arrV_size]; omega)
    (by rw [i32_i hdp, i32_i hq]; show ¬ _ > ((arrV cB nb _).slots.size : Int); rw [arrV_size]; omega)
    (fun vm₁ _ i hi => by
      have hlt : (i32 sp).toNatClampNeg + i < na := by rw [e3] at hi; rw [e1]; omega
      have ee : (vp_cell cA (na, .inl (fun j => i32 (M a.toNat j)))).slots.getD ((i32 sp).toNatClampNeg + i) .null = .int (i32 (M a.toNat (((i32 sp).toNatClampNeg + i : Nat) : Int))) := by
        show (arrV cA na _).slots.getD _ _ = _
        rw [Array.getD_eq_getD_getElem?, arrV_read _ _ hlt]
        rfl
      refine ⟨?_, ?_⟩
      · rw [ee]; rfl
      · rw [ee]; exact trivial)
    (g := F0 m pc lsA (.int (i32 q) :: .int (i32 dp) :: .ref (G.2.1 + b.toNat) :: .int (i32 sp) :: .ref (G.2.1 + a.toNat) :: st.map (cv_ G))) rfl hL.1 (rest := st.map (cv_ G)) rfl (by rw [hb]; exact hd) (by omega) (by show 2 * 0 + _ + _ ≤ _; rw [hcm, hfw]; omega)
  have ec : copied (vp_cell cA (na, .inl (fun j => i32 (M a.toNat j)))) (vp_cell cB (nb, .inl (fun j => i32 (M b.toNat j)))) (i32 sp) (i32 dp) (i32 q) = vp_cell cB (nb, .inl (va_cpy (fun j => i32 (M a.toNat j)) (fun j => i32 (M b.toNat j)) (i32 sp).toNatClampNeg (i32 dp).toNatClampNeg (i32 q).toNatClampNeg)) := va_copied (fun z => .int z) cA cB (fun j : Nat => i32 (M a.toNat j)) (fun j : Nat => i32 (M b.toNat j)) (by rw [e1, e3]; omega)
  rw [ec, e1, e2, e3] at X' step
  have hl : G.2.1 + b.toNat < H.size := (Array.getElem?_eq_some_iff.mp s2).1
  have efun : ∀ j : Nat, va_cpy (fun j : Nat => i32 (M a.toNat j)) (fun j : Nat => i32 (M b.toNat j)) sp.toNat dp.toNat q.toNat j = i32 (cp_ M a sp b dp q (b.toNat : Int) (j : Int)) := fun j => by
    unfold va_cpy cp_
    by_cases hj : dp.toNat ≤ j ∧ j < dp.toNat + q.toNat
    · rw [if_pos hj, if_pos ⟨cb, by omega, by omega⟩]
      show i32 (M a.toNat _) = i32 (M a _)
      rw [ca]
      congr 2
      omega
    · rw [if_neg hj, if_neg (by omega)]
  have K := fun (locs1 : List Loc) hS1 => kk (H.setIfInBounds (G.2.1 + b.toNat) (vp_cell cB (nb, .inl (va_cpy (fun j : Nat => i32 (M a.toNat j)) (fun j : Nat => i32 (M b.toNat j)) sp.toNat dp.toNat q.toNat)))) locs1 lsA (hr.puts (M' := cp_ M a sp b dp q) hkb (by simp) (by simp) (fun z hz => by simp [Array.getElem?_setIfInBounds, Ne.symm hz]) (fun z hz => by
      funext j
      unfold cp_
      rw [if_neg (by omega)]) ⟨cB, s1, by
        simp only [Array.getElem?_setIfInBounds, hl, if_true]
        rw [vp_cell_i]
        congr 2
        funext j
        exact congrArg Value.int (efun j), fun j hj => by
        show I32 (cp_ M a sp b dp q (b.toNat : Int) (j : Int))
        unfold cp_
        by_cases hc : ((b.toNat : Int) = b ∧ dp ≤ (j : Int) ∧ (j : Int) < dp + q)
        · rw [if_pos hc]
          have := r3 (sp + ((j : Int) - dp)).toNat (by omega)
          rw [ca] at this
          rw [show (((sp + ((j : Int) - dp)).toNat : Nat) : Int) = sp + ((j : Int) - dp) by omega] at this
          exact this
        · rw [if_neg hc]
          exact s3 j hj⟩)
    hS1 hL h5
  have hS1 : ∀ L : List Loc, (∀ z ∈ L, z.base = G.2.1 + b.toNat) → va_S (A_ G) s.heap (H.setIfInBounds (G.2.1 + b.toNat) (vp_cell cB (nb, .inl (va_cpy (fun j : Nat => i32 (M a.toNat j)) (fun j : Nat => i32 (M b.toNat j)) sp.toNat dp.toNat q.toNat)))) (locs ++ L) := fun L hL' =>
    ⟨by simp; exact hS.1, fun z g1 g2 => by
      rw [show (H.setIfInBounds (G.2.1 + b.toNat) _)[z]? = H[z]? by
        have : z ≠ G.2.1 + b.toNat := fun ez => g2 (by show G.2.1 < z; omega)
        simp [Array.getElem?_setIfInBounds, Ne.symm this]]
      exact hS.2.1 z g1 g2, fun z hz => by
      rcases List.mem_append.mp hz with h | h
      · exact hS.2.2 z h
      · rw [hL' z h]
        show G.2.1 < G.2.1 + b.toNat
        omega⟩
  obtain ⟨t, t1, t2⟩ := K (locs ++ _) (hS1 _ (fun z hz => by obtain ⟨w, -, hw'⟩ := List.mem_map.mp hz; rw [← hw'])) ((T.setVm vm').setCell (G.2.1 + b.toNat) (vp_cell cB (nb, .inl (va_cpy (fun j : Nat => i32 (M a.toNat j)) (fun j : Nat => i32 (M b.toNat j)) sp.toNat dp.toNat q.toNat)))) (by rw [← hT]; rfl) X'
  exact ⟨t, step t t1, t2⟩
/-- a row of Ledgers -/
theorem aw_anewL (hC : AOK Γ own cc nL d kc nc nm rt) {idx : Nat} {x v : Int} {N : Nat} (hw : Cond.classLink own idx "CoinCircle$Ledger" ∈ gw_tbl) (hw2 : Cond.arrayOver (.object "CoinCircle$Ledger") ∈ nw_tbl) (hd : decode cc pc = .ok (.anewarray idx, 3)) (hp : pc + 3 = pc') (hx : x = (N : Int)) (hN : N ≤ 65536) (hk2 : k + 1 = k2) (hn2 : n + N = n2) (hk : k2 ≤ kc) (hn : n2 ≤ nc) (hv : v = ((sh.length : Nat) : Int)) (hs : sh1 = sh ++ [(5, N)]) (kk : AW Γ sh1 M k2 n2 pc' ls (.inr (.inr v) :: st) Q) : AW Γ sh M k n pc ls (.inl x :: st) Q := by
  subst hk2; subst hn2; subst hs
  subst hv
  subst hx
  subst hp
  obtain ⟨⟨p, l, e, R⟩, ⟨s, m, args, below⟩, ⟨meth, c⟩, G⟩ := Γ
  intro H locs lsA hr hS hL hst
  obtain ⟨hx, h1⟩ := ok1 hst
  have hts := hC.2.2.2.2.1
  have hR := hC.2.2.2.2.2.2.2.2.2.2.1
  have hNw := hC.2.2.2.2.2.2.2.2.2.1
  have h0 := hr.2.1
  have hz : H.size = G.2.1 + sh.length := hr.1
  have ex : (i32 (N : Int)).toNatClampNeg = N := by rw [i32_cl hx]; rfl
  refine W.anew hC.1 hC.2.1 hC.2.2.2.1 (hts _ hw) (va_AO.use (C := "CoinCircle$Ledger") (hNw _ hw2)) rfl hd rfl (by rw [← i32_0, i32_lt hx I32_0]; omega) (by rw [ex]; omega) (Nat.le_trans hk hR.2.1) (by rw [ex]; exact Nat.le_trans hn hR.2.2.1) fun cA kA comp f1 f2 f3 f4 => ?_
  generalize hH1 : H.push ({ cls := cA, slots := Array.replicate (i32 (N : Int)).toNatClampNeg .null, vm := .none } : Cell) = H1
  have z1 : H1.size = H.size + 1 := by rw [← hH1, Array.size_push]
  have e1 : H1[H.size]? = some (arrV cA N (fun _ => .null)) := by rw [← hH1, Array.getElem?_push_size, ← arrV_new, ex]
  have o1 : ∀ q : Nat, q < H.size → H1[q]? = H[q]? := fun q hq => by rw [← hH1, Array.getElem?_push, if_neg (Nat.ne_of_lt hq)]
  have hAr : ArrOfT s cA (.object "CoinCircle$Ledger") := fun N z => ⟨(fun k h => by cases h), kA, f2, comp, f3⟩
  have K := kk H1 locs lsA (hr.grow z1 o1 ⟨cA, hAr, ⟨kA, comp, f2, f3, f4, f1⟩, (by rw [hz] at e1; rw [e1]; congr 2)⟩) ⟨Nat.le_trans hS.1 (by omega), fun x g1 g2 => (o1 x (Nat.lt_of_lt_of_le g1 hS.1)).trans (hS.2.1 x g1 g2), hS.2.2⟩ hL (okc (show ok_ (.inr (.inr _)) from trivial) h1)
  dsimp only at K ⊢
  rw [List.map_cons, show cv_ G (.inr (.inr (sh.length : Int))) = rv_ G sh.length from rfl, rv_pos G (by omega)] at K
  rw [hz, ex]
  exact K
theorem aw_aast (hC : AOK Γ own cc nL d kc nc nm rt) {a i x : Int} (hd : decode cc pc = .ok (.aastore, 1)) (hp : pc + 1 = pc') (hg : (kd_ sh a).1 = 5 ∧ 0 ≤ i ∧ i < (kd_ sh a).2) (hx : kd_ sh x = (0, 3)) (hM : M1 = up_ M a i x) (kk : AW Γ sh M1 k n pc' ls st Q) : AW Γ sh M k n pc ls (.inr (.inr x) :: .inl i :: .inr (.inr a) :: st) Q := by
  subst hp
  subst hM
  obtain ⟨⟨p, l, e, R⟩, ⟨s, m, args, below⟩, ⟨meth, c⟩, G⟩ := Γ
  intro H locs lsA hr hS hL hst
  obtain ⟨-, h00⟩ := ok1 hst
  obtain ⟨hi, h0⟩ := ok1 h00
  obtain ⟨-, h1⟩ := ok1 h0
  obtain ⟨g1, g2, g3⟩ := hg
  generalize hkd : kd_ sh a = kq at g1 g3
  obtain ⟨kt, kn⟩ := kq
  cases g1
  obtain ⟨ha0, hal, hsh⟩ := kd_at hkd (by simp)
  obtain ⟨hx0, hxl, hxsh⟩ := kd_at hx (by simp)
  obtain ⟨cA, r1, ⟨kA, comp, k1, k2, k3, -⟩, r2⟩ := hr.2.2.1 a.toNat _ (by omega) hsh
  obtain ⟨rr, hrr, ⟨cellV, q1, q2, q3, -⟩, -⟩ := hr.2.2.1 x.toNat _ (by omega) hxsh
  cases hrr
  have hcast : ((a.toNat : Nat) : Int) = a := by omega
  have hcasti : ((i.toNat : Nat) : Int) = i := by omega
  have hlt : i.toNat < kn := by dsimp only at g3; omega
  have hKn := (hC.2.2.2.2.2.2.2.2.1.1 3 _ rfl).2
  have hcomp : comp = G.1.1 3 := Option.some.inj (k3.symm.trans hKn.1)
  subst hcomp
  obtain ⟨kC, hkC, -⟩ := hKn.2
  dsimp only
  rw [List.map_cons, List.map_cons, List.map_cons, show cv_ G (.inr (.inr a)) = rv_ G a from rfl, show cv_ G (.inr (.inr x)) = rv_ G x from rfl, rv_pos G ha0, rv_pos G hx0]
  refine W.aast hC.1 hC.2.1 r2 (fun q h => by cases h) (fun h => by cases h) k1 k2 rfl hkC ⟨by rw [← i32_0, i32_lt hi I32_0]; omega, by rw [arrV_size, i32_cl hi]; exact hlt⟩ q1 (fun q h => by rw [q3] at h; cases h) (by rw [q2]; exact hkC) (by rw [q2]; exact va_assign hKn) rfl rfl hd fun H' e1 e2 e3 => ?_
  refine kk H' _ lsA (hr.put hkd (by simp) e2 e3 ⟨cA, r1, ⟨kA, _, k1, k2, k3, ?_⟩, ?_⟩) (hS.put e2 e3 (by show G.2.1 < G.2.1 + a.toNat; omega)) hL h1
  · obtain ⟨cA2, -, ⟨kA2, comp2, k12, k22, k32, k42⟩, r22⟩ := hr.2.2.1 a.toNat _ (by omega) hsh
    have : cA2 = cA := by
      have e := r2.symm.trans r22
      have e' := Option.some.inj e
      exact (congrArg Cell.cls e').symm
    rw [← this]
    exact k42
  · rw [e1, i32_cl hi, arrV_store]
    congr 2
    funext j
    unfold updV up_
    by_cases hji : j = i.toNat
    · subst hji
      rw [if_pos rfl, if_pos ⟨hcast, hcasti⟩, rv_pos G hx0]
    · rw [if_neg hji, if_neg (by omega)]
end AWSP
