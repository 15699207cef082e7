/-! the abstract walk: the two texts, and what their members read -/
section AWTX
variable {Γ : AwC} {own nm : String} {cc : ByteArray} {nL d kc nc : Nat} {rt : Option FieldType} {sh sh1 sh' : AwS} {M M1 M' : AwM} {k n k2 n2 pc pc' : Nat} {ls ls' : List (Option AwV)} {st st' stN : List AwV} {Q : State → Prop}
theorem aw_ldcS (hC : AOK Γ RX4 cc nL d kc nc nm rt) {idx : Nat} {v : Int} (hi : (idx = 28 ∧ v = -2) ∨ (idx = 94 ∧ v = -3)) (hd : decode cc pc = .ok (.ldc idx, 2)) (hp : pc + 2 = pc') (kk : AW Γ sh M k n pc' ls (.inr (.inr v) :: st) Q) : AW Γ sh M k n pc ls st Q := by
  subst hp
  obtain ⟨⟨p, l, e, R⟩, ⟨s, m, args, below⟩, ⟨meth, c⟩, G⟩ := Γ
  intro H locs lsA hr hS hL hst
  obtain ⟨hx, hb, hml, hown, hts, hlk, hret, hnm, hK, hN, hR, hX, hb1, hb2, hZ⟩ := hC
  have K := kk H locs lsA hr hS hL (okc (show ok_ (.inr (.inr v)) from trivial) hst)
  dsimp only at *
  rw [List.map_cons, show cv_ G (.inr (.inr v)) = rv_ G v from rfl] at K
  rcases hi with ⟨rfl, rfl⟩ | ⟨rfl, rfl⟩
  · exact va_ldcS hx hb hown hZ.2.1 hd K
  · exact va_ldcS hx hb hown hZ.2.2.1 hd K
theorem aw_getC (hC : AOK Γ own cc nL d kc nc nm rt) {idx : Nat} (hw : Cond.fieldLink own idx "java/lang/String" "COMPACT_STRINGS" "Z" ∈ gw_tbl) (hd : decode cc pc = .ok (.getstatic idx, 3)) (hp : pc + 3 = pc') (kk : AW Γ sh M k n pc' ls (.inl 1 :: st) Q) : AW Γ sh M k n pc ls st Q := by
  subst hp
  obtain ⟨⟨p, l, e, R⟩, ⟨s, m, args, below⟩, ⟨meth, c⟩, G⟩ := Γ
  intro H locs lsA hr hS hL hst
  obtain ⟨hx, hb, hml, hown, hts, hlk, hret, hnm, hK, hN, hR, hX, hb1, hb2, hZ⟩ := hC
  exact va_gets hx hb hZ.2.2.2.1 hS hown (hts _ hw) (fun _ h => h) hd (kk H locs lsA hr hS hL (okc (show I32 1 by unfold I32; omega) hst))
theorem aw_getF (hC : AOK Γ own cc nL d kc nc nm rt) {idx : Nat} (hw : Cond.fieldLink own idx "jdk/internal/util/Preconditions" "SIOOBE_FORMATTER" "Ljava/util/function/BiFunction;" ∈ gw_tbl) (hd : decode cc pc = .ok (.getstatic idx, 3)) (hp : pc + 3 = pc') (kk : AW Γ sh M k n pc' ls (.inr (.inr (-6)) :: st) Q) : AW Γ sh M k n pc ls st Q := by
  subst hp
  obtain ⟨⟨p, l, e, R⟩, ⟨s, m, args, below⟩, ⟨meth, c⟩, G⟩ := Γ
  intro H locs lsA hr hS hL hst
  obtain ⟨hx, hb, hml, hown, hts, hlk, hret, hnm, hK, hN, hR, hX, hb1, hb2, hZ⟩ := hC
  exact va_gets hx hb hZ.2.2.2.2 hS hown (hts _ hw) (fun _ h => h) hd (kk H locs lsA hr hS hL (okc (show ok_ (.inr (.inr (-6))) from trivial) hst))
theorem str_at {G : AwG} {a : Int} (ha : a = -2 ∨ a = -3) : ∃ i : Nat, i < 2 ∧ rv_ G a = .ref (G.2.2.2.2.2.1 i) ∧ rv_ G (a - 2) = .ref (G.2.2.2.2.2.2.1 i) := by
  rcases ha with rfl | rfl
  · exact ⟨0, by omega, rfl, rfl⟩
  · exact ⟨1, by omega, rfl, rfl⟩
theorem aw_gsV (hC : AOK Γ own cc nL d kc nc nm rt) {idx : Nat} {a v : Int} (hw : Cond.fieldLink own idx "java/lang/String" "value" "[B" ∈ gw_tbl) (ha : a = -2 ∨ a = -3) (hv : a - 2 = v) (hd : decode cc pc = .ok (.getfield idx, 3)) (hp : pc + 3 = pc') (kk : AW Γ sh M k n pc' ls (.inr (.inr v) :: st) Q) : AW Γ sh M k n pc ls (.inr (.inr a) :: st) Q := by
  subst hp
  subst hv
  obtain ⟨⟨p, l, e, R⟩, ⟨s, m, args, below⟩, ⟨meth, c⟩, G⟩ := Γ
  intro H locs lsA hr hS hL hst
  obtain ⟨-, hst⟩ := ok1 hst
  obtain ⟨hx, hb, hml, hown, hts, hlk, hret, hnm, hK, hN, hR, hX, hb1, hb2, hZ⟩ := hC
  have K := kk H locs lsA hr hS hL (okc (show ok_ (.inr (.inr (a - 2))) from trivial) hst)
  obtain ⟨i, hi, e1, e2⟩ := str_at (G := G) ha
  dsimp only at *
  rw [List.map_cons, show cv_ G (.inr (.inr (a - 2))) = rv_ G (a - 2) from rfl, e2] at K
  rw [List.map_cons, show cv_ G (.inr (.inr a)) = rv_ G a from rfl, e1]
  exact vk_getf hx hb (hZ.1.1 i hi).2.2.1 hS hown (hts _ hw) (fun _ h => h) hd K
theorem aw_gsC (hC : AOK Γ own cc nL d kc nc nm rt) {idx : Nat} {a : Int} (hw : Cond.fieldLink own idx "java/lang/String" "coder" "B" ∈ gw_tbl) (ha : a = -2 ∨ a = -3) (hd : decode cc pc = .ok (.getfield idx, 3)) (hp : pc + 3 = pc') (kk : AW Γ sh M k n pc' ls (.inl 0 :: st) Q) : AW Γ sh M k n pc ls (.inr (.inr a) :: st) Q := by
  subst hp
  obtain ⟨⟨p, l, e, R⟩, ⟨s, m, args, below⟩, ⟨meth, c⟩, G⟩ := Γ
  intro H locs lsA hr hS hL hst
  obtain ⟨-, hst⟩ := ok1 hst
  obtain ⟨hx, hb, hml, hown, hts, hlk, hret, hnm, hK, hN, hR, hX, hb1, hb2, hZ⟩ := hC
  have K := kk H locs lsA hr hS hL (okc (show ok_ (.inl 0) from I32_0) hst)
  obtain ⟨i, hi, e1, e2⟩ := str_at (G := G) ha
  dsimp only at *
  rw [List.map_cons, show cv_ G (.inr (.inr a)) = rv_ G a from rfl, e1]
  exact vk_getf hx hb (hZ.1.1 i hi).2.1 hS hown (hts _ hw) (fun _ h => h) hd K
/-- how long a text is, its byte at a place; a: -4, -5 -/
def sn_ (a : Int) : Int := if a = -4 then 119 else 14
def sb_v (a i : Int) : Int := ((byt_.getD (if a = -4 then 0 else 1) []).getD i.toNat 0).toInt
theorem strb_at {G : AwG} {U : State} {H : Heap} {a : Int} (ha : a = -4 ∨ a = -5) (hZ : str_ G U H) : ∃ t : Nat, rv_ G a = .ref t ∧ va_T .byte t (sn_ a).toNat (fun j => .int (i32 (sb_v a j))) (A_ G) U H := by
  rcases ha with rfl | rfl
  · refine ⟨_, rfl, ?_⟩
    obtain ⟨cell, h1, h2, h3, h4, h5, h6, h7⟩ := (hZ.1.1 0 (by omega)).2.2.2
    refine ⟨cell, h1, h2, h3, h4, h5, fun j hj => ?_, h7⟩
    rw [h6 j hj]
    show some (Value.int _) = some (Value.int (i32 (Int32.toInt _)))
    rw [i32_t]
    rfl
  · refine ⟨_, rfl, ?_⟩
    obtain ⟨cell, h1, h2, h3, h4, h5, h6, h7⟩ := (hZ.1.1 1 (by omega)).2.2.2
    refine ⟨cell, h1, h2, h3, h4, h5, fun j hj => ?_, h7⟩
    rw [h6 j hj]
    show some (Value.int _) = some (Value.int (i32 (Int32.toInt _)))
    rw [i32_t]
    rfl
theorem aw_balS (hC : AOK Γ own cc nL d kc nc nm rt) {a i : Int} (ha : a = -4 ∨ a = -5) (hg : 0 ≤ i ∧ i < sn_ a) (hd : decode cc pc = .ok (.baload, 1)) (hp : pc + 1 = pc') (kk : AW Γ sh M k n pc' ls (.inl (sb_v a i) :: st) Q) : AW Γ sh M k n pc ls (.inl i :: .inr (.inr a) :: st) Q := by
  subst hp
  obtain ⟨⟨p, l, e, R⟩, ⟨s, m, args, below⟩, ⟨meth, c⟩, G⟩ := Γ
  intro H locs lsA hr hS hL hst
  obtain ⟨hi, h0⟩ := ok1 hst
  obtain ⟨-, hst⟩ := ok1 h0
  obtain ⟨hx, hb, hml, hown, hts, hlk, hret, hnm, hK, hN, hR, hX, hb1, hb2, hZ⟩ := hC
  have K := kk H locs lsA hr hS hL (okc (show ok_ (.inl (sb_v a i)) from i32_r _) hst)
  obtain ⟨t, e1, cell, h1, h2, h3, h4, h5, h6, h7⟩ := strb_at ha (hZ.kept (fun a h1 h2 => hS.2.1 a h1 h2))
  dsimp only at *
  rw [List.map_cons, List.map_cons, show cv_ G (.inr (.inr a)) = rv_ G a from rfl, e1]
  have hlt : i.toNat < (sn_ a).toNat := by omega
  refine W.bald hx hb h1 h2 h3 (i32_vin (n := cell.slots.size) hi hg.1 (by omega)) (v := .int (i32 (sb_v a i))) ?_ rfl rfl hd K
  rw [i32_cl hi, h6 _ hlt]
  show some (Value.int (i32 (sb_v a ((i.toNat : Nat) : Int)))) = _
  rw [show ((i.toNat : Nat) : Int) = i by omega]
theorem aw_alenS (hC : AOK Γ own cc nL d kc nc nm rt) {a v : Int} (ha : a = -4 ∨ a = -5) (hv : sn_ a = v) (hd : decode cc pc = .ok (.arraylength, 1)) (hp : pc + 1 = pc') (kk : AW Γ sh M k n pc' ls (.inl v :: st) Q) : AW Γ sh M k n pc ls (.inr (.inr a) :: st) Q := by
  subst hp
  subst hv
  obtain ⟨⟨p, l, e, R⟩, ⟨s, m, args, below⟩, ⟨meth, c⟩, G⟩ := Γ
  intro H locs lsA hr hS hL hst
  obtain ⟨-, hst⟩ := ok1 hst
  obtain ⟨hx, hb, hml, hown, hts, hlk, hret, hnm, hK, hN, hR, hX, hb1, hb2, hZ⟩ := hC
  have hi : I32 (sn_ a) := by unfold sn_ I32; split <;> omega
  have K := kk H locs lsA hr hS hL (okc (show ok_ (.inl (sn_ a)) from hi) hst)
  obtain ⟨t, e1, cell, h1, h2, h3, h4, h5, h6, h7⟩ := strb_at ha (hZ.kept (fun a h1 h2 => hS.2.1 a h1 h2))
  dsimp only at *
  rw [List.map_cons, show cv_ G (.inr (.inr a)) = rv_ G a from rfl, e1]
  refine W.alen (n := i32 (sn_ a)) hx hb h1 h2 (by rw [h5]; rcases ha with rfl | rfl <;> rfl) rfl rfl hd K
def LVS_ (own : String) (idx : Nat) (y : MethodName) (bytes : ByteArray) (maxL : Nat) (ret : Option FieldType) (na : Nat) : Prop :=
  LB_ y bytes maxL ret na ∧ Cond.methodLink own idx y ∈ gw_tbl ∧ Cond.instanceMethod y ∈ gw_tbl ∧ Cond.selects y.cls y y ∈ gw_tbl ∧ y.cls = "java/lang/String"
theorem aw_cStr (hC : AOK Γ own cc nL d kc nc nm rt) {y : MethodName} {bytes : ByteArray} {maxL d' kc' nc' idx na : Nat} {ret : Option FieldType} {a : Int} {r : Option AwV} (As : List AwV) (hM : AMet y bytes maxL ret d' kc' nc' (.inr (.inr a) :: As) sh M r sh' M') (hl : LVS_ own idx y bytes maxL ret na) (hg : a = -2 ∨ a = -3) (hd : decode cc pc = .ok (.invokevirtual idx, 3)) (hp : pc + 3 = pc') (hna : As.length = na) (hfr : d' + 1 ≤ d) (hkc : k2 ≤ kc) (hnc : n2 ≤ nc) (hst : As.reverse ++ .inr (.inr a) :: st = st') (hct : (st.map ct_).sum ≤ 8) (hk2 : k + kc' = k2) (hn2 : n + nc' = n2) (hN : r.toList ++ st = stN) (kk : AW Γ sh' M' k2 n2 pc' ls stN Q) : AW Γ sh M k n pc ls st' Q := by
  subst hk2; subst hn2; subst hN
  subst hp
  subst hst
  obtain ⟨⟨p, l, e, R⟩, ⟨s, m, args, below⟩, ⟨meth, c⟩, G⟩ := Γ
  intro H locs lsA hr hS hL hst
  obtain ⟨hoA, hoS⟩ := ok_split hst
  obtain ⟨hoa, hos⟩ := ok1 hoS
  obtain ⟨⟨b1, b2, b3, b4⟩, b5, b6, b7, hCy⟩ := hl
  obtain ⟨hx, hb, hml, hown, hts, hlk, hret, hnm, hK, hNN, hR, hX, hb1, hb2, hZ⟩ := hC
  obtain ⟨hf1, hf2⟩ := fit_ (d' := d') (kc' := kc') (nc' := nc') (k := k) (n := n) hR hfr hkc hnc b4
  obtain ⟨i, hi, e1, -⟩ := str_at (G := G) hg
  obtain ⟨cell, q1, q2, q3⟩ := vk_recv hZ.1 hi hS
  dsimp only at *
  rw [rev_map, List.map_cons, show cv_ G (.inr (.inr a)) = rv_ G a from rfl, e1]
  have hpre : ∀ U : State, U.heap = H → s.WarmedH U.vm → apre_ G (.inr (.inr a) :: As) sh M (Value.ref (G.2.2.2.2.2.1 i) :: As.map (cv_ G)).toArray U := fun U hU hW => by
    have h := apre_of (av := .inr (.inr a) :: As) hU hW (okc hoa hoA) hr hS hK hNN hX hb1 hb2 hZ
    rw [List.map_cons, show cv_ G (.inr (.inr a)) = rv_ G a from rfl, e1] at h
    exact h
  exact va_back (st := st) (va_runV (As := As.map (cv_ G)) (rest := st.map (cv_ G)) (C := y.cls) (Ts := gw_tbl) (nL := nL) ⟨hx, hb, hml, hown, hts⟩ (hM l G) ⟨callB_of na hts (gw_in b1) rfl rfl rfl (hts _ b2) (hts _ b5) b3 hf1, hts _ b6, hts _ b7⟩ ⟨apre_bl, ⟨cell, q1, q2, by rw [hCy]; exact q3⟩, hpre⟩ rfl (by rw [List.length_map]; exact hna) (hL.1.trans hml) rfl (lv_room (by rw [cat_map]; exact hct)) hd hf2) hS (fun H1 locs1 h1 h2 h3 => kk H1 locs1 lsA h1 h2 hL (ok_app h3 hos))
end AWTX
