/-! the abstract walk: calls and ends -/
section AWX
variable {Γ : AwC} {own nm : String} {cc : ByteArray} {nL d kc nc : Nat} {rt : Option FieldType} {sh sh' : AwS} {M M' : AwM} {k n pc pc' : Nat} {ls ls' : List (Option AwV)} {st st' : List AwV} {Q : State → Prop}
theorem va_back {p : Program} {l : Launch} {e : Env} {R : Room} {s : State} {m : MethodId} {args : Array Value} {below : List Frame} {meth : Method} {c : Code} {H : Heap} {locs : List Loc} {cells slots mc ms pc : Nat} {lsA : Array Slot} {st0 : List Value} {st : List AwV} {G : AwG} {r : Option AwV} {sh' : AwS} {M' : AwM} {a : Array Value} {Q : State → Prop}
    (hr : va_Run p l e R s m args below meth c H locs cells slots mc ms (F0 m pc lsA st0) (st.map (cv_ G)) (apost_ G r sh' M' a) (A_ G)) (hS : va_S (A_ G) s.heap H locs)
    (kk : ∀ (H1 : Heap) (locs1 : List Loc), rep_ G s sh' M' H1 → va_S (A_ G) s.heap H1 locs1 → (∀ v, r = some v → ok_ v) → W p l e R s m args below meth c H1 locs1 (cells + mc) (slots + ms) Q (F0 m (pc + 3) lsA ((r.toList ++ st).map (cv_ G)))) : W p l e R s m args below meth c H locs cells slots Q (F0 m pc lsA st0) := by
  intro T hT X
  obtain ⟨v, st₀, t, T', L, h0, X', hLf, e1, e2, ⟨ho, hok, hrep, hF⟩, stp⟩ := hr T hT X
  cases ho
  have al : s.vm.Alike t.vm := by rw [← e2]; exact X'.warmed.alike
  obtain ⟨t2, a1, b1⟩ := kk T'.heap (locs ++ L) (by rw [e1]; exact hrep.moved al.symm) ⟨Nat.le_trans hS.1 (by rw [e1, ← h0]; exact hF.1), fun q h1 h2 => by rw [e1, hF.2 q (by rw [h0]; exact Nat.lt_of_lt_of_le h1 hS.1) h2, h0]; exact hS.2.1 q h1 h2, fun q hq => by
    rcases List.mem_append.mp hq with h | h
    · exact hS.2.2 q h
    · exact hLf q h⟩ hok T' rfl X'
  refine ⟨t2, stp t2 ?_, b1⟩
  have : (r.map (cv_ G)).toList ++ st.map (cv_ G) = (r.toList ++ st).map (cv_ G) := by cases r <;> rfl
  rw [this]
  exact a1
theorem gw_in {y : MethodName} {bytes : ByteArray} {maxL : Nat} {ret : Option FieldType} (h : Cond.code y bytes maxL ret ∈ gw_tbl) : GoodIn gw_tbl (Cond.code y bytes maxL ret :: gw_tbl) := fun w hw => by
  have hm : w ∈ gw_tbl := by
    rcases List.mem_cons.mp hw with rfl | h1
    · exact h
    · exact h1
  exact ⟨hm, good_of_word (gw_good w hm)⟩
theorem nw_use {s U : State} {w : Cond} (hal : s.vm.Alike U.vm) (hw : isNw_ w = true) (h : va_Nw w s) (hM : ∀ a i x host, va_Nw (.methodLinkNest a i x host) s → va_Nw (.methodLinkNest a i x host) U) : va_Nw w U := by
  cases w with
  | methodLinkNest a i x host => exact hM _ _ _ _ h
  | arrayOver t =>
    cases t with
    | object C => exact va_AO.moved hal h
    | _ => exact absurd hw (by simp [isNw_])
  | _ => exact absurd hw (by simp [isNw_])
theorem nw_moved {s U : State} (hW : s.WarmedH U.vm) (h : ∀ w ∈ nw_tbl, va_Nw w s) : ∀ w ∈ nw_tbl, va_Nw w U := fun w hw =>
  nw_use hW.alike (List.mem_filter.mp hw).2 (h w hw) (fun _ _ _ _ hz => va_Nw.warmM hW hz)
theorem nw_same {s U : State} (hv : s.vm = U.vm) (h : ∀ w ∈ nw_tbl, va_Nw w s) : ∀ w ∈ nw_tbl, va_Nw w U := fun w hw =>
  nw_use (by rw [hv]; exact Vm.Alike.refl _) (List.mem_filter.mp hw).2 (h w hw) (fun _ _ _ _ hz => va_Nw.same rfl hv hz)
theorem apre_of {G : AwG} {s U : State} {H : Heap} {locs : List Loc} {av : List AwV} {sh : AwS} {M : AwM} (hU : U.heap = H) (hW : s.WarmedH U.vm) (hok : ∀ w ∈ av, ok_ w) (hr : rep_ G s sh M H) (hS : va_S (A_ G) s.heap H locs) (hK : va_K G.1 vwCl [] s) (hN : ∀ w ∈ nw_tbl, va_Nw w s) (hX : va_X G.2.2.1 G.2.2.2.1 G.2.2.2.2.1 s s.heap) (hb1 : G.2.2.1 ≤ G.2.1) (hb2 : G.2.1 < s.heap.size) (hZ : str_ G s s.heap) :
    apre_ G av sh M (av.map (cv_ G)).toArray U := by
  refine ⟨rfl, hok, by rw [hU]; exact hr.moved hW.alike, va_K.moved hW.alike hK, nw_moved hW hN, (va_X.kept (va_X.moved hW.alike hX) (by rw [hU]; exact hS.2.1 _ (by omega) (by unfold A_; omega))), hb1, by rw [hU]; exact Nat.lt_of_lt_of_le hb2 hS.1, by rw [hU]; exact (hZ.warm hW).kept (fun a h1 h2 => hS.2.1 a h1 h2)⟩
theorem apre_bl {G : AwG} {av : List AwV} {sh : AwS} {M : AwM} : FrameBlind (apre_ G av sh M) := fun a U g mk h =>
  ⟨h.1, h.2.1, rep_.moved (u := U) (U := U.calling g mk a) (Vm.Alike.refl U.vm) h.2.2.1, va_K.moved (u := U) (U := U.calling g mk a) (Vm.Alike.refl U.vm) h.2.2.2.1, nw_same (s := U) (U := U.calling g mk a) rfl h.2.2.2.2.1, va_X.moved (u := U) (U := U.calling g mk a) (Vm.Alike.refl U.vm) h.2.2.2.2.2.1, h.2.2.2.2.2.2.1, h.2.2.2.2.2.2.2.1, str_.same (s := U) (U := U.calling g mk a) rfl h.2.2.2.2.2.2.2.2⟩
def LB_ (y : MethodName) (bytes : ByteArray) (maxL : Nat) (ret : Option FieldType) (na : Nat) : Prop :=
  Cond.code y bytes maxL ret ∈ gw_tbl ∧ Cond.initialized y.cls ∈ gw_tbl ∧ (y.cls ≠ "java/lang/invoke/MethodHandle" ∧ y.cls ≠ "java/lang/invoke/VarHandle" ∧ (parseMethodDescriptor y.desc).map (fun q => q.parameters.length) = some na) ∧ maxL ≤ 21
def LV_ (own : String) (idx : Nat) (y : MethodName) (bytes : ByteArray) (maxL : Nat) (ret : Option FieldType) (na ci : Nat) : Prop :=
  LB_ y bytes maxL ret na ∧ Cond.methodLink own idx y ∈ gw_tbl ∧ Cond.instanceMethod y ∈ gw_tbl ∧ Cond.selects y.cls y y ∈ gw_tbl ∧ ∃ r : vw_C, vwCl[ci]? = some r ∧ r.1 = y.cls
def LS_ (own : String) (idx : Nat) (y : MethodName) (bytes : ByteArray) (maxL : Nat) (ret : Option FieldType) (na : Nat) : Prop :=
  LB_ y bytes maxL ret na ∧ Cond.methodLink own idx y ∈ gw_tbl ∧ Cond.static y ∈ gw_tbl
def LI_ (own : String) (idx : Nat) (y : MethodName) (bytes : ByteArray) (maxL : Nat) (na : Nat) : Prop :=
  LB_ y bytes maxL none na ∧ Cond.methodLink own idx y ∈ gw_tbl ∧ Cond.instanceMethod y ∈ gw_tbl ∧ y.name = "<init>"
def LSN_ (own : String) (idx : Nat) (host : String) (y : MethodName) (bytes : ByteArray) (maxL : Nat) (ret : Option FieldType) (na : Nat) : Prop :=
  LB_ y bytes maxL ret na ∧ Cond.methodLinkNest own idx y host ∈ nw_tbl ∧ Cond.static y ∈ gw_tbl
def LIN_ (own : String) (idx : Nat) (host : String) (y : MethodName) (bytes : ByteArray) (maxL : Nat) (na : Nat) : Prop :=
  LB_ y bytes maxL none na ∧ Cond.methodLinkNest own idx y host ∈ nw_tbl ∧ Cond.instanceMethod y ∈ gw_tbl ∧ y.name = "<init>"
theorem cat_map (G : AwG) (st : List AwV) : ((st.map (cv_ G)).map fun v => v.category).sum = (st.map ct_).sum := by
  rw [List.map_map]
  congr 1
  exact List.map_congr_left fun v _ => cv_cat G v
theorem rev_map (G : AwG) (As st : List AwV) : (As.reverse ++ st).map (cv_ G) = (As.map (cv_ G)).reverse ++ st.map (cv_ G) := by
  rw [List.map_append, List.map_reverse]
theorem fit_ {Γ : AwC} {d kc nc d' kc' nc' nL' k n : Nat} (hR : d ≤ Γ.1.2.2.2.frames ∧ kc ≤ Γ.1.2.2.2.cells ∧ nc ≤ Γ.1.2.2.2.slots ∧ 40 * d ≤ Γ.1.2.2.2.locals) (hfr : d' + 1 ≤ d) (hk : k + kc' ≤ kc) (hn : n + nc' ≤ nc) (hl : nL' ≤ 21) :
    ((rm_ d' kc' nc').frames + 1 ≤ Γ.1.2.2.2.frames ∧ 8 + (nL' + 11) + (rm_ d' kc' nc').locals ≤ Γ.1.2.2.2.locals) ∧ (k + kc' ≤ Γ.1.2.2.2.cells ∧ n + nc' ≤ Γ.1.2.2.2.slots) := by
  obtain ⟨h1, h2, h3, h4⟩ := hR
  refine ⟨⟨by show d' + 1 ≤ _; omega, by show 8 + (nL' + 11) + 40 * d' ≤ _; omega⟩, by omega, by omega⟩
theorem ok_split {As st : List AwV} (h : ∀ v ∈ As.reverse ++ st, ok_ v) : (∀ v ∈ As, ok_ v) ∧ ∀ v ∈ st, ok_ v :=
  ⟨fun v hv => h v (List.mem_append_left _ (List.mem_reverse.mpr hv)), fun v hv => h v (List.mem_append_right _ hv)⟩
theorem ok_app {r : Option AwV} {st : List AwV} (h1 : ∀ v, r = some v → ok_ v) (h2 : ∀ v ∈ st, ok_ v) : ∀ v ∈ r.toList ++ st, ok_ v := fun v hv => by
  rcases List.mem_append.mp hv with h | h
  · cases r with
    | none => cases h
    | some w => exact h1 v (by rw [show v = w by simpa using h])
  · exact h2 v h
theorem aw_invV (hC : AOK Γ own cc nL d kc nc nm rt) {y : MethodName} {bytes : ByteArray} {maxL d' kc' nc' idx ci na : Nat} {ret : Option FieldType} {a : Int} {r : Option AwV} (As : List AwV) (hM : AMet y bytes maxL ret d' kc' nc' (.inr (.inr a) :: As) sh M r sh' M') (hl : LV_ own idx y bytes maxL ret na ci) (hg : kd_ sh a = (0, ci)) (hd : decode cc pc = .ok (.invokevirtual idx, 3)) (hp : pc + 3 = pc') (hna : As.length = na) (hfr : d' + 1 ≤ d) (hkc : k + kc' ≤ kc) (hnc : n + nc' ≤ nc) (hst : As.reverse ++ .inr (.inr a) :: st = st') (hct : (st.map ct_).sum ≤ 8) (kk : AW Γ sh' M' (k + kc') (n + nc') pc' ls (r.toList ++ st) Q) : AW Γ sh M k n pc ls st' Q := by
  subst hp
  subst hst
  obtain ⟨⟨p, l, e, R⟩, ⟨s, m, args, below⟩, ⟨meth, c⟩, G⟩ := Γ
  intro H locs lsA hr hS hL hst
  obtain ⟨hoA, hoS⟩ := ok_split hst
  obtain ⟨hoa, hos⟩ := ok1 hoS
  obtain ⟨⟨b1, b2, b3, b4⟩, b5, b6, b7, ⟨⟨C, T, N⟩, hc, hCy⟩⟩ := hl
  obtain ⟨hx, hb, hml, hown, hts, hlk, hret, hnm, hK, hN, hR, hX, hb1, hb2, hZ⟩ := hC
  obtain ⟨ha0, hal, hsh⟩ := kd_at hg (by simp)
  obtain ⟨r', hc', ⟨cell, q1, q2, q3, q4⟩, -⟩ := hr.2.2.1 a.toNat (0, ci) (by omega) hsh
  cases hc.symm.trans hc'
  obtain ⟨hf1, hf2⟩ := fit_ (d' := d') (kc' := kc') (nc' := nc') (k := k) (n := n) hR hfr hkc hnc b4
  have hcl : s.vm.findClass y.cls = some cell.cls := by rw [← hCy, q2]; exact (hK.1 ci _ hc).2.1
  dsimp only at *
  rw [rev_map, List.map_cons, show cv_ G (.inr (.inr a)) = rv_ G a from rfl, rv_pos G ha0]
  have hpre : ∀ U : State, U.heap = H → s.WarmedH U.vm → apre_ G (.inr (.inr a) :: As) sh M (Value.ref (G.2.1 + a.toNat) :: As.map (cv_ G)).toArray U := fun U hU hW => by
    have h := apre_of (av := .inr (.inr a) :: As) hU hW (okc hoa hoA) hr hS hK hN hX hb1 hb2 hZ
    rw [List.map_cons, show cv_ G (.inr (.inr a)) = rv_ G a from rfl, rv_pos G ha0] at h
    exact h
  exact va_back (st := st) (va_runV (As := As.map (cv_ G)) (rest := st.map (cv_ G)) (C := y.cls) (Ts := gw_tbl) (nL := nL) ⟨hx, hb, hml, hown, hts⟩ (hM l G) ⟨callB_of na hts (gw_in b1) rfl rfl rfl (hts _ b2) (hts _ b5) b3 hf1, hts _ b6, hts _ b7⟩ ⟨apre_bl, ⟨cell, q1, by rw [q3]; rfl, hcl⟩, hpre⟩ rfl (by rw [List.length_map]; exact hna) (hL.1.trans hml) rfl (lv_room (by rw [cat_map]; exact hct)) hd hf2) hS (fun H1 locs1 h1 h2 h3 => kk H1 locs1 lsA h1 h2 hL (ok_app h3 hos))
theorem aw_invS (hC : AOK Γ own cc nL d kc nc nm rt) {y : MethodName} {bytes : ByteArray} {maxL d' kc' nc' idx na : Nat} {ret : Option FieldType} {r : Option AwV} (As : List AwV) (hM : AMet y bytes maxL ret d' kc' nc' As sh M r sh' M') (hl : LS_ own idx y bytes maxL ret na) (hd : decode cc pc = .ok (.invokestatic idx, 3)) (hp : pc + 3 = pc') (hna : As.length = na) (hfr : d' + 1 ≤ d) (hkc : k + kc' ≤ kc) (hnc : n + nc' ≤ nc) (hst : As.reverse ++ st = st') (hct : (st.map ct_).sum ≤ 8) (kk : AW Γ sh' M' (k + kc') (n + nc') pc' ls (r.toList ++ st) Q) : AW Γ sh M k n pc ls st' Q := by
  subst hp
  subst hst
  obtain ⟨⟨p, l, e, R⟩, ⟨s, m, args, below⟩, ⟨meth, c⟩, G⟩ := Γ
  intro H locs lsA hr hS hL hst
  obtain ⟨hoA, hos⟩ := ok_split hst
  obtain ⟨⟨b1, b2, b3, b4⟩, b5, b6⟩ := hl
  obtain ⟨hx, hb, hml, hown, hts, hlk, hret, hnm, hK, hN, hR, hX, hb1, hb2, hZ⟩ := hC
  obtain ⟨hf1, hf2⟩ := fit_ (d' := d') (kc' := kc') (nc' := nc') (k := k) (n := n) hR hfr hkc hnc b4
  dsimp only at *
  rw [rev_map]
  exact va_back (st := st) (va_runS (As := As.map (cv_ G)) (rest := st.map (cv_ G)) (Ts := gw_tbl) (nL := nL) ⟨hx, hb, hml, hown, hts⟩ (hM l G) ⟨callB_of na hts (gw_in b1) rfl rfl rfl (hts _ b2) (hts _ b5) b3 hf1, hts _ b6⟩ ⟨apre_bl, fun U hU hW => apre_of hU hW hoA hr hS hK hN hX hb1 hb2 hZ⟩ rfl (by rw [List.length_map]; exact hna) (hL.1.trans hml) rfl (lv_room (by rw [cat_map]; exact hct)) hd hf2) hS (fun H1 locs1 h1 h2 h3 => kk H1 locs1 lsA h1 h2 hL (ok_app h3 hos))
theorem aw_invSN (hC : AOK Γ own cc nL d kc nc nm rt) {y : MethodName} {bytes : ByteArray} {maxL d' kc' nc' idx na : Nat} {host : String} {ret : Option FieldType} {r : Option AwV} (As : List AwV) (hM : AMet y bytes maxL ret d' kc' nc' As sh M r sh' M') (hl : LSN_ own idx host y bytes maxL ret na) (hd : decode cc pc = .ok (.invokestatic idx, 3)) (hp : pc + 3 = pc') (hna : As.length = na) (hfr : d' + 1 ≤ d) (hkc : k + kc' ≤ kc) (hnc : n + nc' ≤ nc) (hst : As.reverse ++ st = st') (hct : (st.map ct_).sum ≤ 8) (kk : AW Γ sh' M' (k + kc') (n + nc') pc' ls (r.toList ++ st) Q) : AW Γ sh M k n pc ls st' Q := by
  subst hp
  subst hst
  obtain ⟨⟨p, l, e, R⟩, ⟨s, m, args, below⟩, ⟨meth, c⟩, G⟩ := Γ
  intro H locs lsA hr hS hL hst
  obtain ⟨hoA, hos⟩ := ok_split hst
  obtain ⟨⟨b1, b2, b3, b4⟩, b5, b6⟩ := hl
  obtain ⟨hx, hb, hml, hown, hts, hlk, hret, hnm, hK, hN, hR, hX, hb1, hb2, hZ⟩ := hC
  obtain ⟨hf1, hf2⟩ := fit_ (d' := d') (kc' := kc') (nc' := nc') (k := k) (n := n) hR hfr hkc hnc b4
  dsimp only at *
  rw [rev_map]
  exact va_back (st := st) (va_runSN (As := As.map (cv_ G)) (rest := st.map (cv_ G)) (Ts := gw_tbl) (nL := nL) (host := host) ⟨hx, hb, hml, hown, hts⟩ (hM l G) ⟨va_cnB na hts (gw_in b1) rfl rfl rfl (hN _ b5) (hts _ b2) b3 hf1, hts _ b6, trivial⟩ ⟨apre_bl, fun U hU hW => apre_of hU hW hoA hr hS hK hN hX hb1 hb2 hZ⟩ rfl (by rw [List.length_map]; exact hna) (hL.1.trans hml) rfl (lv_room (by rw [cat_map]; exact hct)) hd hf2) hS (fun H1 locs1 h1 h2 h3 => kk H1 locs1 lsA h1 h2 hL (ok_app h3 hos))
theorem aw_invI (hC : AOK Γ own cc nL d kc nc nm rt) {y : MethodName} {bytes : ByteArray} {maxL d' kc' nc' idx na : Nat} {a : Int} {r : Option AwV} (As : List AwV) (hM : AMet y bytes maxL none d' kc' nc' (.inr (.inr a) :: As) sh M r sh' M') (hl : LI_ own idx y bytes maxL na) (ha0 : 0 < a) (hd : decode cc pc = .ok (.invokespecial idx, 3)) (hp : pc + 3 = pc') (hna : As.length = na) (hfr : d' + 1 ≤ d) (hkc : k + kc' ≤ kc) (hnc : n + nc' ≤ nc) (hst : As.reverse ++ .inr (.inr a) :: st = st') (hct : (st.map ct_).sum ≤ 8) (kk : AW Γ sh' M' (k + kc') (n + nc') pc' ls (r.toList ++ st) Q) : AW Γ sh M k n pc ls st' Q := by
  subst hp
  subst hst
  obtain ⟨⟨p, l, e, R⟩, ⟨s, m, args, below⟩, ⟨meth, c⟩, G⟩ := Γ
  intro H locs lsA hr hS hL hst
  obtain ⟨hoA, hoS⟩ := ok_split hst
  obtain ⟨hoa, hos⟩ := ok1 hoS
  obtain ⟨⟨b1, b2, b3, b4⟩, b5, b6, b7⟩ := hl
  obtain ⟨hx, hb, hml, hown, hts, hlk, hret, hnm, hK, hN, hR, hX, hb1, hb2, hZ⟩ := hC
  obtain ⟨hf1, hf2⟩ := fit_ (d' := d') (kc' := kc') (nc' := nc') (k := k) (n := n) hR hfr hkc hnc b4
  dsimp only at *
  rw [rev_map, List.map_cons, show cv_ G (.inr (.inr a)) = rv_ G a from rfl, rv_pos G ha0]
  have hpre : ∀ U : State, U.heap = H → s.WarmedH U.vm → apre_ G (.inr (.inr a) :: As) sh M (Value.ref (G.2.1 + a.toNat) :: As.map (cv_ G)).toArray U := fun U hU hW => by
    have h := apre_of (av := .inr (.inr a) :: As) hU hW (okc hoa hoA) hr hS hK hN hX hb1 hb2 hZ
    rw [List.map_cons, show cv_ G (.inr (.inr a)) = rv_ G a from rfl, rv_pos G ha0] at h
    exact h
  exact va_back (st := st) (va_runI (As := As.map (cv_ G)) (rest := st.map (cv_ G)) (Ts := gw_tbl) (nL := nL) ⟨hx, hb, hml, hown, hts⟩ (hM l G) ⟨callB_of na hts (gw_in b1) rfl rfl rfl (hts _ b2) (hts _ b5) b3 hf1, b7, hts _ b6⟩ ⟨apre_bl, hpre⟩ rfl (by rw [List.length_map]; exact hna) (hL.1.trans hml) rfl (lv_room (by rw [cat_map]; exact hct)) hd hf2) hS (fun H1 locs1 h1 h2 h3 => kk H1 locs1 lsA h1 h2 hL (ok_app h3 hos))
theorem aw_invIN (hC : AOK Γ own cc nL d kc nc nm rt) {y : MethodName} {bytes : ByteArray} {maxL d' kc' nc' idx na : Nat} {host : String} {a : Int} {r : Option AwV} (As : List AwV) (hM : AMet y bytes maxL none d' kc' nc' (.inr (.inr a) :: As) sh M r sh' M') (hl : LIN_ own idx host y bytes maxL na) (ha0 : 0 < a) (hd : decode cc pc = .ok (.invokespecial idx, 3)) (hp : pc + 3 = pc') (hna : As.length = na) (hfr : d' + 1 ≤ d) (hkc : k + kc' ≤ kc) (hnc : n + nc' ≤ nc) (hst : As.reverse ++ .inr (.inr a) :: st = st') (hct : (st.map ct_).sum ≤ 8) (kk : AW Γ sh' M' (k + kc') (n + nc') pc' ls (r.toList ++ st) Q) : AW Γ sh M k n pc ls st' Q := by
  subst hp
  subst hst
  obtain ⟨⟨p, l, e, R⟩, ⟨s, m, args, below⟩, ⟨meth, c⟩, G⟩ := Γ
  intro H locs lsA hr hS hL hst
  obtain ⟨hoA, hoS⟩ := ok_split hst
  obtain ⟨hoa, hos⟩ := ok1 hoS
  obtain ⟨⟨b1, b2, b3, b4⟩, b5, b6, b7⟩ := hl
  obtain ⟨hx, hb, hml, hown, hts, hlk, hret, hnm, hK, hN, hR, hX, hb1, hb2, hZ⟩ := hC
  obtain ⟨hf1, hf2⟩ := fit_ (d' := d') (kc' := kc') (nc' := nc') (k := k) (n := n) hR hfr hkc hnc b4
  dsimp only at *
  rw [rev_map, List.map_cons, show cv_ G (.inr (.inr a)) = rv_ G a from rfl, rv_pos G ha0]
  have hpre : ∀ U : State, U.heap = H → s.WarmedH U.vm → apre_ G (.inr (.inr a) :: As) sh M (Value.ref (G.2.1 + a.toNat) :: As.map (cv_ G)).toArray U := fun U hU hW => by
    have h := apre_of (av := .inr (.inr a) :: As) hU hW (okc hoa hoA) hr hS hK hN hX hb1 hb2 hZ
    rw [List.map_cons, show cv_ G (.inr (.inr a)) = rv_ G a from rfl, rv_pos G ha0] at h
    exact h
  exact va_back (st := st) (va_runIN (As := As.map (cv_ G)) (rest := st.map (cv_ G)) (Ts := gw_tbl) (nL := nL) (host := host) ⟨hx, hb, hml, hown, hts⟩ (hM l G) ⟨va_cnB na hts (gw_in b1) rfl rfl rfl (hN _ b5) (hts _ b2) b3 hf1, b7, hts _ b6⟩ ⟨apre_bl, hpre⟩ rfl (by rw [List.length_map]; exact hna) (hL.1.trans hml) rfl (lv_room (by rw [cat_map]; exact hct)) hd hf2) hS (fun H1 locs1 h1 h2 h3 => kk H1 locs1 lsA h1 h2 hL (ok_app h3 hos))
/-- Object's own constructor -/
theorem aw_obj (hC : AOK Γ own cc nL d kc nc nm rt) {idx : Nat} {a : Int} (hw : Cond.methodLink own idx Lib.objectInit ∈ gw_tbl ∧ Cond.instanceMethod Lib.objectInit ∈ gw_tbl ∧ Cond.code Lib.objectInit ⟨#[0xb1]⟩ 1 none ∈ gw_tbl) (ha0 : 0 < a) (hd : decode cc pc = .ok (.invokespecial idx, 3)) (hp : pc + 3 = pc') (hd0 : 1 ≤ d) (hct : (st.map ct_).sum ≤ 8) (kk : AW Γ sh M k n pc' ls st Q) : AW Γ sh M k n pc ls (.inr (.inr a) :: st) Q := by
  subst hp
  obtain ⟨⟨p, l, e, R⟩, ⟨s, m, args, below⟩, ⟨meth, c⟩, G⟩ := Γ
  intro H locs lsA hr hS hL hst
  obtain ⟨hoa, hos⟩ := ok1 hst
  obtain ⟨hx, hb, hml, hown, hts, hlk, hret, hnm, hK, hN, hR, hX, hb1, hb2, hZ⟩ := hC
  dsimp only at *
  rw [List.map_cons, show cv_ G (.inr (.inr a)) = rv_ G a from rfl, rv_pos G ha0]
  refine W.objInit hx hb hown (hts _ hw.1) (hts _ hw.2.1) (hts _ hw.2.2) rfl hL.1 rfl hd (by omega) ?_ (kk H locs lsA hr hS hL hos)
  have := cat_map G st
  rw [this]
  show 2 * 0 + _ + 12 ≤ R.locals
  omega
-- ENDS
def nz_ (t : FieldType) (x : Int) : Prop := match t with
  | .int => True
  | .boolean => x = 0 ∨ x = 1
  | _ => False
theorem nz_ok {t : FieldType} {x : Int} (h : nz_ t x) : narrow t (.int (i32 x)) = .int (i32 x) := by
  cases t with
  | int => rfl
  | boolean => rcases h with rfl | rfl <;> rfl
  | _ => exact absurd h (by simp [nz_])
theorem fin_hq {G : AwG} {s t : State} {H : Heap} {locs : List Loc} {args : Array Value} {r : Option AwV} {sh : AwS} {M : AwM} (hr : rep_ G s sh M H) (hS : va_S (A_ G) s.heap H locs) (ho : ∀ v, r = some v → ok_ v) (ht : t.heap = H) (hW : s.WarmedH t.vm) : apost_ G r sh M args s (.returned (r.map (cv_ G))) t :=
  ⟨rfl, ho, by rw [ht]; exact hr.moved hW.alike, hS.F ht⟩
theorem aw_iret (hC : AOK Γ own cc nL d kc nc nm (some .int)) {x : Int} (hd : decode cc pc = .ok (.ireturn, 1)) (hk : k ≤ kc) (hn : n ≤ nc) : AW Γ sh M k n pc ls [.inl x] (fin_ Γ kc nc (some (.inl x)) sh M) := by
  obtain ⟨⟨p, l, e, R⟩, ⟨s, m, args, below⟩, ⟨meth, c⟩, G⟩ := Γ
  intro H locs lsA hr hS hL hst
  obtain ⟨hx, hb, hml, hown, hts, hlk, hret, hnm, hK, hN, hR, hX, hb1, hb2, hZ⟩ := hC
  refine W.widen hk hn ?_
  exact W.iret hx hb hret (fun t ht hW => fin_hq (r := some (.inl x)) hr hS (fun v hv => by cases hv; exact (ok1 hst).1) ht hW) (fun q hq => hS.2.2 q hq) hd (hlocks := hlk)
theorem aw_zret (hC : AOK Γ own cc nL d kc nc nm (some .boolean)) {x : Int} (hz : x = 0 ∨ x = 1) (hd : decode cc pc = .ok (.ireturn, 1)) (hk : k ≤ kc) (hn : n ≤ nc) : AW Γ sh M k n pc ls [.inl x] (fin_ Γ kc nc (some (.inl x)) sh M) := by
  obtain ⟨⟨p, l, e, R⟩, ⟨s, m, args, below⟩, ⟨meth, c⟩, G⟩ := Γ
  intro H locs lsA hr hS hL hst
  obtain ⟨hx, hb, hml, hown, hts, hlk, hret, hnm, hK, hN, hR, hX, hb1, hb2, hZ⟩ := hC
  refine W.widen hk hn ?_
  exact W.zret hx hb hret (nz_ok (t := .boolean) hz) (fun t ht hW => fin_hq (r := some (.inl x)) hr hS (fun v hv => by cases hv; exact (ok1 hst).1) ht hW) (fun q hq => hS.2.2 q hq) hd (hlocks := hlk)
theorem aw_bret (hC : AOK Γ own cc nL d kc nc nm (some .byte)) {x : Int} (hz : -128 ≤ x ∧ x ≤ 127) (hd : decode cc pc = .ok (.ireturn, 1)) (hk : k ≤ kc) (hn : n ≤ nc) : AW Γ sh M k n pc ls [.inl x] (fin_ Γ kc nc (some (.inl x)) sh M) := by
  obtain ⟨⟨p, l, e, R⟩, ⟨s, m, args, below⟩, ⟨meth, c⟩, G⟩ := Γ
  intro H locs lsA hr hS hL hst
  obtain ⟨hx, hb, hml, hown, hts, hlk, hret, hnm, hK, hN, hR, hX, hb1, hb2, hZ⟩ := hC
  refine W.widen hk hn ?_
  exact W.zret hx hb hret (show Value.int (i32 x).toInt8.toInt32 = .int (i32 x) by rw [i32_i2b (ok1 hst).1]; congr 2; unfold w8_; omega) (fun t ht hW => fin_hq (r := some (.inl x)) hr hS (fun v hv => by cases hv; exact (ok1 hst).1) ht hW) (fun q hq => hS.2.2 q hq) hd (hlocks := hlk)
theorem aw_cret (hC : AOK Γ own cc nL d kc nc nm (some .char)) {x : Int} (hz : 0 ≤ x ∧ x ≤ 65535) (hd : decode cc pc = .ok (.ireturn, 1)) (hk : k ≤ kc) (hn : n ≤ nc) : AW Γ sh M k n pc ls [.inl x] (fin_ Γ kc nc (some (.inl x)) sh M) := by
  obtain ⟨⟨p, l, e, R⟩, ⟨s, m, args, below⟩, ⟨meth, c⟩, G⟩ := Γ
  intro H locs lsA hr hS hL hst
  obtain ⟨hx, hb, hml, hown, hts, hlk, hret, hnm, hK, hN, hR, hX, hb1, hb2, hZ⟩ := hC
  refine W.widen hk hn ?_
  have hq : narrow .char (.int (i32 x)) = .int (i32 x) := by
    obtain ⟨w, rfl⟩ : ∃ w : Nat, x = (w : Int) := ⟨x.toNat, by omega⟩
    exact (pk_charN (q := w) (by omega)).1
  exact W.zret hx hb hret hq (fun t ht hW => fin_hq (r := some (.inl x)) hr hS (fun v hv => by cases hv; exact (ok1 hst).1) ht hW) (fun q hq => hS.2.2 q hq) hd (hlocks := hlk)
theorem aw_lret (hC : AOK Γ own cc nL d kc nc nm (some .long)) {x : Int} (hd : decode cc pc = .ok (.lreturn, 1)) (hk : k ≤ kc) (hn : n ≤ nc) : AW Γ sh M k n pc ls [.inr (.inl x)] (fin_ Γ kc nc (some (.inr (.inl x))) sh M) := by
  obtain ⟨⟨p, l, e, R⟩, ⟨s, m, args, below⟩, ⟨meth, c⟩, G⟩ := Γ
  intro H locs lsA hr hS hL hst
  obtain ⟨hx, hb, hml, hown, hts, hlk, hret, hnm, hK, hN, hR, hX, hb1, hb2, hZ⟩ := hC
  refine W.widen hk hn ?_
  exact W.lret hx hb hret (fun t ht hW => fin_hq (r := some (.inr (.inl x))) hr hS (fun v hv => by cases hv; exact (ok1 hst).1) ht hW) (fun q hq => hS.2.2 q hq) hd (hlocks := hlk)
theorem aw_vret (hC : AOK Γ own cc nL d kc nc nm none) (hd : decode cc pc = .ok (.return_, 1)) (hk : k ≤ kc) (hn : n ≤ nc) : AW Γ sh M k n pc ls [] (fin_ Γ kc nc none sh M) := by
  obtain ⟨⟨p, l, e, R⟩, ⟨s, m, args, below⟩, ⟨meth, c⟩, G⟩ := Γ
  intro H locs lsA hr hS hL hst
  obtain ⟨hx, hb, hml, hown, hts, hlk, hret, hnm, hK, hN, hR, hX, hb1, hb2, hZ⟩ := hC
  refine W.widen hk hn ?_
  exact W.vret hx hb hret (fun t ht hW => fin_hq (r := none) hr hS (fun v hv => by cases hv) ht hW) (fun q hq => hS.2.2 q hq) hd (hlocks := hlk)
theorem aw_aret {C : String} (hC : AOK Γ own cc nL d kc nc nm (some (.object C))) {x : Int} (hd : decode cc pc = .ok (.areturn, 1)) (hk : k ≤ kc) (hn : n ≤ nc) : AW Γ sh M k n pc ls [.inr (.inr x)] (fin_ Γ kc nc (some (.inr (.inr x))) sh M) := by
  obtain ⟨⟨p, l, e, R⟩, ⟨s, m, args, below⟩, ⟨meth, c⟩, G⟩ := Γ
  intro H locs lsA hr hS hL hst
  obtain ⟨hx, hb, hml, hown, hts, hlk, hret, hnm, hK, hN, hR, hX, hb1, hb2, hZ⟩ := hC
  refine W.widen hk hn ?_
  exact W.aret (v := rv_ G x) hx hb hret (Or.inl ⟨_, rfl⟩) (rv_or G x) (fun t ht hW => fin_hq (r := some (.inr (.inr x))) hr hS (fun v hv => by cases hv; trivial) ht hW) (fun q hq => hS.2.2 q hq) hd (hlocks := hlk)
end AWX
