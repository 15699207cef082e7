/-! the law -/
def R_law : String := "CoinCircleLaw"
def lw_Q (_ : Array Value) (s : State) (o : Outcome) (t : State) : Prop := o = .returned (some (.int 1)) ∧ Framed s o t [] 600000 7302250
def lw_Z (below : List Frame) (a : Array Value) (s : State) : State → Prop := fun t => ∃ o, t.status = .running ∧ Ended t below o ∧ lw_Q a s o t
theorem lw_ret {p : Program} {l : Launch} {e : Env} {s : State} {m : MethodId} {below : List Frame} {meth : Method} {c : Code} {b : Nat} (hx : p.tables.exec = Jvm.exec) (hb : c.code = code) (hr : meth.sig.returnType = ret) (hlocks : meth.locks = false) {pc : Nat} {H : Heap} {ls : Array Slot} (hdg : decode code pc = .ok (.ireturn, 1)) : W p l e room_1 s m #[Value.ref b] below meth c H [] 600000 7302250 (lw_Z below #[Value.ref b] s) (F0 m pc ls [.int 1]) := by
  intro T hT X
  obtain ⟨fs, hret, hrun, hended, hW, hframe⟩ := X.leave (v := some (.int 1)) (hlocks := hlocks) (fun h => by rw [hr] at h; cases h)
  have hmeth' : T.vm.method? m = some meth := X.method'
  refine ⟨T.setFrames fs, ?_, .returned (some (.int 1)), hrun, hended, rfl, ⟨_, rfl⟩, hW, hframe⟩
  jvm_step X.here [X.here.top, hx, hb, hdg, hmeth', hr, ret, narrow_b1]
  (try refine ⟨rfl, ?_⟩); (try refine ⟨rfl, ?_⟩)
  first | (intro acts; rw [hret _ acts rfl rfl rfl]) | rw [hret _ _ rfl rfl rfl]
  exact Steps.refl _
section AWLAW
variable {Γ : AwC} {own nm : String} {cc : ByteArray} {nL d kc nc : Nat} {rt : Option FieldType} {sh : AwS} {M : AwM} {k n pc pc' : Nat} {ls : List (Option AwV)} {st : List AwV} {Q : State → Prop}
/-- the script, as numbers -/
def SC_ (Γ : AwC) (xi : Int → Int) (L : Int) : Prop := L = (Γ.2.2.2.2.2.2.1 : Int) ∧ L ≤ 3072 ∧ ∀ i : Int, 0 ≤ i → i < L → i32 (xi i) = Γ.2.2.2.2.2.2.2.1 i.toNat ∧ I32 (xi i)
theorem aw_sld {xi : Int → Int} {L : Int} (hC : AOK Γ own cc nL d kc nc nm rt) (hS0 : SC_ Γ xi L) {i : Int} (hg : 0 ≤ i ∧ i < L) (hd : decode cc pc = .ok (.iaload, 1)) (hp : pc + 1 = pc') (kk : AW Γ sh M k n pc' ls (.inl (xi i) :: st) Q) : AW Γ sh M k n pc ls (.inl i :: .inr (.inr (-1)) :: st) Q := by
  subst hp
  obtain ⟨⟨p, l, e, R⟩, ⟨s, m, args, below⟩, ⟨meth, c⟩, G⟩ := Γ
  intro H locs lsA hr hS hL hst
  obtain ⟨hi, h0⟩ := ok1 hst
  obtain ⟨-, hst⟩ := ok1 h0
  obtain ⟨hx, hb, hml, hown, hts, hlk, hret, hnm, hK, hN, hR, hX, hb1, hb2, hZ⟩ := hC
  obtain ⟨e1, e2, e3⟩ := hS0
  obtain ⟨f1, f2⟩ := e3 i hg.1 hg.2
  have K := kk H locs lsA hr hS hL (okc (show ok_ (.inl (xi i)) from f2) hst)
  dsimp only at *
  rw [List.map_cons, show cv_ G (.inl (xi i)) = .int (i32 (xi i)) from rfl, f1] at K
  rw [List.map_cons, List.map_cons, show cv_ G (.inr (.inr (-1))) = .ref G.2.2.1 from rfl]
  refine va_sld hx hb hX (by omega) (by unfold A_; omega) hS (i := i32 i) (i32_vin (n := G.2.2.2.1) hi hg.1 (by omega)) hd ?_
  rw [i32_cl hi]
  exact K
theorem aw_slen {xi : Int → Int} {L : Int} (hC : AOK Γ own cc nL d kc nc nm rt) (hS0 : SC_ Γ xi L) (hd : decode cc pc = .ok (.arraylength, 1)) (hp : pc + 1 = pc') (kk : AW Γ sh M k n pc' ls (.inl L :: st) Q) : AW Γ sh M k n pc ls (.inr (.inr (-1)) :: st) Q := by
  subst hp
  obtain ⟨⟨p, l, e, R⟩, ⟨s, m, args, below⟩, ⟨meth, c⟩, G⟩ := Γ
  intro H locs lsA hr hS hL hst
  obtain ⟨-, hst⟩ := ok1 hst
  obtain ⟨hx, hb, hml, hown, hts, hlk, hret, hnm, hK, hN, hR, hX, hb1, hb2, hZ⟩ := hC
  obtain ⟨e1, e2, e3⟩ := hS0
  have K := kk H locs lsA hr hS hL (okc (show ok_ (.inl L) from (by show I32 L; unfold I32; omega)) hst)
  dsimp only at *
  rw [List.map_cons, show cv_ G (.inl L) = .int (i32 L) from rfl, e1] at K
  rw [List.map_cons, show cv_ G (.inr (.inr (-1))) = .ref G.2.2.1 from rfl]
  exact va_slen hx hb hX (by omega) (by unfold A_; omega) hS hd K
theorem aw_lawret (hC : AOK Γ own code nL d kc nc nm ret) (hR : Γ.1.2.2.2 = room_1) (hs1 : Γ.2.2.2.2.1 + 1 = Γ.2.1.1.heap.size) (harg : ∃ b : Nat, Γ.2.1.2.2.1 = #[Value.ref b]) (hd : decode code pc = .ok (.ireturn, 1)) (hk : k ≤ 600000) (hn : n ≤ 7302250) : AW Γ sh M k n pc ls [.inl 1] (lw_Z Γ.2.1.2.2.2 Γ.2.1.2.2.1 Γ.2.1.1) := by
  obtain ⟨⟨p, l, e, R⟩, ⟨s, m, args, below⟩, ⟨meth, c⟩, G⟩ := Γ
  intro H locs lsA hr hS hL hst
  obtain ⟨hx, hb, hml, hown, hts, hlk, hret, hnm, hK, hN, -, hX, hb1, hb2, hZ⟩ := hC
  obtain ⟨b, hb'⟩ := harg
  dsimp only at *
  subst hR
  subst hb'
  refine va_forget (fun q hq => ?_) ?_
  · have := hS.2.2 q hq
    unfold A_ at this
    omega
  · refine W.widen hk hn ?_
    exact lw_ret hx hb hret hlk hd
end AWLAW
set_option maxRecDepth 100000 in
theorem nw_L_7 : NW_ RL 7 8 14 := ⟨_, rfl, rfl, gs_1 20 rfl rfl, gs_1 21 rfl rfl, gs_1 1 rfl rfl, by decide⟩
set_option maxRecDepth 100000 in
theorem lb_X8_init : LB_ yX8_init cX8_init 2 none 0 := ⟨gs_1 24 rfl rfl, gs_1 1 rfl rfl, ⟨by decide +kernel, by decide +kernel, by decide +kernel⟩, by decide⟩
set_option maxRecDepth 100000 in
theorem lk_L_9 : LI_ RL 9 yX8_init cX8_init 2 0 := ⟨lb_X8_init, gs_1 22 rfl rfl, gs_1 23 rfl rfl, rfl⟩
set_option maxRecDepth 100000 in
theorem nw_L_10 : NW_ RL 10 9 71 := ⟨_, rfl, rfl, gs_5 176 rfl rfl, gs_5 177 rfl rfl, gs_1 14 rfl rfl, by decide⟩
set_option maxRecDepth 100000 in
theorem lb_X9_init : LB_ yX9_init cX9_init 1 none 0 := ⟨gs_5 180 rfl rfl, gs_1 14 rfl rfl, ⟨by decide +kernel, by decide +kernel, by decide +kernel⟩, by decide⟩
set_option maxRecDepth 100000 in
theorem lk_L_12 : LI_ RL 12 yX9_init cX9_init 1 0 := ⟨lb_X9_init, gs_5 178 rfl rfl, gs_5 179 rfl rfl, rfl⟩
set_option maxRecDepth 100000 in
theorem lb_X8_feed : LB_ yX8_feed cX8_feed 6 (some .int) 5 := ⟨gs_2 157 rfl rfl, gs_1 1 rfl rfl, ⟨by decide +kernel, by decide +kernel, by decide +kernel⟩, by decide⟩
set_option maxRecDepth 100000 in
theorem lk_L_13 : LV_ RL 13 yX8_feed cX8_feed 6 (some .int) 5 8 := ⟨lb_X8_feed, gs_2 154 rfl rfl, gs_2 155 rfl rfl, gs_2 156 rfl rfl, _, rfl, rfl⟩
set_option maxRecDepth 100000 in
theorem lb_X9_feed : LB_ yX9_feed cX9_feed 6 (some .int) 5 := ⟨gs_6 160 rfl rfl, gs_1 14 rfl rfl, ⟨by decide +kernel, by decide +kernel, by decide +kernel⟩, by decide⟩
set_option maxRecDepth 100000 in
theorem lk_L_17 : LV_ RL 17 yX9_feed cX9_feed 6 (some .int) 5 9 := ⟨lb_X9_feed, gs_6 157 rfl rfl, gs_6 158 rfl rfl, gs_6 159 rfl rfl, _, rfl, rfl⟩
set_option maxRecDepth 100000 in
theorem lb_X8_end : LB_ yX8_end cX8_end 2 (some .boolean) 1 := ⟨gs_2 169 rfl rfl, gs_1 1 rfl rfl, ⟨by decide +kernel, by decide +kernel, by decide +kernel⟩, by decide⟩
set_option maxRecDepth 100000 in
theorem lk_L_18 : LV_ RL 18 yX8_end cX8_end 2 (some .boolean) 1 8 := ⟨lb_X8_end, gs_2 166 rfl rfl, gs_2 167 rfl rfl, gs_2 168 rfl rfl, _, rfl, rfl⟩
set_option maxRecDepth 100000 in
theorem lb_X9_end : LB_ yX9_end cX9_end 2 (some .boolean) 1 := ⟨gs_6 172 rfl rfl, gs_1 14 rfl rfl, ⟨by decide +kernel, by decide +kernel, by decide +kernel⟩, by decide⟩
set_option maxRecDepth 100000 in
theorem lk_L_22 : LV_ RL 22 yX9_end cX9_end 2 (some .boolean) 1 9 := ⟨lb_X9_end, gs_6 169 rfl rfl, gs_6 170 rfl rfl, gs_6 171 rfl rfl, _, rfl, rfl⟩
set_option maxRecDepth 100000 in
theorem lb_X8_society : LB_ yX8_society cX8_society 2 (some .int) 0 := ⟨gs_2 173 rfl rfl, gs_1 1 rfl rfl, ⟨by decide +kernel, by decide +kernel, by decide +kernel⟩, by decide⟩
set_option maxRecDepth 100000 in
theorem lk_L_23 : LV_ RL 23 yX8_society cX8_society 2 (some .int) 0 8 := ⟨lb_X8_society, gs_2 170 rfl rfl, gs_2 171 rfl rfl, gs_2 172 rfl rfl, _, rfl, rfl⟩
set_option maxRecDepth 100000 in
theorem lb_X9_society : LB_ yX9_society cX9_society 2 (some .int) 0 := ⟨gs_6 176 rfl rfl, gs_1 14 rfl rfl, ⟨by decide +kernel, by decide +kernel, by decide +kernel⟩, by decide⟩
set_option maxRecDepth 100000 in
theorem lk_L_27 : LV_ RL 27 yX9_society cX9_society 2 (some .int) 0 9 := ⟨lb_X9_society, gs_6 173 rfl rfl, gs_6 174 rfl rfl, gs_6 175 rfl rfl, _, rfl, rfl⟩
set_option maxRecDepth 100000 in
theorem lb_X8_fault : LB_ yX8_fault cX8_fault 2 (some .int) 1 := ⟨gs_3 226 rfl rfl, gs_1 1 rfl rfl, ⟨by decide +kernel, by decide +kernel, by decide +kernel⟩, by decide⟩
set_option maxRecDepth 100000 in
theorem lk_L_28 : LV_ RL 28 yX8_fault cX8_fault 2 (some .int) 1 8 := ⟨lb_X8_fault, gs_3 223 rfl rfl, gs_3 224 rfl rfl, gs_3 225 rfl rfl, _, rfl, rfl⟩
set_option maxRecDepth 100000 in
theorem lb_X9_fault : LB_ yX9_fault cX9_fault 2 (some .int) 1 := ⟨gs_7 117 rfl rfl, gs_1 14 rfl rfl, ⟨by decide +kernel, by decide +kernel, by decide +kernel⟩, by decide⟩
set_option maxRecDepth 100000 in
theorem lk_L_32 : LV_ RL 32 yX9_fault cX9_fault 2 (some .int) 1 9 := ⟨lb_X9_fault, gs_7 114 rfl rfl, gs_7 115 rfl rfl, gs_7 116 rfl rfl, _, rfl, rfl⟩
set_option maxRecDepth 100000 in
theorem lb_X8_has : LB_ yX8_has cX8_has 2 (some .int) 1 := ⟨gs_3 230 rfl rfl, gs_1 1 rfl rfl, ⟨by decide +kernel, by decide +kernel, by decide +kernel⟩, by decide⟩
set_option maxRecDepth 100000 in
theorem lk_L_33 : LV_ RL 33 yX8_has cX8_has 2 (some .int) 1 8 := ⟨lb_X8_has, gs_3 227 rfl rfl, gs_3 228 rfl rfl, gs_3 229 rfl rfl, _, rfl, rfl⟩
set_option maxRecDepth 100000 in
theorem lb_X9_has : LB_ yX9_has cX9_has 4 (some .int) 1 := ⟨gs_7 137 rfl rfl, gs_1 14 rfl rfl, ⟨by decide +kernel, by decide +kernel, by decide +kernel⟩, by decide⟩
set_option maxRecDepth 100000 in
theorem lk_L_36 : LV_ RL 36 yX9_has cX9_has 4 (some .int) 1 9 := ⟨lb_X9_has, gs_7 134 rfl rfl, gs_7 135 rfl rfl, gs_7 136 rfl rfl, _, rfl, rfl⟩
set_option maxRecDepth 100000 in
theorem lb_X8_letter : LB_ yX8_letter cX8_letter 4 (some .int) 3 := ⟨gs_4 33 rfl rfl, gs_1 1 rfl rfl, ⟨by decide +kernel, by decide +kernel, by decide +kernel⟩, by decide⟩
set_option maxRecDepth 100000 in
theorem lk_L_37 : LV_ RL 37 yX8_letter cX8_letter 4 (some .int) 3 8 := ⟨lb_X8_letter, gs_4 30 rfl rfl, gs_4 31 rfl rfl, gs_4 32 rfl rfl, _, rfl, rfl⟩
set_option maxRecDepth 100000 in
theorem lb_X9_letter : LB_ yX9_letter cX9_letter 9 (some .int) 3 := ⟨gs_7 160 rfl rfl, gs_1 14 rfl rfl, ⟨by decide +kernel, by decide +kernel, by decide +kernel⟩, by decide⟩
set_option maxRecDepth 100000 in
theorem lk_L_41 : LV_ RL 41 yX9_letter cX9_letter 9 (some .int) 3 9 := ⟨lb_X9_letter, gs_7 157 rfl rfl, gs_7 158 rfl rfl, gs_7 159 rfl rfl, _, rfl, rfl⟩
set_option maxRecDepth 100000 in
theorem lb_X8_person : LB_ yX8_person cX8_person 3 (some .int) 2 := ⟨gs_4 45 rfl rfl, gs_1 1 rfl rfl, ⟨by decide +kernel, by decide +kernel, by decide +kernel⟩, by decide⟩
set_option maxRecDepth 100000 in
theorem lk_L_42 : LV_ RL 42 yX8_person cX8_person 3 (some .int) 2 8 := ⟨lb_X8_person, gs_4 42 rfl rfl, gs_4 43 rfl rfl, gs_4 44 rfl rfl, _, rfl, rfl⟩
set_option maxRecDepth 100000 in
theorem lb_X9_person : LB_ yX9_person cX9_person 5 (some .int) 2 := ⟨gs_7 165 rfl rfl, gs_1 14 rfl rfl, ⟨by decide +kernel, by decide +kernel, by decide +kernel⟩, by decide⟩
set_option maxRecDepth 100000 in
theorem lk_L_46 : LV_ RL 46 yX9_person cX9_person 5 (some .int) 2 9 := ⟨lb_X9_person, gs_7 162 rfl rfl, gs_7 163 rfl rfl, gs_7 164 rfl rfl, _, rfl, rfl⟩
set_option maxRecDepth 100000 in
theorem lb_X8_coin : LB_ yX8_coin cX8_coin 3 (some .int) 2 := ⟨gs_4 68 rfl rfl, gs_1 1 rfl rfl, ⟨by decide +kernel, by decide +kernel, by decide +kernel⟩, by decide⟩
set_option maxRecDepth 100000 in
theorem lk_L_47 : LV_ RL 47 yX8_coin cX8_coin 3 (some .int) 2 8 := ⟨lb_X8_coin, gs_4 65 rfl rfl, gs_4 66 rfl rfl, gs_4 67 rfl rfl, _, rfl, rfl⟩
set_option maxRecDepth 100000 in
theorem lb_X9_coin : LB_ yX9_coin cX9_coin 3 (some .int) 2 := ⟨gs_7 185 rfl rfl, gs_1 14 rfl rfl, ⟨by decide +kernel, by decide +kernel, by decide +kernel⟩, by decide⟩
set_option maxRecDepth 100000 in
theorem lk_L_50 : LV_ RL 50 yX9_coin cX9_coin 3 (some .int) 2 9 := ⟨lb_X9_coin, gs_7 182 rfl rfl, gs_7 183 rfl rfl, gs_7 184 rfl rfl, _, rfl, rfl⟩
set_option maxRecDepth 100000 in
theorem lb_X8_met : LB_ yX8_met cX8_met 3 (some .int) 2 := ⟨gs_4 73 rfl rfl, gs_1 1 rfl rfl, ⟨by decide +kernel, by decide +kernel, by decide +kernel⟩, by decide⟩
set_option maxRecDepth 100000 in
theorem lk_L_51 : LV_ RL 51 yX8_met cX8_met 3 (some .int) 2 8 := ⟨lb_X8_met, gs_4 70 rfl rfl, gs_4 71 rfl rfl, gs_4 72 rfl rfl, _, rfl, rfl⟩
set_option maxRecDepth 100000 in
theorem lb_X9_met : LB_ yX9_met cX9_met 3 (some .int) 2 := ⟨gs_7 193 rfl rfl, gs_1 14 rfl rfl, ⟨by decide +kernel, by decide +kernel, by decide +kernel⟩, by decide⟩
set_option maxRecDepth 100000 in
theorem lk_L_54 : LV_ RL 54 yX9_met cX9_met 3 (some .int) 2 9 := ⟨lb_X9_met, gs_7 190 rfl rfl, gs_7 191 rfl rfl, gs_7 192 rfl rfl, _, rfl, rfl⟩
set_option maxRecDepth 100000 in
theorem lb_X8_may : LB_ yX8_may cX8_may 3 (some .int) 2 := ⟨gs_4 86 rfl rfl, gs_1 1 rfl rfl, ⟨by decide +kernel, by decide +kernel, by decide +kernel⟩, by decide⟩
set_option maxRecDepth 100000 in
theorem lk_L_55 : LV_ RL 55 yX8_may cX8_may 3 (some .int) 2 8 := ⟨lb_X8_may, gs_4 83 rfl rfl, gs_4 84 rfl rfl, gs_4 85 rfl rfl, _, rfl, rfl⟩
set_option maxRecDepth 100000 in
theorem lb_X9_may : LB_ yX9_may cX9_may 3 (some .int) 2 := ⟨gs_7 197 rfl rfl, gs_1 14 rfl rfl, ⟨by decide +kernel, by decide +kernel, by decide +kernel⟩, by decide⟩
set_option maxRecDepth 100000 in
theorem lk_L_58 : LV_ RL 58 yX9_may cX9_may 3 (some .int) 2 9 := ⟨lb_X9_may, gs_7 194 rfl rfl, gs_7 195 rfl rfl, gs_7 196 rfl rfl, _, rfl, rfl⟩
set_option maxRecDepth 100000 in
theorem lb_X8_goods : LB_ yX8_goods cX8_goods 4 (some .int) 3 := ⟨gs_4 134 rfl rfl, gs_1 1 rfl rfl, ⟨by decide +kernel, by decide +kernel, by decide +kernel⟩, by decide⟩
set_option maxRecDepth 100000 in
theorem lk_L_59 : LV_ RL 59 yX8_goods cX8_goods 4 (some .int) 3 8 := ⟨lb_X8_goods, gs_4 131 rfl rfl, gs_4 132 rfl rfl, gs_4 133 rfl rfl, _, rfl, rfl⟩
set_option maxRecDepth 100000 in
theorem lb_X9_goods : LB_ yX9_goods cX9_goods 4 (some .int) 3 := ⟨gs_7 232 rfl rfl, gs_1 14 rfl rfl, ⟨by decide +kernel, by decide +kernel, by decide +kernel⟩, by decide⟩
set_option maxRecDepth 100000 in
theorem lk_L_62 : LV_ RL 62 yX9_goods cX9_goods 4 (some .int) 3 9 := ⟨lb_X9_goods, gs_7 229 rfl rfl, gs_7 230 rfl rfl, gs_7 231 rfl rfl, _, rfl, rfl⟩
set_option maxRecDepth 100000 in
theorem lb_X8_spend : LB_ yX8_spend cX8_spend 3 (some .int) 2 := ⟨gs_4 145 rfl rfl, gs_1 1 rfl rfl, ⟨by decide +kernel, by decide +kernel, by decide +kernel⟩, by decide⟩
set_option maxRecDepth 100000 in
theorem lk_L_63 : LV_ RL 63 yX8_spend cX8_spend 3 (some .int) 2 8 := ⟨lb_X8_spend, gs_4 142 rfl rfl, gs_4 143 rfl rfl, gs_4 144 rfl rfl, _, rfl, rfl⟩
set_option maxRecDepth 100000 in
theorem lb_X9_spend : LB_ yX9_spend cX9_spend 3 (some .int) 2 := ⟨gs_8 5 rfl rfl, gs_1 14 rfl rfl, ⟨by decide +kernel, by decide +kernel, by decide +kernel⟩, by decide⟩
set_option maxRecDepth 100000 in
theorem lk_L_66 : LV_ RL 66 yX9_spend cX9_spend 3 (some .int) 2 9 := ⟨lb_X9_spend, gs_8 2 rfl rfl, gs_8 3 rfl rfl, gs_8 4 rfl rfl, _, rfl, rfl⟩
set_option maxRecDepth 100000 in
theorem lb_X8_present : LB_ yX8_present cX8_present 3 (some .int) 2 := ⟨gs_4 158 rfl rfl, gs_1 1 rfl rfl, ⟨by decide +kernel, by decide +kernel, by decide +kernel⟩, by decide⟩
set_option maxRecDepth 100000 in
theorem lk_L_67 : LV_ RL 67 yX8_present cX8_present 3 (some .int) 2 8 := ⟨lb_X8_present, gs_4 155 rfl rfl, gs_4 156 rfl rfl, gs_4 157 rfl rfl, _, rfl, rfl⟩
set_option maxRecDepth 100000 in
theorem lb_X9_present : LB_ yX9_present cX9_present 3 (some .int) 2 := ⟨gs_8 13 rfl rfl, gs_1 14 rfl rfl, ⟨by decide +kernel, by decide +kernel, by decide +kernel⟩, by decide⟩
set_option maxRecDepth 100000 in
theorem lk_L_70 : LV_ RL 70 yX9_present cX9_present 3 (some .int) 2 9 := ⟨lb_X9_present, gs_8 10 rfl rfl, gs_8 11 rfl rfl, gs_8 12 rfl rfl, _, rfl, rfl⟩
set_option maxRecDepth 100000 in
theorem lb_X8_pay : LB_ yX8_pay cX8_pay 3 (some .boolean) 2 := ⟨gs_4 183 rfl rfl, gs_1 1 rfl rfl, ⟨by decide +kernel, by decide +kernel, by decide +kernel⟩, by decide⟩
set_option maxRecDepth 100000 in
theorem lk_L_71 : LV_ RL 71 yX8_pay cX8_pay 3 (some .boolean) 2 8 := ⟨lb_X8_pay, gs_4 180 rfl rfl, gs_4 181 rfl rfl, gs_4 182 rfl rfl, _, rfl, rfl⟩
set_option maxRecDepth 100000 in
theorem lb_X9_pay : LB_ yX9_pay cX9_pay 3 (some .boolean) 2 := ⟨gs_8 33 rfl rfl, gs_1 14 rfl rfl, ⟨by decide +kernel, by decide +kernel, by decide +kernel⟩, by decide⟩
set_option maxRecDepth 100000 in
theorem lk_L_75 : LV_ RL 75 yX9_pay cX9_pay 3 (some .boolean) 2 9 := ⟨lb_X9_pay, gs_8 30 rfl rfl, gs_8 31 rfl rfl, gs_8 32 rfl rfl, _, rfl, rfl⟩
set_option maxRecDepth 100000 in
theorem lb_X8_buy : LB_ yX8_buy cX8_buy 5 (some .int) 3 := ⟨gs_4 191 rfl rfl, gs_1 1 rfl rfl, ⟨by decide +kernel, by decide +kernel, by decide +kernel⟩, by decide⟩
set_option maxRecDepth 100000 in
theorem lk_L_76 : LV_ RL 76 yX8_buy cX8_buy 5 (some .int) 3 8 := ⟨lb_X8_buy, gs_4 188 rfl rfl, gs_4 189 rfl rfl, gs_4 190 rfl rfl, _, rfl, rfl⟩
set_option maxRecDepth 100000 in
theorem lb_X9_buy : LB_ yX9_buy cX9_buy 8 (some .int) 3 := ⟨gs_8 41 rfl rfl, gs_1 14 rfl rfl, ⟨by decide +kernel, by decide +kernel, by decide +kernel⟩, by decide⟩
set_option maxRecDepth 100000 in
theorem lk_L_79 : LV_ RL 79 yX9_buy cX9_buy 8 (some .int) 3 9 := ⟨lb_X9_buy, gs_8 38 rfl rfl, gs_8 39 rfl rfl, gs_8 40 rfl rfl, _, rfl, rfl⟩
set_option maxRecDepth 100000 in
theorem lb_X8_tea : LB_ yX8_tea cX8_tea 3 (some .int) 1 := ⟨gs_4 211 rfl rfl, gs_1 1 rfl rfl, ⟨by decide +kernel, by decide +kernel, by decide +kernel⟩, by decide⟩
set_option maxRecDepth 100000 in
theorem lk_L_80 : LV_ RL 80 yX8_tea cX8_tea 3 (some .int) 1 8 := ⟨lb_X8_tea, gs_4 208 rfl rfl, gs_4 209 rfl rfl, gs_4 210 rfl rfl, _, rfl, rfl⟩
set_option maxRecDepth 100000 in
theorem lb_X9_tea : LB_ yX9_tea cX9_tea 2 (some .int) 1 := ⟨gs_8 49 rfl rfl, gs_1 14 rfl rfl, ⟨by decide +kernel, by decide +kernel, by decide +kernel⟩, by decide⟩
set_option maxRecDepth 100000 in
theorem lk_L_83 : LV_ RL 83 yX9_tea cX9_tea 2 (some .int) 1 9 := ⟨lb_X9_tea, gs_8 46 rfl rfl, gs_8 47 rfl rfl, gs_8 48 rfl rfl, _, rfl, rfl⟩
set_option maxRecDepth 100000 in
theorem lb_X8_days : LB_ yX8_days cX8_days 2 (some .int) 1 := ⟨gs_4 221 rfl rfl, gs_1 1 rfl rfl, ⟨by decide +kernel, by decide +kernel, by decide +kernel⟩, by decide⟩
set_option maxRecDepth 100000 in
theorem lk_L_84 : LV_ RL 84 yX8_days cX8_days 2 (some .int) 1 8 := ⟨lb_X8_days, gs_4 218 rfl rfl, gs_4 219 rfl rfl, gs_4 220 rfl rfl, _, rfl, rfl⟩
set_option maxRecDepth 100000 in
theorem lb_X9_days : LB_ yX9_days cX9_days 4 (some .int) 1 := ⟨gs_8 57 rfl rfl, gs_1 14 rfl rfl, ⟨by decide +kernel, by decide +kernel, by decide +kernel⟩, by decide⟩
set_option maxRecDepth 100000 in
theorem lk_L_87 : LV_ RL 87 yX9_days cX9_days 4 (some .int) 1 9 := ⟨lb_X9_days, gs_8 54 rfl rfl, gs_8 55 rfl rfl, gs_8 56 rfl rfl, _, rfl, rfl⟩
set_option maxRecDepth 100000 in
theorem lb_X8_calls : LB_ yX8_calls cX8_calls 4 (some .int) 1 := ⟨gs_4 234 rfl rfl, gs_1 1 rfl rfl, ⟨by decide +kernel, by decide +kernel, by decide +kernel⟩, by decide⟩
set_option maxRecDepth 100000 in
theorem lk_L_88 : LV_ RL 88 yX8_calls cX8_calls 4 (some .int) 1 8 := ⟨lb_X8_calls, gs_4 231 rfl rfl, gs_4 232 rfl rfl, gs_4 233 rfl rfl, _, rfl, rfl⟩
set_option maxRecDepth 100000 in
theorem lb_X9_calls : LB_ yX9_calls cX9_calls 6 (some .int) 1 := ⟨gs_8 65 rfl rfl, gs_1 14 rfl rfl, ⟨by decide +kernel, by decide +kernel, by decide +kernel⟩, by decide⟩
set_option maxRecDepth 100000 in
theorem lk_L_91 : LV_ RL 91 yX9_calls cX9_calls 6 (some .int) 1 9 := ⟨lb_X9_calls, gs_8 62 rfl rfl, gs_8 63 rfl rfl, gs_8 64 rfl rfl, _, rfl, rfl⟩
set_option maxRecDepth 100000 in
theorem lb_X8_undo : LB_ yX8_undo cX8_undo 1 (some .boolean) 0 := ⟨gs_5 9 rfl rfl, gs_1 1 rfl rfl, ⟨by decide +kernel, by decide +kernel, by decide +kernel⟩, by decide⟩
set_option maxRecDepth 100000 in
theorem lk_L_92 : LV_ RL 92 yX8_undo cX8_undo 1 (some .boolean) 0 8 := ⟨lb_X8_undo, gs_5 6 rfl rfl, gs_5 7 rfl rfl, gs_5 8 rfl rfl, _, rfl, rfl⟩
set_option maxRecDepth 100000 in
theorem lb_X9_undo : LB_ yX9_undo cX9_undo 1 (some .boolean) 0 := ⟨gs_7 125 rfl rfl, gs_1 14 rfl rfl, ⟨by decide +kernel, by decide +kernel, by decide +kernel⟩, by decide⟩
set_option maxRecDepth 100000 in
theorem lk_L_96 : LV_ RL 96 yX9_undo cX9_undo 1 (some .boolean) 0 9 := ⟨lb_X9_undo, gs_7 122 rfl rfl, gs_7 123 rfl rfl, gs_7 124 rfl rfl, _, rfl, rfl⟩
set_option maxRecDepth 100000 in
theorem lb_X8_seed : LB_ yX8_seed cX8_seed 2 (some .boolean) 1 := ⟨gs_5 17 rfl rfl, gs_1 1 rfl rfl, ⟨by decide +kernel, by decide +kernel, by decide +kernel⟩, by decide⟩
set_option maxRecDepth 100000 in
theorem lk_L_97 : LV_ RL 97 yX8_seed cX8_seed 2 (some .boolean) 1 8 := ⟨lb_X8_seed, gs_5 14 rfl rfl, gs_5 15 rfl rfl, gs_5 16 rfl rfl, _, rfl, rfl⟩
set_option maxRecDepth 100000 in
theorem lb_X9_seed : LB_ yX9_seed cX9_seed 2 (some .boolean) 1 := ⟨gs_8 77 rfl rfl, gs_1 14 rfl rfl, ⟨by decide +kernel, by decide +kernel, by decide +kernel⟩, by decide⟩
set_option maxRecDepth 100000 in
theorem lk_L_100 : LV_ RL 100 yX9_seed cX9_seed 2 (some .boolean) 1 9 := ⟨lb_X9_seed, gs_8 74 rfl rfl, gs_8 75 rfl rfl, gs_8 76 rfl rfl, _, rfl, rfl⟩
set_option maxRecDepth 100000 in
theorem lb_X8_introduce : LB_ yX8_introduce cX8_introduce 6 (some .int) 4 := ⟨gs_5 21 rfl rfl, gs_1 1 rfl rfl, ⟨by decide +kernel, by decide +kernel, by decide +kernel⟩, by decide⟩
set_option maxRecDepth 100000 in
theorem lk_L_101 : LV_ RL 101 yX8_introduce cX8_introduce 6 (some .int) 4 8 := ⟨lb_X8_introduce, gs_5 18 rfl rfl, gs_5 19 rfl rfl, gs_5 20 rfl rfl, _, rfl, rfl⟩
set_option maxRecDepth 100000 in
theorem lb_X9_introduce : LB_ yX9_introduce cX9_introduce 11 (some .int) 4 := ⟨gs_8 81 rfl rfl, gs_1 14 rfl rfl, ⟨by decide +kernel, by decide +kernel, by decide +kernel⟩, by decide⟩
set_option maxRecDepth 100000 in
theorem lk_L_105 : LV_ RL 105 yX9_introduce cX9_introduce 11 (some .int) 4 9 := ⟨lb_X9_introduce, gs_8 78 rfl rfl, gs_8 79 rfl rfl, gs_8 80 rfl rfl, _, rfl, rfl⟩
set_option maxRecDepth 100000 in
theorem lb_X8_comes : LB_ yX8_comes cX8_comes 5 (some .int) 3 := ⟨gs_5 34 rfl rfl, gs_1 1 rfl rfl, ⟨by decide +kernel, by decide +kernel, by decide +kernel⟩, by decide⟩
set_option maxRecDepth 100000 in
theorem lk_L_106 : LV_ RL 106 yX8_comes cX8_comes 5 (some .int) 3 8 := ⟨lb_X8_comes, gs_5 31 rfl rfl, gs_5 32 rfl rfl, gs_5 33 rfl rfl, _, rfl, rfl⟩
set_option maxRecDepth 100000 in
theorem lb_X9_comes : LB_ yX9_comes cX9_comes 8 (some .int) 3 := ⟨gs_8 85 rfl rfl, gs_1 14 rfl rfl, ⟨by decide +kernel, by decide +kernel, by decide +kernel⟩, by decide⟩
set_option maxRecDepth 100000 in
theorem lk_L_109 : LV_ RL 109 yX9_comes cX9_comes 8 (some .int) 3 9 := ⟨lb_X9_comes, gs_8 82 rfl rfl, gs_8 83 rfl rfl, gs_8 84 rfl rfl, _, rfl, rfl⟩
set_option maxRecDepth 100000 in
theorem lb_X8_best : LB_ yX8_best cX8_best 8 (some .int) 2 := ⟨gs_5 81 rfl rfl, gs_1 1 rfl rfl, ⟨by decide +kernel, by decide +kernel, by decide +kernel⟩, by decide⟩
set_option maxRecDepth 100000 in
theorem lk_L_110 : LV_ RL 110 yX8_best cX8_best 8 (some .int) 2 8 := ⟨lb_X8_best, gs_5 78 rfl rfl, gs_5 79 rfl rfl, gs_5 80 rfl rfl, _, rfl, rfl⟩
set_option maxRecDepth 100000 in
theorem lb_X9_best : LB_ yX9_best cX9_best 6 (some .int) 2 := ⟨gs_8 102 rfl rfl, gs_1 14 rfl rfl, ⟨by decide +kernel, by decide +kernel, by decide +kernel⟩, by decide⟩
set_option maxRecDepth 100000 in
theorem lk_L_113 : LV_ RL 113 yX9_best cX9_best 6 (some .int) 2 9 := ⟨lb_X9_best, gs_8 99 rfl rfl, gs_8 100 rfl rfl, gs_8 101 rfl rfl, _, rfl, rfl⟩
set_option maxRecDepth 100000 in
theorem lb_X8_letters : LB_ yX8_letters cX8_letters 4 (some .int) 0 := ⟨gs_5 86 rfl rfl, gs_1 1 rfl rfl, ⟨by decide +kernel, by decide +kernel, by decide +kernel⟩, by decide⟩
set_option maxRecDepth 100000 in
theorem lk_L_114 : LV_ RL 114 yX8_letters cX8_letters 4 (some .int) 0 8 := ⟨lb_X8_letters, gs_5 83 rfl rfl, gs_5 84 rfl rfl, gs_5 85 rfl rfl, _, rfl, rfl⟩
set_option maxRecDepth 100000 in
theorem lb_X9_letters : LB_ yX9_letters cX9_letters 7 (some .int) 0 := ⟨gs_8 106 rfl rfl, gs_1 14 rfl rfl, ⟨by decide +kernel, by decide +kernel, by decide +kernel⟩, by decide⟩
set_option maxRecDepth 100000 in
theorem lk_L_117 : LV_ RL 117 yX9_letters cX9_letters 7 (some .int) 0 9 := ⟨lb_X9_letters, gs_8 103 rfl rfl, gs_8 104 rfl rfl, gs_8 105 rfl rfl, _, rfl, rfl⟩
set_option maxRecDepth 100000 in
theorem lb_X8_letterIs : LB_ yX8_letterIs cX8_letterIs 2 (some .int) 1 := ⟨gs_5 102 rfl rfl, gs_1 1 rfl rfl, ⟨by decide +kernel, by decide +kernel, by decide +kernel⟩, by decide⟩
set_option maxRecDepth 100000 in
theorem lk_L_118 : LV_ RL 118 yX8_letterIs cX8_letterIs 2 (some .int) 1 8 := ⟨lb_X8_letterIs, gs_5 99 rfl rfl, gs_5 100 rfl rfl, gs_5 101 rfl rfl, _, rfl, rfl⟩
set_option maxRecDepth 100000 in
theorem lb_X9_letterIs : LB_ yX9_letterIs cX9_letterIs 2 (some .int) 1 := ⟨gs_8 110 rfl rfl, gs_1 14 rfl rfl, ⟨by decide +kernel, by decide +kernel, by decide +kernel⟩, by decide⟩
set_option maxRecDepth 100000 in
theorem lk_L_121 : LV_ RL 121 yX9_letterIs cX9_letterIs 2 (some .int) 1 9 := ⟨lb_X9_letterIs, gs_8 107 rfl rfl, gs_8 108 rfl rfl, gs_8 109 rfl rfl, _, rfl, rfl⟩
set_option maxRecDepth 100000 in
theorem lb_X8_fair : LB_ yX8_fair cX8_fair 5 (some .int) 2 := ⟨gs_5 106 rfl rfl, gs_1 1 rfl rfl, ⟨by decide +kernel, by decide +kernel, by decide +kernel⟩, by decide⟩
set_option maxRecDepth 100000 in
theorem lk_L_122 : LV_ RL 122 yX8_fair cX8_fair 5 (some .int) 2 8 := ⟨lb_X8_fair, gs_5 103 rfl rfl, gs_5 104 rfl rfl, gs_5 105 rfl rfl, _, rfl, rfl⟩
set_option maxRecDepth 100000 in
theorem lb_X9_fair : LB_ yX9_fair cX9_fair 8 (some .int) 2 := ⟨gs_8 114 rfl rfl, gs_1 14 rfl rfl, ⟨by decide +kernel, by decide +kernel, by decide +kernel⟩, by decide⟩
set_option maxRecDepth 100000 in
theorem lk_L_125 : LV_ RL 125 yX9_fair cX9_fair 8 (some .int) 2 9 := ⟨lb_X9_fair, gs_8 111 rfl rfl, gs_8 112 rfl rfl, gs_8 113 rfl rfl, _, rfl, rfl⟩
set_option maxRecDepth 100000 in
theorem lb_X8_later : LB_ yX8_later cX8_later 3 (some .int) 2 := ⟨gs_5 122 rfl rfl, gs_1 1 rfl rfl, ⟨by decide +kernel, by decide +kernel, by decide +kernel⟩, by decide⟩
set_option maxRecDepth 100000 in
theorem lk_L_126 : LV_ RL 126 yX8_later cX8_later 3 (some .int) 2 8 := ⟨lb_X8_later, gs_5 119 rfl rfl, gs_5 120 rfl rfl, gs_5 121 rfl rfl, _, rfl, rfl⟩
set_option maxRecDepth 100000 in
theorem lb_X9_later : LB_ yX9_later cX9_later 4 (some .int) 2 := ⟨gs_8 118 rfl rfl, gs_1 14 rfl rfl, ⟨by decide +kernel, by decide +kernel, by decide +kernel⟩, by decide⟩
set_option maxRecDepth 100000 in
theorem lk_L_129 : LV_ RL 129 yX9_later cX9_later 4 (some .int) 2 9 := ⟨lb_X9_later, gs_8 115 rfl rfl, gs_8 116 rfl rfl, gs_8 117 rfl rfl, _, rfl, rfl⟩
set_option maxRecDepth 100000 in
theorem lb_X8_useless : LB_ yX8_useless cX8_useless 4 (some .int) 1 := ⟨gs_5 126 rfl rfl, gs_1 1 rfl rfl, ⟨by decide +kernel, by decide +kernel, by decide +kernel⟩, by decide⟩
set_option maxRecDepth 100000 in
theorem lk_L_130 : LV_ RL 130 yX8_useless cX8_useless 4 (some .int) 1 8 := ⟨lb_X8_useless, gs_5 123 rfl rfl, gs_5 124 rfl rfl, gs_5 125 rfl rfl, _, rfl, rfl⟩
set_option maxRecDepth 100000 in
theorem lb_X9_useless : LB_ yX9_useless cX9_useless 4 (some .int) 1 := ⟨gs_8 126 rfl rfl, gs_1 14 rfl rfl, ⟨by decide +kernel, by decide +kernel, by decide +kernel⟩, by decide⟩
set_option maxRecDepth 100000 in
theorem lk_L_133 : LV_ RL 133 yX9_useless cX9_useless 4 (some .int) 1 9 := ⟨lb_X9_useless, gs_8 123 rfl rfl, gs_8 124 rfl rfl, gs_8 125 rfl rfl, _, rfl, rfl⟩
set_option maxRecDepth 100000 in
theorem lb_X8_image : LB_ yX8_image cX8_image 4 (some .int) 0 := ⟨gs_5 134 rfl rfl, gs_1 1 rfl rfl, ⟨by decide +kernel, by decide +kernel, by decide +kernel⟩, by decide⟩
set_option maxRecDepth 100000 in
theorem lk_L_134 : LV_ RL 134 yX8_image cX8_image 4 (some .int) 0 8 := ⟨lb_X8_image, gs_5 131 rfl rfl, gs_5 132 rfl rfl, gs_5 133 rfl rfl, _, rfl, rfl⟩
set_option maxRecDepth 100000 in
theorem lb_X9_image : LB_ yX9_image cX9_image 3 (some .int) 0 := ⟨gs_8 130 rfl rfl, gs_1 14 rfl rfl, ⟨by decide +kernel, by decide +kernel, by decide +kernel⟩, by decide⟩
set_option maxRecDepth 100000 in
theorem lk_L_137 : LV_ RL 137 yX9_image cX9_image 3 (some .int) 0 9 := ⟨lb_X9_image, gs_8 127 rfl rfl, gs_8 128 rfl rfl, gs_8 129 rfl rfl, _, rfl, rfl⟩
set_option maxRecDepth 100000 in
theorem lb_X8_octet : LB_ yX8_octet cX8_octet 2 (some .int) 1 := ⟨gs_5 146 rfl rfl, gs_1 1 rfl rfl, ⟨by decide +kernel, by decide +kernel, by decide +kernel⟩, by decide⟩
set_option maxRecDepth 100000 in
theorem lk_L_138 : LV_ RL 138 yX8_octet cX8_octet 2 (some .int) 1 8 := ⟨lb_X8_octet, gs_5 143 rfl rfl, gs_5 144 rfl rfl, gs_5 145 rfl rfl, _, rfl, rfl⟩
set_option maxRecDepth 100000 in
theorem lb_X9_octet : LB_ yX9_octet cX9_octet 2 (some .int) 1 := ⟨gs_8 142 rfl rfl, gs_1 14 rfl rfl, ⟨by decide +kernel, by decide +kernel, by decide +kernel⟩, by decide⟩
set_option maxRecDepth 100000 in
theorem lk_L_141 : LV_ RL 141 yX9_octet cX9_octet 2 (some .int) 1 9 := ⟨lb_X9_octet, gs_8 139 rfl rfl, gs_8 140 rfl rfl, gs_8 141 rfl rfl, _, rfl, rfl⟩
set_option maxRecDepth 100000 in
theorem lb_X8_on : LB_ yX8_on cX8_on 6 (some .boolean) 0 := ⟨gs_5 150 rfl rfl, gs_1 1 rfl rfl, ⟨by decide +kernel, by decide +kernel, by decide +kernel⟩, by decide⟩
set_option maxRecDepth 100000 in
theorem lk_L_142 : LV_ RL 142 yX8_on cX8_on 6 (some .boolean) 0 8 := ⟨lb_X8_on, gs_5 147 rfl rfl, gs_5 148 rfl rfl, gs_5 149 rfl rfl, _, rfl, rfl⟩
set_option maxRecDepth 100000 in
theorem lb_X9_on : LB_ yX9_on cX9_on 2 (some .boolean) 0 := ⟨gs_8 146 rfl rfl, gs_1 14 rfl rfl, ⟨by decide +kernel, by decide +kernel, by decide +kernel⟩, by decide⟩
set_option maxRecDepth 100000 in
theorem lk_L_145 : LV_ RL 145 yX9_on cX9_on 2 (some .boolean) 0 9 := ⟨lb_X9_on, gs_8 143 rfl rfl, gs_8 144 rfl rfl, gs_8 145 rfl rfl, _, rfl, rfl⟩
set_option maxRecDepth 100000 in
theorem lb_X8_status : LB_ yX8_status cX8_status 2 (some .int) 1 := ⟨gs_5 175 rfl rfl, gs_1 1 rfl rfl, ⟨by decide +kernel, by decide +kernel, by decide +kernel⟩, by decide⟩
set_option maxRecDepth 100000 in
theorem lk_L_146 : LV_ RL 146 yX8_status cX8_status 2 (some .int) 1 8 := ⟨lb_X8_status, gs_5 172 rfl rfl, gs_5 173 rfl rfl, gs_5 174 rfl rfl, _, rfl, rfl⟩
set_option maxRecDepth 100000 in
theorem lb_X9_status : LB_ yX9_status cX9_status 2 (some .int) 1 := ⟨gs_7 121 rfl rfl, gs_1 14 rfl rfl, ⟨by decide +kernel, by decide +kernel, by decide +kernel⟩, by decide⟩
set_option maxRecDepth 100000 in
theorem lk_L_149 : LV_ RL 149 yX9_status cX9_status 2 (some .int) 1 9 := ⟨lb_X9_status, gs_7 118 rfl rfl, gs_7 119 rfl rfl, gs_7 120 rfl rfl, _, rfl, rfl⟩
set_option maxRecDepth 100000 in
set_option maxHeartbeats 4000000 in
def fL_law_J1112_18 (sh : AwS) (M : AwM) (v0 : Int) (v1 : Int) (v2 : Int) (v3 : Int) : Option ((Int × AwM) ⊕ (AwM)) :=
  some (.inl ((w32 (v3 + 6)), M))
set_option maxRecDepth 100000 in
set_option maxHeartbeats 4000000 in
def fL_law_L18 (xi : Int → Int) (L : Int) (sh : AwS) (v0 : Int) (v1 : Int) (v2 : Int) (v3 : Int) (M : AwM) : Option ((Int × AwM) ⊕ (AwM)) :=
  gd_ (1 ≤ (kd_ sh v0).1 ∧ (kd_ sh v0).1 ≤ 5 ∧ (kd_ sh v0).2 ≤ 2147483647) ((if (w32 (((kd_ sh v0).2 : Int) - 6)) < v3 then some (.inr M) else gd_ ((kd_ sh v0).1 = 1 ∧ (0 : Int) ≤ v3 ∧ v3 < ((kd_ sh v0).2 : Int)) ((if (an_ (M v0 v3) 31) = 0 then gd_ ((kd_ sh v0).1 = 1 ∧ (0 : Int) ≤ (w32 (v3 + 1)) ∧ (w32 (v3 + 1)) < ((kd_ sh v0).2 : Int)) (gd_ ((kd_ sh v0).1 = 1 ∧ (0 : Int) ≤ (w32 (v3 + 2)) ∧ (w32 (v3 + 2)) < ((kd_ sh v0).2 : Int)) (gd_ ((kd_ sh v0).1 = 1 ∧ (0 : Int) ≤ (w32 (v3 + 3)) ∧ (w32 (v3 + 3)) < ((kd_ sh v0).2 : Int)) (gd_ ((kd_ sh v0).1 = 1 ∧ (0 : Int) ≤ (w32 (v3 + 4)) ∧ (w32 (v3 + 4)) < ((kd_ sh v0).2 : Int)) (gd_ ((kd_ sh v0).1 = 1 ∧ (0 : Int) ≤ (w32 (v3 + 5)) ∧ (w32 (v3 + 5)) < ((kd_ sh v0).2 : Int)) (gd_ (kd_ sh v1 = (0, 8)) (pb (fX8_feed sh M v1 (M v0 (w32 (v3 + 1))) (M v0 (w32 (v3 + 2))) (M v0 (w32 (v3 + 3))) (M v0 (w32 (v3 + 4))) (M v0 (w32 (v3 + 5)))) <| u2 fun (x59 : Int) (M60 : AwM) => (gd_ (kd_ sh v2 = (0, 9)) (pb (fX9_feed sh M60 v2 (M60 v0 (w32 (v3 + 1))) (M60 v0 (w32 (v3 + 2))) (M60 v0 (w32 (v3 + 3))) (M60 v0 (w32 (v3 + 4))) (M60 v0 (w32 (v3 + 5)))) <| u2 fun (x63 : Int) (M64 : AwM) => ((if x59 = x63 then fL_law_J1112_18 sh M64 v0 v1 v2 v3 else none)))))))))) else (if (an_ (M v0 v3) 31) = 1 then gd_ ((kd_ sh v0).1 = 1 ∧ (0 : Int) ≤ (w32 (v3 + 1)) ∧ (w32 (v3 + 1)) < ((kd_ sh v0).2 : Int)) (gd_ (kd_ sh v1 = (0, 8)) (pb (fX8_end sh M v1 (M v0 (w32 (v3 + 1)))) <| u2 fun (x69 : Int) (M70 : AwM) => (gd_ (kd_ sh v2 = (0, 9)) (pb (fX9_end sh M70 v2 (M70 v0 (w32 (v3 + 1)))) <| u2 fun (x73 : Int) (M74 : AwM) => ((if x69 = x73 then fL_law_J1112_18 sh M74 v0 v1 v2 v3 else none)))))) else (if (an_ (M v0 v3) 31) = 2 then gd_ (kd_ sh v1 = (0, 8)) (pb (fX8_society sh M v1) <| u2 fun (x78 : Int) (M79 : AwM) => (gd_ (kd_ sh v2 = (0, 9)) (pb (fX9_society sh M79 v2) <| u2 fun (x82 : Int) (M83 : AwM) => ((if x78 = x82 then fL_law_J1112_18 sh M83 v0 v1 v2 v3 else none))))) else (if (an_ (M v0 v3) 31) = 3 then gd_ ((kd_ sh v0).1 = 1 ∧ (0 : Int) ≤ (w32 (v3 + 1)) ∧ (w32 (v3 + 1)) < ((kd_ sh v0).2 : Int)) (gd_ (kd_ sh v1 = (0, 8)) (pb (fX8_fault sh M v1 (M v0 (w32 (v3 + 1)))) <| u1 fun (x88 : Int) => (gd_ (kd_ sh v2 = (0, 9)) (pb (fX9_fault sh M v2 (M v0 (w32 (v3 + 1)))) <| u1 fun (x91 : Int) => ((if x88 = x91 then fL_law_J1112_18 sh M v0 v1 v2 v3 else none)))))) else (if (an_ (M v0 v3) 31) = 4 then gd_ ((kd_ sh v0).1 = 1 ∧ (0 : Int) ≤ (w32 (v3 + 1)) ∧ (w32 (v3 + 1)) < ((kd_ sh v0).2 : Int)) (gd_ (kd_ sh v1 = (0, 8)) (pb (fX8_has sh M v1 (M v0 (w32 (v3 + 1)))) <| u1 fun (x96 : Int) => (gd_ (kd_ sh v2 = (0, 9)) (pb (fX9_has sh M v2 (M v0 (w32 (v3 + 1)))) <| u1 fun (x99 : Int) => ((if x96 = x99 then fL_law_J1112_18 sh M v0 v1 v2 v3 else none)))))) else (if (an_ (M v0 v3) 31) = 5 then gd_ ((kd_ sh v0).1 = 1 ∧ (0 : Int) ≤ (w32 (v3 + 1)) ∧ (w32 (v3 + 1)) < ((kd_ sh v0).2 : Int)) (gd_ ((kd_ sh v0).1 = 1 ∧ (0 : Int) ≤ (w32 (v3 + 2)) ∧ (w32 (v3 + 2)) < ((kd_ sh v0).2 : Int)) (gd_ ((kd_ sh v0).1 = 1 ∧ (0 : Int) ≤ (w32 (v3 + 3)) ∧ (w32 (v3 + 3)) < ((kd_ sh v0).2 : Int)) (gd_ (kd_ sh v1 = (0, 8)) (pb (fX8_letter sh M v1 (M v0 (w32 (v3 + 1))) (M v0 (w32 (v3 + 2))) (M v0 (w32 (v3 + 3)))) <| u1 fun (x106 : Int) => (gd_ (kd_ sh v2 = (0, 9)) (pb (fX9_letter sh M v2 (M v0 (w32 (v3 + 1))) (M v0 (w32 (v3 + 2))) (M v0 (w32 (v3 + 3)))) <| u1 fun (x109 : Int) => ((if x106 = x109 then fL_law_J1112_18 sh M v0 v1 v2 v3 else none)))))))) else (if (an_ (M v0 v3) 31) = 6 then gd_ ((kd_ sh v0).1 = 1 ∧ (0 : Int) ≤ (w32 (v3 + 1)) ∧ (w32 (v3 + 1)) < ((kd_ sh v0).2 : Int)) (gd_ ((kd_ sh v0).1 = 1 ∧ (0 : Int) ≤ (w32 (v3 + 2)) ∧ (w32 (v3 + 2)) < ((kd_ sh v0).2 : Int)) (gd_ (kd_ sh v1 = (0, 8)) (pb (fX8_person sh M v1 (M v0 (w32 (v3 + 1))) (M v0 (w32 (v3 + 2)))) <| u1 fun (x115 : Int) => (gd_ (kd_ sh v2 = (0, 9)) (pb (fX9_person sh M v2 (M v0 (w32 (v3 + 1))) (M v0 (w32 (v3 + 2)))) <| u1 fun (x118 : Int) => ((if x115 = x118 then fL_law_J1112_18 sh M v0 v1 v2 v3 else none))))))) else (if (an_ (M v0 v3) 31) = 7 then gd_ ((kd_ sh v0).1 = 1 ∧ (0 : Int) ≤ (w32 (v3 + 1)) ∧ (w32 (v3 + 1)) < ((kd_ sh v0).2 : Int)) (gd_ ((kd_ sh v0).1 = 1 ∧ (0 : Int) ≤ (w32 (v3 + 2)) ∧ (w32 (v3 + 2)) < ((kd_ sh v0).2 : Int)) (gd_ (kd_ sh v1 = (0, 8)) (pb (fX8_coin sh M v1 (M v0 (w32 (v3 + 1))) (M v0 (w32 (v3 + 2)))) <| u1 fun (x124 : Int) => (gd_ (kd_ sh v2 = (0, 9)) (pb (fX9_coin sh M v2 (M v0 (w32 (v3 + 1))) (M v0 (w32 (v3 + 2)))) <| u1 fun (x127 : Int) => ((if x124 = x127 then fL_law_J1112_18 sh M v0 v1 v2 v3 else none))))))) else (if (an_ (M v0 v3) 31) = 8 then gd_ ((kd_ sh v0).1 = 1 ∧ (0 : Int) ≤ (w32 (v3 + 1)) ∧ (w32 (v3 + 1)) < ((kd_ sh v0).2 : Int)) (gd_ ((kd_ sh v0).1 = 1 ∧ (0 : Int) ≤ (w32 (v3 + 2)) ∧ (w32 (v3 + 2)) < ((kd_ sh v0).2 : Int)) (gd_ (kd_ sh v1 = (0, 8)) (pb (fX8_met sh M v1 (M v0 (w32 (v3 + 1))) (M v0 (w32 (v3 + 2)))) <| u1 fun (x133 : Int) => (gd_ (kd_ sh v2 = (0, 9)) (pb (fX9_met sh M v2 (M v0 (w32 (v3 + 1))) (M v0 (w32 (v3 + 2)))) <| u1 fun (x136 : Int) => ((if x133 = x136 then fL_law_J1112_18 sh M v0 v1 v2 v3 else none))))))) else (if (an_ (M v0 v3) 31) = 9 then gd_ ((kd_ sh v0).1 = 1 ∧ (0 : Int) ≤ (w32 (v3 + 1)) ∧ (w32 (v3 + 1)) < ((kd_ sh v0).2 : Int)) (gd_ ((kd_ sh v0).1 = 1 ∧ (0 : Int) ≤ (w32 (v3 + 2)) ∧ (w32 (v3 + 2)) < ((kd_ sh v0).2 : Int)) (gd_ (kd_ sh v1 = (0, 8)) (pb (fX8_may sh M v1 (M v0 (w32 (v3 + 1))) (M v0 (w32 (v3 + 2)))) <| u2 fun (x142 : Int) (M143 : AwM) => (gd_ (kd_ sh v2 = (0, 9)) (pb (fX9_may sh M143 v2 (M143 v0 (w32 (v3 + 1))) (M143 v0 (w32 (v3 + 2)))) <| u2 fun (x146 : Int) (M147 : AwM) => ((if x142 = x146 then fL_law_J1112_18 sh M147 v0 v1 v2 v3 else none))))))) else (if (an_ (M v0 v3) 31) = 10 then gd_ ((kd_ sh v0).1 = 1 ∧ (0 : Int) ≤ (w32 (v3 + 1)) ∧ (w32 (v3 + 1)) < ((kd_ sh v0).2 : Int)) (gd_ ((kd_ sh v0).1 = 1 ∧ (0 : Int) ≤ (w32 (v3 + 2)) ∧ (w32 (v3 + 2)) < ((kd_ sh v0).2 : Int)) (gd_ ((kd_ sh v0).1 = 1 ∧ (0 : Int) ≤ (w32 (v3 + 3)) ∧ (w32 (v3 + 3)) < ((kd_ sh v0).2 : Int)) (gd_ (kd_ sh v1 = (0, 8)) (pb (fX8_goods sh M v1 (M v0 (w32 (v3 + 1))) (M v0 (w32 (v3 + 2))) (M v0 (w32 (v3 + 3)))) <| u2 fun (x154 : Int) (M155 : AwM) => (gd_ (kd_ sh v2 = (0, 9)) (pb (fX9_goods sh M155 v2 (M155 v0 (w32 (v3 + 1))) (M155 v0 (w32 (v3 + 2))) (M155 v0 (w32 (v3 + 3)))) <| u2 fun (x158 : Int) (M159 : AwM) => ((if x154 = x158 then fL_law_J1112_18 sh M159 v0 v1 v2 v3 else none)))))))) else (if (an_ (M v0 v3) 31) = 11 then gd_ ((kd_ sh v0).1 = 1 ∧ (0 : Int) ≤ (w32 (v3 + 1)) ∧ (w32 (v3 + 1)) < ((kd_ sh v0).2 : Int)) (gd_ ((kd_ sh v0).1 = 1 ∧ (0 : Int) ≤ (w32 (v3 + 2)) ∧ (w32 (v3 + 2)) < ((kd_ sh v0).2 : Int)) (gd_ (kd_ sh v1 = (0, 8)) (pb (fX8_spend sh M v1 (M v0 (w32 (v3 + 1))) (M v0 (w32 (v3 + 2)))) <| u1 fun (x165 : Int) => (gd_ (kd_ sh v2 = (0, 9)) (pb (fX9_spend sh M v2 (M v0 (w32 (v3 + 1))) (M v0 (w32 (v3 + 2)))) <| u1 fun (x168 : Int) => ((if x165 = x168 then fL_law_J1112_18 sh M v0 v1 v2 v3 else none))))))) else (if (an_ (M v0 v3) 31) = 12 then gd_ ((kd_ sh v0).1 = 1 ∧ (0 : Int) ≤ (w32 (v3 + 1)) ∧ (w32 (v3 + 1)) < ((kd_ sh v0).2 : Int)) (gd_ ((kd_ sh v0).1 = 1 ∧ (0 : Int) ≤ (w32 (v3 + 2)) ∧ (w32 (v3 + 2)) < ((kd_ sh v0).2 : Int)) (gd_ (kd_ sh v1 = (0, 8)) (pb (fX8_present sh M v1 (M v0 (w32 (v3 + 1))) (M v0 (w32 (v3 + 2)))) <| u2 fun (x174 : Int) (M175 : AwM) => (gd_ (kd_ sh v2 = (0, 9)) (pb (fX9_present sh M175 v2 (M175 v0 (w32 (v3 + 1))) (M175 v0 (w32 (v3 + 2)))) <| u2 fun (x178 : Int) (M179 : AwM) => ((if x174 = x178 then fL_law_J1112_18 sh M179 v0 v1 v2 v3 else none))))))) else (if (an_ (M v0 v3) 31) = 13 then gd_ ((kd_ sh v0).1 = 1 ∧ (0 : Int) ≤ (w32 (v3 + 1)) ∧ (w32 (v3 + 1)) < ((kd_ sh v0).2 : Int)) (gd_ ((kd_ sh v0).1 = 1 ∧ (0 : Int) ≤ (w32 (v3 + 2)) ∧ (w32 (v3 + 2)) < ((kd_ sh v0).2 : Int)) (gd_ (kd_ sh v1 = (0, 8)) (pb (fX8_pay sh M v1 (M v0 (w32 (v3 + 1))) (M v0 (w32 (v3 + 2)))) <| u2 fun (x185 : Int) (M186 : AwM) => (gd_ (kd_ sh v2 = (0, 9)) (pb (fX9_pay sh M186 v2 (M186 v0 (w32 (v3 + 1))) (M186 v0 (w32 (v3 + 2)))) <| u2 fun (x189 : Int) (M190 : AwM) => ((if x185 = x189 then fL_law_J1112_18 sh M190 v0 v1 v2 v3 else none))))))) else (if (an_ (M v0 v3) 31) = 14 then gd_ ((kd_ sh v0).1 = 1 ∧ (0 : Int) ≤ (w32 (v3 + 1)) ∧ (w32 (v3 + 1)) < ((kd_ sh v0).2 : Int)) (gd_ ((kd_ sh v0).1 = 1 ∧ (0 : Int) ≤ (w32 (v3 + 2)) ∧ (w32 (v3 + 2)) < ((kd_ sh v0).2 : Int)) (gd_ ((kd_ sh v0).1 = 1 ∧ (0 : Int) ≤ (w32 (v3 + 3)) ∧ (w32 (v3 + 3)) < ((kd_ sh v0).2 : Int)) (gd_ (kd_ sh v1 = (0, 8)) (pb (fX8_buy sh M v1 (M v0 (w32 (v3 + 1))) (M v0 (w32 (v3 + 2))) (M v0 (w32 (v3 + 3)))) <| u2 fun (x197 : Int) (M198 : AwM) => (gd_ (kd_ sh v2 = (0, 9)) (pb (fX9_buy sh M198 v2 (M198 v0 (w32 (v3 + 1))) (M198 v0 (w32 (v3 + 2))) (M198 v0 (w32 (v3 + 3)))) <| u2 fun (x201 : Int) (M202 : AwM) => ((if x197 = x201 then fL_law_J1112_18 sh M202 v0 v1 v2 v3 else none)))))))) else (if (an_ (M v0 v3) 31) = 15 then gd_ ((kd_ sh v0).1 = 1 ∧ (0 : Int) ≤ (w32 (v3 + 1)) ∧ (w32 (v3 + 1)) < ((kd_ sh v0).2 : Int)) (gd_ (kd_ sh v1 = (0, 8)) (pb (fX8_tea sh M v1 (M v0 (w32 (v3 + 1)))) <| u2 fun (x207 : Int) (M208 : AwM) => (gd_ (kd_ sh v2 = (0, 9)) (pb (fX9_tea sh M208 v2 (M208 v0 (w32 (v3 + 1)))) <| u2 fun (x211 : Int) (M212 : AwM) => ((if x207 = x211 then fL_law_J1112_18 sh M212 v0 v1 v2 v3 else none)))))) else (if (an_ (M v0 v3) 31) = 16 then gd_ ((kd_ sh v0).1 = 1 ∧ (0 : Int) ≤ (w32 (v3 + 1)) ∧ (w32 (v3 + 1)) < ((kd_ sh v0).2 : Int)) (gd_ (kd_ sh v1 = (0, 8)) (pb (fX8_days sh M v1 (M v0 (w32 (v3 + 1)))) <| u2 fun (x217 : Int) (M218 : AwM) => (gd_ (kd_ sh v2 = (0, 9)) (pb (fX9_days sh M218 v2 (M218 v0 (w32 (v3 + 1)))) <| u2 fun (x221 : Int) (M222 : AwM) => ((if x217 = x221 then fL_law_J1112_18 sh M222 v0 v1 v2 v3 else none)))))) else (if (an_ (M v0 v3) 31) = 17 then gd_ ((kd_ sh v0).1 = 1 ∧ (0 : Int) ≤ (w32 (v3 + 1)) ∧ (w32 (v3 + 1)) < ((kd_ sh v0).2 : Int)) (gd_ (kd_ sh v1 = (0, 8)) (pb (fX8_calls sh M v1 (M v0 (w32 (v3 + 1)))) <| u2 fun (x227 : Int) (M228 : AwM) => (gd_ (kd_ sh v2 = (0, 9)) (pb (fX9_calls sh M228 v2 (M228 v0 (w32 (v3 + 1)))) <| u2 fun (x231 : Int) (M232 : AwM) => ((if x227 = x231 then fL_law_J1112_18 sh M232 v0 v1 v2 v3 else none)))))) else (if (an_ (M v0 v3) 31) = 18 then gd_ (kd_ sh v1 = (0, 8)) (pb (fX8_undo sh M v1) <| u2 fun (x236 : Int) (M237 : AwM) => (gd_ (kd_ sh v2 = (0, 9)) (pb (fX9_undo sh M237 v2) <| u2 fun (x240 : Int) (M241 : AwM) => ((if x236 = x240 then fL_law_J1112_18 sh M241 v0 v1 v2 v3 else none))))) else (if (an_ (M v0 v3) 31) = 19 then gd_ ((kd_ sh v0).1 = 1 ∧ (0 : Int) ≤ (w32 (v3 + 1)) ∧ (w32 (v3 + 1)) < ((kd_ sh v0).2 : Int)) (gd_ (kd_ sh v1 = (0, 8)) (pb (fX8_seed sh M v1 (M v0 (w32 (v3 + 1)))) <| u2 fun (x246 : Int) (M247 : AwM) => (gd_ (kd_ sh v2 = (0, 9)) (pb (fX9_seed sh M247 v2 (M247 v0 (w32 (v3 + 1)))) <| u2 fun (x250 : Int) (M251 : AwM) => ((if x246 = x250 then fL_law_J1112_18 sh M251 v0 v1 v2 v3 else none)))))) else (if (an_ (M v0 v3) 31) = 20 then gd_ ((kd_ sh v0).1 = 1 ∧ (0 : Int) ≤ (w32 (v3 + 1)) ∧ (w32 (v3 + 1)) < ((kd_ sh v0).2 : Int)) (gd_ ((kd_ sh v0).1 = 1 ∧ (0 : Int) ≤ (w32 (v3 + 2)) ∧ (w32 (v3 + 2)) < ((kd_ sh v0).2 : Int)) (gd_ ((kd_ sh v0).1 = 1 ∧ (0 : Int) ≤ (w32 (v3 + 3)) ∧ (w32 (v3 + 3)) < ((kd_ sh v0).2 : Int)) (gd_ ((kd_ sh v0).1 = 1 ∧ (0 : Int) ≤ (w32 (v3 + 4)) ∧ (w32 (v3 + 4)) < ((kd_ sh v0).2 : Int)) (gd_ (kd_ sh v1 = (0, 8)) (pb (fX8_introduce sh M v1 (M v0 (w32 (v3 + 1))) (M v0 (w32 (v3 + 2))) (M v0 (w32 (v3 + 3))) (M v0 (w32 (v3 + 4)))) <| u2 fun (x259 : Int) (M260 : AwM) => (gd_ (kd_ sh v2 = (0, 9)) (pb (fX9_introduce sh M260 v2 (M260 v0 (w32 (v3 + 1))) (M260 v0 (w32 (v3 + 2))) (M260 v0 (w32 (v3 + 3))) (M260 v0 (w32 (v3 + 4)))) <| u2 fun (x263 : Int) (M264 : AwM) => ((if x259 = x263 then fL_law_J1112_18 sh M264 v0 v1 v2 v3 else none))))))))) else (if (an_ (M v0 v3) 31) = 21 then gd_ ((kd_ sh v0).1 = 1 ∧ (0 : Int) ≤ (w32 (v3 + 1)) ∧ (w32 (v3 + 1)) < ((kd_ sh v0).2 : Int)) (gd_ ((kd_ sh v0).1 = 1 ∧ (0 : Int) ≤ (w32 (v3 + 2)) ∧ (w32 (v3 + 2)) < ((kd_ sh v0).2 : Int)) (gd_ ((kd_ sh v0).1 = 1 ∧ (0 : Int) ≤ (w32 (v3 + 3)) ∧ (w32 (v3 + 3)) < ((kd_ sh v0).2 : Int)) (gd_ (kd_ sh v1 = (0, 8)) (pb (fX8_comes sh M v1 (M v0 (w32 (v3 + 1))) (M v0 (w32 (v3 + 2))) (M v0 (w32 (v3 + 3)))) <| u2 fun (x271 : Int) (M272 : AwM) => (gd_ (kd_ sh v2 = (0, 9)) (pb (fX9_comes sh M272 v2 (M272 v0 (w32 (v3 + 1))) (M272 v0 (w32 (v3 + 2))) (M272 v0 (w32 (v3 + 3)))) <| u2 fun (x275 : Int) (M276 : AwM) => ((if x271 = x275 then fL_law_J1112_18 sh M276 v0 v1 v2 v3 else none)))))))) else (if (an_ (M v0 v3) 31) = 22 then gd_ ((kd_ sh v0).1 = 1 ∧ (0 : Int) ≤ (w32 (v3 + 1)) ∧ (w32 (v3 + 1)) < ((kd_ sh v0).2 : Int)) (gd_ ((kd_ sh v0).1 = 1 ∧ (0 : Int) ≤ (w32 (v3 + 2)) ∧ (w32 (v3 + 2)) < ((kd_ sh v0).2 : Int)) (gd_ (kd_ sh v1 = (0, 8)) (pb (fX8_best sh M v1 (M v0 (w32 (v3 + 1))) (M v0 (w32 (v3 + 2)))) <| u2 fun (x282 : Int) (M283 : AwM) => (gd_ (kd_ sh v2 = (0, 9)) (pb (fX9_best sh M283 v2 (M283 v0 (w32 (v3 + 1))) (M283 v0 (w32 (v3 + 2)))) <| u2 fun (x286 : Int) (M287 : AwM) => ((if x282 = x286 then fL_law_J1112_18 sh M287 v0 v1 v2 v3 else none))))))) else (if (an_ (M v0 v3) 31) = 23 then gd_ (kd_ sh v1 = (0, 8)) (pb (fX8_letters sh M v1) <| u2 fun (x291 : Int) (M292 : AwM) => (gd_ (kd_ sh v2 = (0, 9)) (pb (fX9_letters sh M292 v2) <| u2 fun (x295 : Int) (M296 : AwM) => ((if x291 = x295 then fL_law_J1112_18 sh M296 v0 v1 v2 v3 else none))))) else (if (an_ (M v0 v3) 31) = 24 then gd_ ((kd_ sh v0).1 = 1 ∧ (0 : Int) ≤ (w32 (v3 + 1)) ∧ (w32 (v3 + 1)) < ((kd_ sh v0).2 : Int)) (gd_ (kd_ sh v1 = (0, 8)) (pb (fX8_letterIs sh M v1 (M v0 (w32 (v3 + 1)))) <| u1 fun (x301 : Int) => (gd_ (kd_ sh v2 = (0, 9)) (pb (fX9_letterIs sh M v2 (M v0 (w32 (v3 + 1)))) <| u1 fun (x304 : Int) => ((if x301 = x304 then fL_law_J1112_18 sh M v0 v1 v2 v3 else none)))))) else (if (an_ (M v0 v3) 31) = 25 then gd_ ((kd_ sh v0).1 = 1 ∧ (0 : Int) ≤ (w32 (v3 + 1)) ∧ (w32 (v3 + 1)) < ((kd_ sh v0).2 : Int)) (gd_ ((kd_ sh v0).1 = 1 ∧ (0 : Int) ≤ (w32 (v3 + 2)) ∧ (w32 (v3 + 2)) < ((kd_ sh v0).2 : Int)) (gd_ (kd_ sh v1 = (0, 8)) (pb (fX8_fair sh M v1 (M v0 (w32 (v3 + 1))) (M v0 (w32 (v3 + 2)))) <| u1 fun (x310 : Int) => (gd_ (kd_ sh v2 = (0, 9)) (pb (fX9_fair sh M v2 (M v0 (w32 (v3 + 1))) (M v0 (w32 (v3 + 2)))) <| u1 fun (x313 : Int) => ((if x310 = x313 then fL_law_J1112_18 sh M v0 v1 v2 v3 else none))))))) else (if (an_ (M v0 v3) 31) = 26 then gd_ ((kd_ sh v0).1 = 1 ∧ (0 : Int) ≤ (w32 (v3 + 1)) ∧ (w32 (v3 + 1)) < ((kd_ sh v0).2 : Int)) (gd_ ((kd_ sh v0).1 = 1 ∧ (0 : Int) ≤ (w32 (v3 + 2)) ∧ (w32 (v3 + 2)) < ((kd_ sh v0).2 : Int)) (gd_ (kd_ sh v1 = (0, 8)) (pb (fX8_later sh M v1 (M v0 (w32 (v3 + 1))) (M v0 (w32 (v3 + 2)))) <| u2 fun (x319 : Int) (M320 : AwM) => (gd_ (kd_ sh v2 = (0, 9)) (pb (fX9_later sh M320 v2 (M320 v0 (w32 (v3 + 1))) (M320 v0 (w32 (v3 + 2)))) <| u2 fun (x323 : Int) (M324 : AwM) => ((if x319 = x323 then fL_law_J1112_18 sh M324 v0 v1 v2 v3 else none))))))) else (if (an_ (M v0 v3) 31) = 27 then gd_ ((kd_ sh v0).1 = 1 ∧ (0 : Int) ≤ (w32 (v3 + 1)) ∧ (w32 (v3 + 1)) < ((kd_ sh v0).2 : Int)) (gd_ (kd_ sh v1 = (0, 8)) (pb (fX8_useless sh M v1 (M v0 (w32 (v3 + 1)))) <| u2 fun (x329 : Int) (M330 : AwM) => (gd_ (kd_ sh v2 = (0, 9)) (pb (fX9_useless sh M330 v2 (M330 v0 (w32 (v3 + 1)))) <| u2 fun (x333 : Int) (M334 : AwM) => ((if x329 = x333 then fL_law_J1112_18 sh M334 v0 v1 v2 v3 else none)))))) else (if (an_ (M v0 v3) 31) = 28 then gd_ (kd_ sh v1 = (0, 8)) (pb (fX8_image sh M v1) <| u2 fun (x338 : Int) (M339 : AwM) => (gd_ (kd_ sh v2 = (0, 9)) (pb (fX9_image sh M339 v2) <| u2 fun (x342 : Int) (M343 : AwM) => ((if x338 = x342 then fL_law_J1112_18 sh M343 v0 v1 v2 v3 else none))))) else (if (an_ (M v0 v3) 31) = 29 then gd_ ((kd_ sh v0).1 = 1 ∧ (0 : Int) ≤ (w32 (v3 + 1)) ∧ (w32 (v3 + 1)) < ((kd_ sh v0).2 : Int)) (gd_ (kd_ sh v1 = (0, 8)) (pb (fX8_octet sh M v1 (M v0 (w32 (v3 + 1)))) <| u1 fun (x348 : Int) => (gd_ (kd_ sh v2 = (0, 9)) (pb (fX9_octet sh M v2 (M v0 (w32 (v3 + 1)))) <| u1 fun (x351 : Int) => ((if x348 = x351 then fL_law_J1112_18 sh M v0 v1 v2 v3 else none)))))) else (if (an_ (M v0 v3) 31) = 30 then gd_ (kd_ sh v1 = (0, 8)) (pb (fX8_on sh M v1) <| u2 fun (x355 : Int) (M356 : AwM) => (gd_ (kd_ sh v2 = (0, 9)) (pb (fX9_on sh M356 v2) <| u2 fun (x359 : Int) (M360 : AwM) => ((if x355 = x359 then fL_law_J1112_18 sh M360 v0 v1 v2 v3 else none))))) else (if (an_ (M v0 v3) 31) = 31 then gd_ ((kd_ sh v0).1 = 1 ∧ (0 : Int) ≤ (w32 (v3 + 1)) ∧ (w32 (v3 + 1)) < ((kd_ sh v0).2 : Int)) (gd_ (kd_ sh v1 = (0, 8)) (pb (fX8_status sh M v1 (M v0 (w32 (v3 + 1)))) <| u1 fun (x365 : Int) => (gd_ (kd_ sh v2 = (0, 9)) (pb (fX9_status sh M v2 (M v0 (w32 (v3 + 1)))) <| u1 fun (x368 : Int) => ((if x365 = x368 then fL_law_J1112_18 sh M v0 v1 v2 v3 else none)))))) else fL_law_J1112_18 sh M v0 v1 v2 v3)))))))))))))))))))))))))))))))))))
set_option maxRecDepth 100000 in
set_option maxHeartbeats 4000000 in
def p_L_law_L18 (Γ : AwC) (xi : Int → Int) (L : Int) (sh : AwS) (v0 : Int) (v1 : Int) (v2 : Int) (Q : State → Prop) (s : Int × AwM) : Prop := AW Γ sh (s.2) 207 84208 18 [some (.inr (.inr v0)), some (.inr (.inr v1)), some (.inr (.inr v2)), some (.inl (s.1))] [] Q
set_option maxRecDepth 100000 in
set_option maxHeartbeats 4000000 in
def x_L_law_L18 (Γ : AwC) (xi : Int → Int) (L : Int) (sh : AwS) (v0 : Int) (v1 : Int) (v2 : Int) (Q : State → Prop) : (AwM) → Prop := (fun (t : AwM) => AW Γ sh (t) 207 84208 1118 [none, none, none, none] [] Q)
set_option maxRecDepth 100000 in
set_option maxHeartbeats 4000000 in
def fL_law (xi : Int → Int) (L : Int) (sh : AwS) (M : AwM) : Option Int :=
  bd_ ((sh.length : Nat) : Int) fun (p1 : Int) => (bd_ (sh ++ [(0, 8)]) fun (sh3 : AwS) => (gd_ ((0 : Int) < p1) (pb (fX8_init sh3 M p1) <| u2 fun (sh7 : AwS) (M8 : AwM) => (bd_ ((sh7.length : Nat) : Int) fun (p9 : Int) => (bd_ (sh7 ++ [(0, 9)]) fun (sh11 : AwS) => (gd_ ((0 : Int) < p9) (pb (fX9_init sh11 M8 p9) <| u2 fun (sh15 : AwS) (M16 : AwM) => (pb (lp (u2 (fL_law_L18 xi L sh15 (-1) p1 p9)) FU (0, M16)) (u1 (fun (tq370 : AwM) => some 1))))))))))
set_option maxRecDepth 100000 in
set_option maxHeartbeats 4000000 in
theorem w_L_law_J1112_18 {Γ : AwC} {nm : String} {xi : Int → Int} {L : Int} (hC : AOK Γ RL cL_law 4 167 600000 7302250 nm ret) {sh : AwS} {M : AwM} {v0 : Int} {v1 : Int} {v2 : Int} {v3 : Int} {Q : State → Prop} {r : (Int × AwM) ⊕ (AwM)} (h : fL_law_J1112_18 sh M v0 v1 v2 v3 = some r) (hL : ∀ s', r = .inl s' → p_L_law_L18 Γ xi L sh v0 v1 v2 Q s') (hX : ∀ t, r = .inr t → x_L_law_L18 Γ xi L sh v0 v1 v2 Q t) : AW Γ sh M 207 84208 1112 [some (.inr (.inr v0)), some (.inr (.inr v1)), some (.inr (.inr v2)), some (.inl v3)] [] Q := by
  unfold fL_law_J1112_18 at h
  refine aw_iinc (pc' := 1115) (ls' := [some (.inr (.inr v0)), some (.inr (.inr v1)), some (.inr (.inr v2)), some (.inl (w32 (v3 + 6)))]) hC dL_law_1112 rfl rfl rfl rfl ?_
  refine aw_goto (tgt := 18) hC dL_law_1115 (by decide) ?_
  refine aw_sub hC [some (.inr (.inr v0)), some (.inr (.inr v1)), some (.inr (.inr v2)), some (.inl (w32 (v3 + 6)))] ⟨rfl, ⟨rfl, ⟨rfl, ⟨rfl, trivial⟩⟩⟩⟩ (Nat.le_of_ble_eq_true rfl) ?_
  cases h
  exact hL _ rfl
set_option maxRecDepth 100000 in
set_option maxHeartbeats 4000000 in
theorem w_L_law_L18 {Γ : AwC} {nm : String} {xi : Int → Int} {L : Int} (hC : AOK Γ RL cL_law 4 167 600000 7302250 nm ret) (hxi : SC_ Γ xi L) {sh : AwS} {v0 : Int} {v1 : Int} {v2 : Int} {Q : State → Prop} : ∀ s r, u2 (fL_law_L18 xi L sh v0 v1 v2) s = some r → (∀ s', r = .inl s' → p_L_law_L18 Γ xi L sh v0 v1 v2 Q s') → (∀ t, r = .inr t → x_L_law_L18 Γ xi L sh v0 v1 v2 Q t) → p_L_law_L18 Γ xi L sh v0 v1 v2 Q s := by
  intro s r h hL hX
  obtain ⟨v3, M⟩ := s
  replace h := u2_s h
  unfold fL_law_L18 at h
  show AW Γ sh M 207 84208 18 [some (.inr (.inr v0)), some (.inr (.inr v1)), some (.inr (.inr v2)), some (.inl v3)] [] Q
  refine aw_iload_n (pc' := 19) (i := 3) hC dL_law_18 rfl rfl rfl ?_
  refine aw_aload_n (pc' := 20) (i := 0) hC dL_law_19 rfl rfl rfl ?_
  obtain ⟨g17, h⟩ := gd_s h
  refine aw_alen (pc' := 21) (v := ((kd_ sh v0).2 : Int)) hC dL_law_20 rfl g17 rfl ?_
  refine aw_bipush (pc' := 23) hC dL_law_21 rfl (by decide) ?_
  refine aw_isub (pc' := 24) hC dL_law_23 rfl  ?_
  refine aw_icmp_gt (tgt := 1118) (pc' := 27) hC dL_law_24 (by decide) rfl (fun c18 => ?_) (fun c18 => ?_)
  · replace h := it_p c18 h
    refine aw_sub hC [none, none, none, none] trivial (Nat.le_of_ble_eq_true rfl) ?_
    cases h
    exact hX _ rfl
  · replace h := it_n c18 h
    refine aw_aload_n (pc' := 28) (i := 0) hC dL_law_27 rfl rfl rfl ?_
    refine aw_iload_n (pc' := 29) (i := 3) hC dL_law_28 rfl rfl rfl ?_
    obtain ⟨g19, h⟩ := gd_s h
    refine aw_iaload (pc' := 30) hC dL_law_29 rfl g19 ?_
    refine aw_bipush (pc' := 32) hC dL_law_30 rfl (by decide) ?_
    refine aw_iand (pc' := 33) hC dL_law_32 rfl  ?_
    by_cases c20 : (an_ (M v0 v3) 31) = 0
    · replace h := it_p c20 h
      refine aw_tsIn (tgt := 176) (off := 143) hC dL_law_33 ⟨by omega, by omega, by rw [c20]; rfl⟩ (by decide) ?_
      refine aw_aload_n (pc' := 177) (i := 1) hC dL_law_176 rfl rfl rfl ?_
      refine aw_aload_n (pc' := 178) (i := 0) hC dL_law_177 rfl rfl rfl ?_
      refine aw_iload_n (pc' := 179) (i := 3) hC dL_law_178 rfl rfl rfl ?_
      refine aw_iconst (pc' := 180) hC dL_law_179 rfl (by decide) ?_
      refine aw_iadd (pc' := 181) hC dL_law_180 rfl  ?_
      obtain ⟨g52, h⟩ := gd_s h
      refine aw_iaload (pc' := 182) hC dL_law_181 rfl g52 ?_
      refine aw_aload_n (pc' := 183) (i := 0) hC dL_law_182 rfl rfl rfl ?_
      refine aw_iload_n (pc' := 184) (i := 3) hC dL_law_183 rfl rfl rfl ?_
      refine aw_iconst (pc' := 185) hC dL_law_184 rfl (by decide) ?_
      refine aw_iadd (pc' := 186) hC dL_law_185 rfl  ?_
      obtain ⟨g53, h⟩ := gd_s h
      refine aw_iaload (pc' := 187) hC dL_law_186 rfl g53 ?_
      refine aw_aload_n (pc' := 188) (i := 0) hC dL_law_187 rfl rfl rfl ?_
      refine aw_iload_n (pc' := 189) (i := 3) hC dL_law_188 rfl rfl rfl ?_
      refine aw_iconst (pc' := 190) hC dL_law_189 rfl (by decide) ?_
      refine aw_iadd (pc' := 191) hC dL_law_190 rfl  ?_
      obtain ⟨g54, h⟩ := gd_s h
      refine aw_iaload (pc' := 192) hC dL_law_191 rfl g54 ?_
      refine aw_aload_n (pc' := 193) (i := 0) hC dL_law_192 rfl rfl rfl ?_
      refine aw_iload_n (pc' := 194) (i := 3) hC dL_law_193 rfl rfl rfl ?_
      refine aw_iconst (pc' := 195) hC dL_law_194 rfl (by decide) ?_
      refine aw_iadd (pc' := 196) hC dL_law_195 rfl  ?_
      obtain ⟨g55, h⟩ := gd_s h
      refine aw_iaload (pc' := 197) hC dL_law_196 rfl g55 ?_
      refine aw_aload_n (pc' := 198) (i := 0) hC dL_law_197 rfl rfl rfl ?_
      refine aw_iload_n (pc' := 199) (i := 3) hC dL_law_198 rfl rfl rfl ?_
      refine aw_iconst (pc' := 200) hC dL_law_199 rfl (by decide) ?_
      refine aw_iadd (pc' := 201) hC dL_law_200 rfl  ?_
      obtain ⟨g56, h⟩ := gd_s h
      refine aw_iaload (pc' := 202) hC dL_law_201 rfl g56 ?_
      obtain ⟨g58, h⟩ := gd_s h
      obtain ⟨⟨x59, M60⟩, q57, h⟩ := pb_s h
      replace h := u2_s h
      refine aw_cV (pc' := 205) (k2 := 207) (n2 := 84208) (st := []) (stN := [.inl x59]) hC [.inl (M v0 (w32 (v3 + 1))), .inl (M v0 (w32 (v3 + 2))), .inl (M v0 (w32 (v3 + 3))), .inl (M v0 (w32 (v3 + 4))), .inl (M v0 (w32 (v3 + 5)))] (mX8_feed q57) lk_L_13 g58 dL_law_202 rfl rfl (Nat.le_of_ble_eq_true rfl) (Nat.le_of_ble_eq_true rfl) (Nat.le_of_ble_eq_true rfl) rfl (Nat.le_of_ble_eq_true rfl) rfl rfl rfl ?_
      refine aw_aload_n (pc' := 206) (i := 2) hC dL_law_205 rfl rfl rfl ?_
      refine aw_aload_n (pc' := 207) (i := 0) hC dL_law_206 rfl rfl rfl ?_
      refine aw_iload_n (pc' := 208) (i := 3) hC dL_law_207 rfl rfl rfl ?_
      refine aw_iconst (pc' := 209) hC dL_law_208 rfl (by decide) ?_
      refine aw_iadd (pc' := 210) hC dL_law_209 rfl  ?_
      refine aw_iaload (pc' := 211) hC dL_law_210 rfl g52 ?_
      refine aw_aload_n (pc' := 212) (i := 0) hC dL_law_211 rfl rfl rfl ?_
      refine aw_iload_n (pc' := 213) (i := 3) hC dL_law_212 rfl rfl rfl ?_
      refine aw_iconst (pc' := 214) hC dL_law_213 rfl (by decide) ?_
      refine aw_iadd (pc' := 215) hC dL_law_214 rfl  ?_
      refine aw_iaload (pc' := 216) hC dL_law_215 rfl g53 ?_
      refine aw_aload_n (pc' := 217) (i := 0) hC dL_law_216 rfl rfl rfl ?_
      refine aw_iload_n (pc' := 218) (i := 3) hC dL_law_217 rfl rfl rfl ?_
      refine aw_iconst (pc' := 219) hC dL_law_218 rfl (by decide) ?_
      refine aw_iadd (pc' := 220) hC dL_law_219 rfl  ?_
      refine aw_iaload (pc' := 221) hC dL_law_220 rfl g54 ?_
      refine aw_aload_n (pc' := 222) (i := 0) hC dL_law_221 rfl rfl rfl ?_
      refine aw_iload_n (pc' := 223) (i := 3) hC dL_law_222 rfl rfl rfl ?_
      refine aw_iconst (pc' := 224) hC dL_law_223 rfl (by decide) ?_
      refine aw_iadd (pc' := 225) hC dL_law_224 rfl  ?_
      refine aw_iaload (pc' := 226) hC dL_law_225 rfl g55 ?_
      refine aw_aload_n (pc' := 227) (i := 0) hC dL_law_226 rfl rfl rfl ?_
      refine aw_iload_n (pc' := 228) (i := 3) hC dL_law_227 rfl rfl rfl ?_
      refine aw_iconst (pc' := 229) hC dL_law_228 rfl (by decide) ?_
      refine aw_iadd (pc' := 230) hC dL_law_229 rfl  ?_
      refine aw_iaload (pc' := 231) hC dL_law_230 rfl g56 ?_
      obtain ⟨g62, h⟩ := gd_s h
      obtain ⟨⟨x63, M64⟩, q61, h⟩ := pb_s h
      replace h := u2_s h
      refine aw_cV (pc' := 234) (k2 := 207) (n2 := 84208) (st := [.inl x59]) (stN := [.inl x63, .inl x59]) hC [.inl (M60 v0 (w32 (v3 + 1))), .inl (M60 v0 (w32 (v3 + 2))), .inl (M60 v0 (w32 (v3 + 3))), .inl (M60 v0 (w32 (v3 + 4))), .inl (M60 v0 (w32 (v3 + 5)))] (mX9_feed q61) lk_L_17 g62 dL_law_231 rfl rfl (Nat.le_of_ble_eq_true rfl) (Nat.le_of_ble_eq_true rfl) (Nat.le_of_ble_eq_true rfl) rfl (Nat.le_of_ble_eq_true rfl) rfl rfl rfl ?_
      refine aw_icmp_eq (tgt := 1112) (pc' := 237) hC dL_law_234 (by decide) rfl (fun c65 => ?_) (fun c65 => ?_)
      · replace h := it_p c65 h
        refine aw_sub hC [some (.inr (.inr v0)), some (.inr (.inr v1)), some (.inr (.inr v2)), some (.inl v3)] ⟨rfl, ⟨rfl, ⟨rfl, ⟨rfl, trivial⟩⟩⟩⟩ (Nat.le_of_ble_eq_true rfl) ?_
        exact w_L_law_J1112_18 hC h hL hX
      · replace h := it_n c65 h
        cases h
    · replace h := it_n c20 h
      by_cases c21 : (an_ (M v0 v3) 31) = 1
      · replace h := it_p c21 h
        refine aw_tsIn (tgt := 239) (off := 206) hC dL_law_33 ⟨by omega, by omega, by rw [c21]; rfl⟩ (by decide) ?_
        refine aw_aload_n (pc' := 240) (i := 1) hC dL_law_239 rfl rfl rfl ?_
        refine aw_aload_n (pc' := 241) (i := 0) hC dL_law_240 rfl rfl rfl ?_
        refine aw_iload_n (pc' := 242) (i := 3) hC dL_law_241 rfl rfl rfl ?_
        refine aw_iconst (pc' := 243) hC dL_law_242 rfl (by decide) ?_
        refine aw_iadd (pc' := 244) hC dL_law_243 rfl  ?_
        obtain ⟨g66, h⟩ := gd_s h
        refine aw_iaload (pc' := 245) hC dL_law_244 rfl g66 ?_
        obtain ⟨g68, h⟩ := gd_s h
        obtain ⟨⟨x69, M70⟩, q67, h⟩ := pb_s h
        replace h := u2_s h
        refine aw_cV (pc' := 248) (k2 := 207) (n2 := 84208) (st := []) (stN := [.inl x69]) hC [.inl (M v0 (w32 (v3 + 1)))] (mX8_end q67) lk_L_18 g68 dL_law_245 rfl rfl (Nat.le_of_ble_eq_true rfl) (Nat.le_of_ble_eq_true rfl) (Nat.le_of_ble_eq_true rfl) rfl (Nat.le_of_ble_eq_true rfl) rfl rfl rfl ?_
        refine aw_aload_n (pc' := 249) (i := 2) hC dL_law_248 rfl rfl rfl ?_
        refine aw_aload_n (pc' := 250) (i := 0) hC dL_law_249 rfl rfl rfl ?_
        refine aw_iload_n (pc' := 251) (i := 3) hC dL_law_250 rfl rfl rfl ?_
        refine aw_iconst (pc' := 252) hC dL_law_251 rfl (by decide) ?_
        refine aw_iadd (pc' := 253) hC dL_law_252 rfl  ?_
        refine aw_iaload (pc' := 254) hC dL_law_253 rfl g66 ?_
        obtain ⟨g72, h⟩ := gd_s h
        obtain ⟨⟨x73, M74⟩, q71, h⟩ := pb_s h
        replace h := u2_s h
        refine aw_cV (pc' := 257) (k2 := 207) (n2 := 84208) (st := [.inl x69]) (stN := [.inl x73, .inl x69]) hC [.inl (M70 v0 (w32 (v3 + 1)))] (mX9_end q71) lk_L_22 g72 dL_law_254 rfl rfl (Nat.le_of_ble_eq_true rfl) (Nat.le_of_ble_eq_true rfl) (Nat.le_of_ble_eq_true rfl) rfl (Nat.le_of_ble_eq_true rfl) rfl rfl rfl ?_
        refine aw_icmp_eq (tgt := 1112) (pc' := 260) hC dL_law_257 (by decide) rfl (fun c75 => ?_) (fun c75 => ?_)
        · replace h := it_p c75 h
          refine aw_sub hC [some (.inr (.inr v0)), some (.inr (.inr v1)), some (.inr (.inr v2)), some (.inl v3)] ⟨rfl, ⟨rfl, ⟨rfl, ⟨rfl, trivial⟩⟩⟩⟩ (Nat.le_of_ble_eq_true rfl) ?_
          exact w_L_law_J1112_18 hC h hL hX
        · replace h := it_n c75 h
          cases h
      · replace h := it_n c21 h
        by_cases c22 : (an_ (M v0 v3) 31) = 2
        · replace h := it_p c22 h
          refine aw_tsIn (tgt := 262) (off := 229) hC dL_law_33 ⟨by omega, by omega, by rw [c22]; rfl⟩ (by decide) ?_
          refine aw_aload_n (pc' := 263) (i := 1) hC dL_law_262 rfl rfl rfl ?_
          obtain ⟨g77, h⟩ := gd_s h
          obtain ⟨⟨x78, M79⟩, q76, h⟩ := pb_s h
          replace h := u2_s h
          refine aw_cV (pc' := 266) (k2 := 207) (n2 := 84208) (st := []) (stN := [.inl x78]) hC [] (mX8_society q76) lk_L_23 g77 dL_law_263 rfl rfl (Nat.le_of_ble_eq_true rfl) (Nat.le_of_ble_eq_true rfl) (Nat.le_of_ble_eq_true rfl) rfl (Nat.le_of_ble_eq_true rfl) rfl rfl rfl ?_
          refine aw_aload_n (pc' := 267) (i := 2) hC dL_law_266 rfl rfl rfl ?_
          obtain ⟨g81, h⟩ := gd_s h
          obtain ⟨⟨x82, M83⟩, q80, h⟩ := pb_s h
          replace h := u2_s h
          refine aw_cV (pc' := 270) (k2 := 207) (n2 := 84208) (st := [.inl x78]) (stN := [.inl x82, .inl x78]) hC [] (mX9_society q80) lk_L_27 g81 dL_law_267 rfl rfl (Nat.le_of_ble_eq_true rfl) (Nat.le_of_ble_eq_true rfl) (Nat.le_of_ble_eq_true rfl) rfl (Nat.le_of_ble_eq_true rfl) rfl rfl rfl ?_
          refine aw_icmp_eq (tgt := 1112) (pc' := 273) hC dL_law_270 (by decide) rfl (fun c84 => ?_) (fun c84 => ?_)
          · replace h := it_p c84 h
            refine aw_sub hC [some (.inr (.inr v0)), some (.inr (.inr v1)), some (.inr (.inr v2)), some (.inl v3)] ⟨rfl, ⟨rfl, ⟨rfl, ⟨rfl, trivial⟩⟩⟩⟩ (Nat.le_of_ble_eq_true rfl) ?_
            exact w_L_law_J1112_18 hC h hL hX
          · replace h := it_n c84 h
            cases h
        · replace h := it_n c22 h
          by_cases c23 : (an_ (M v0 v3) 31) = 3
          · replace h := it_p c23 h
            refine aw_tsIn (tgt := 275) (off := 242) hC dL_law_33 ⟨by omega, by omega, by rw [c23]; rfl⟩ (by decide) ?_
            refine aw_aload_n (pc' := 276) (i := 1) hC dL_law_275 rfl rfl rfl ?_
            refine aw_aload_n (pc' := 277) (i := 0) hC dL_law_276 rfl rfl rfl ?_
            refine aw_iload_n (pc' := 278) (i := 3) hC dL_law_277 rfl rfl rfl ?_
            refine aw_iconst (pc' := 279) hC dL_law_278 rfl (by decide) ?_
            refine aw_iadd (pc' := 280) hC dL_law_279 rfl  ?_
            obtain ⟨g85, h⟩ := gd_s h
            refine aw_iaload (pc' := 281) hC dL_law_280 rfl g85 ?_
            obtain ⟨g87, h⟩ := gd_s h
            obtain ⟨x88, q86, h⟩ := pb_s h
            replace h := u1_s h
            refine aw_cV (pc' := 284) (k2 := 207) (n2 := 84208) (st := []) (stN := [.inl x88]) hC [.inl (M v0 (w32 (v3 + 1)))] (mX8_fault q86) lk_L_28 g87 dL_law_281 rfl rfl (Nat.le_of_ble_eq_true rfl) (Nat.le_of_ble_eq_true rfl) (Nat.le_of_ble_eq_true rfl) rfl (Nat.le_of_ble_eq_true rfl) rfl rfl rfl ?_
            refine aw_aload_n (pc' := 285) (i := 2) hC dL_law_284 rfl rfl rfl ?_
            refine aw_aload_n (pc' := 286) (i := 0) hC dL_law_285 rfl rfl rfl ?_
            refine aw_iload_n (pc' := 287) (i := 3) hC dL_law_286 rfl rfl rfl ?_
            refine aw_iconst (pc' := 288) hC dL_law_287 rfl (by decide) ?_
            refine aw_iadd (pc' := 289) hC dL_law_288 rfl  ?_
            refine aw_iaload (pc' := 290) hC dL_law_289 rfl g85 ?_
            obtain ⟨g90, h⟩ := gd_s h
            obtain ⟨x91, q89, h⟩ := pb_s h
            replace h := u1_s h
            refine aw_cV (pc' := 293) (k2 := 207) (n2 := 84208) (st := [.inl x88]) (stN := [.inl x91, .inl x88]) hC [.inl (M v0 (w32 (v3 + 1)))] (mX9_fault q89) lk_L_32 g90 dL_law_290 rfl rfl (Nat.le_of_ble_eq_true rfl) (Nat.le_of_ble_eq_true rfl) (Nat.le_of_ble_eq_true rfl) rfl (Nat.le_of_ble_eq_true rfl) rfl rfl rfl ?_
            refine aw_icmp_eq (tgt := 1112) (pc' := 296) hC dL_law_293 (by decide) rfl (fun c92 => ?_) (fun c92 => ?_)
            · replace h := it_p c92 h
              refine aw_sub hC [some (.inr (.inr v0)), some (.inr (.inr v1)), some (.inr (.inr v2)), some (.inl v3)] ⟨rfl, ⟨rfl, ⟨rfl, ⟨rfl, trivial⟩⟩⟩⟩ (Nat.le_of_ble_eq_true rfl) ?_
              exact w_L_law_J1112_18 hC h hL hX
            · replace h := it_n c92 h
              cases h
          · replace h := it_n c23 h
            by_cases c24 : (an_ (M v0 v3) 31) = 4
            · replace h := it_p c24 h
              refine aw_tsIn (tgt := 298) (off := 265) hC dL_law_33 ⟨by omega, by omega, by rw [c24]; rfl⟩ (by decide) ?_
              refine aw_aload_n (pc' := 299) (i := 1) hC dL_law_298 rfl rfl rfl ?_
              refine aw_aload_n (pc' := 300) (i := 0) hC dL_law_299 rfl rfl rfl ?_
              refine aw_iload_n (pc' := 301) (i := 3) hC dL_law_300 rfl rfl rfl ?_
              refine aw_iconst (pc' := 302) hC dL_law_301 rfl (by decide) ?_
              refine aw_iadd (pc' := 303) hC dL_law_302 rfl  ?_
              obtain ⟨g93, h⟩ := gd_s h
              refine aw_iaload (pc' := 304) hC dL_law_303 rfl g93 ?_
              obtain ⟨g95, h⟩ := gd_s h
              obtain ⟨x96, q94, h⟩ := pb_s h
              replace h := u1_s h
              refine aw_cV (pc' := 307) (k2 := 207) (n2 := 84208) (st := []) (stN := [.inl x96]) hC [.inl (M v0 (w32 (v3 + 1)))] (mX8_has q94) lk_L_33 g95 dL_law_304 rfl rfl (Nat.le_of_ble_eq_true rfl) (Nat.le_of_ble_eq_true rfl) (Nat.le_of_ble_eq_true rfl) rfl (Nat.le_of_ble_eq_true rfl) rfl rfl rfl ?_
              refine aw_aload_n (pc' := 308) (i := 2) hC dL_law_307 rfl rfl rfl ?_
              refine aw_aload_n (pc' := 309) (i := 0) hC dL_law_308 rfl rfl rfl ?_
              refine aw_iload_n (pc' := 310) (i := 3) hC dL_law_309 rfl rfl rfl ?_
              refine aw_iconst (pc' := 311) hC dL_law_310 rfl (by decide) ?_
              refine aw_iadd (pc' := 312) hC dL_law_311 rfl  ?_
              refine aw_iaload (pc' := 313) hC dL_law_312 rfl g93 ?_
              obtain ⟨g98, h⟩ := gd_s h
              obtain ⟨x99, q97, h⟩ := pb_s h
              replace h := u1_s h
              refine aw_cV (pc' := 316) (k2 := 207) (n2 := 84208) (st := [.inl x96]) (stN := [.inl x99, .inl x96]) hC [.inl (M v0 (w32 (v3 + 1)))] (mX9_has q97) lk_L_36 g98 dL_law_313 rfl rfl (Nat.le_of_ble_eq_true rfl) (Nat.le_of_ble_eq_true rfl) (Nat.le_of_ble_eq_true rfl) rfl (Nat.le_of_ble_eq_true rfl) rfl rfl rfl ?_
              refine aw_icmp_eq (tgt := 1112) (pc' := 319) hC dL_law_316 (by decide) rfl (fun c100 => ?_) (fun c100 => ?_)
              · replace h := it_p c100 h
                refine aw_sub hC [some (.inr (.inr v0)), some (.inr (.inr v1)), some (.inr (.inr v2)), some (.inl v3)] ⟨rfl, ⟨rfl, ⟨rfl, ⟨rfl, trivial⟩⟩⟩⟩ (Nat.le_of_ble_eq_true rfl) ?_
                exact w_L_law_J1112_18 hC h hL hX
              · replace h := it_n c100 h
                cases h
            · replace h := it_n c24 h
              by_cases c25 : (an_ (M v0 v3) 31) = 5
              · replace h := it_p c25 h
                refine aw_tsIn (tgt := 321) (off := 288) hC dL_law_33 ⟨by omega, by omega, by rw [c25]; rfl⟩ (by decide) ?_
                refine aw_aload_n (pc' := 322) (i := 1) hC dL_law_321 rfl rfl rfl ?_
                refine aw_aload_n (pc' := 323) (i := 0) hC dL_law_322 rfl rfl rfl ?_
                refine aw_iload_n (pc' := 324) (i := 3) hC dL_law_323 rfl rfl rfl ?_
                refine aw_iconst (pc' := 325) hC dL_law_324 rfl (by decide) ?_
                refine aw_iadd (pc' := 326) hC dL_law_325 rfl  ?_
                obtain ⟨g101, h⟩ := gd_s h
                refine aw_iaload (pc' := 327) hC dL_law_326 rfl g101 ?_
                refine aw_aload_n (pc' := 328) (i := 0) hC dL_law_327 rfl rfl rfl ?_
                refine aw_iload_n (pc' := 329) (i := 3) hC dL_law_328 rfl rfl rfl ?_
                refine aw_iconst (pc' := 330) hC dL_law_329 rfl (by decide) ?_
                refine aw_iadd (pc' := 331) hC dL_law_330 rfl  ?_
                obtain ⟨g102, h⟩ := gd_s h
                refine aw_iaload (pc' := 332) hC dL_law_331 rfl g102 ?_
                refine aw_aload_n (pc' := 333) (i := 0) hC dL_law_332 rfl rfl rfl ?_
                refine aw_iload_n (pc' := 334) (i := 3) hC dL_law_333 rfl rfl rfl ?_
                refine aw_iconst (pc' := 335) hC dL_law_334 rfl (by decide) ?_
                refine aw_iadd (pc' := 336) hC dL_law_335 rfl  ?_
                obtain ⟨g103, h⟩ := gd_s h
                refine aw_iaload (pc' := 337) hC dL_law_336 rfl g103 ?_
                obtain ⟨g105, h⟩ := gd_s h
                obtain ⟨x106, q104, h⟩ := pb_s h
                replace h := u1_s h
                refine aw_cV (pc' := 340) (k2 := 207) (n2 := 84208) (st := []) (stN := [.inl x106]) hC [.inl (M v0 (w32 (v3 + 1))), .inl (M v0 (w32 (v3 + 2))), .inl (M v0 (w32 (v3 + 3)))] (mX8_letter q104) lk_L_37 g105 dL_law_337 rfl rfl (Nat.le_of_ble_eq_true rfl) (Nat.le_of_ble_eq_true rfl) (Nat.le_of_ble_eq_true rfl) rfl (Nat.le_of_ble_eq_true rfl) rfl rfl rfl ?_
                refine aw_aload_n (pc' := 341) (i := 2) hC dL_law_340 rfl rfl rfl ?_
                refine aw_aload_n (pc' := 342) (i := 0) hC dL_law_341 rfl rfl rfl ?_
                refine aw_iload_n (pc' := 343) (i := 3) hC dL_law_342 rfl rfl rfl ?_
                refine aw_iconst (pc' := 344) hC dL_law_343 rfl (by decide) ?_
                refine aw_iadd (pc' := 345) hC dL_law_344 rfl  ?_
                refine aw_iaload (pc' := 346) hC dL_law_345 rfl g101 ?_
                refine aw_aload_n (pc' := 347) (i := 0) hC dL_law_346 rfl rfl rfl ?_
                refine aw_iload_n (pc' := 348) (i := 3) hC dL_law_347 rfl rfl rfl ?_
                refine aw_iconst (pc' := 349) hC dL_law_348 rfl (by decide) ?_
                refine aw_iadd (pc' := 350) hC dL_law_349 rfl  ?_
                refine aw_iaload (pc' := 351) hC dL_law_350 rfl g102 ?_
                refine aw_aload_n (pc' := 352) (i := 0) hC dL_law_351 rfl rfl rfl ?_
                refine aw_iload_n (pc' := 353) (i := 3) hC dL_law_352 rfl rfl rfl ?_
                refine aw_iconst (pc' := 354) hC dL_law_353 rfl (by decide) ?_
                refine aw_iadd (pc' := 355) hC dL_law_354 rfl  ?_
                refine aw_iaload (pc' := 356) hC dL_law_355 rfl g103 ?_
                obtain ⟨g108, h⟩ := gd_s h
                obtain ⟨x109, q107, h⟩ := pb_s h
                replace h := u1_s h
                refine aw_cV (pc' := 359) (k2 := 207) (n2 := 84208) (st := [.inl x106]) (stN := [.inl x109, .inl x106]) hC [.inl (M v0 (w32 (v3 + 1))), .inl (M v0 (w32 (v3 + 2))), .inl (M v0 (w32 (v3 + 3)))] (mX9_letter q107) lk_L_41 g108 dL_law_356 rfl rfl (Nat.le_of_ble_eq_true rfl) (Nat.le_of_ble_eq_true rfl) (Nat.le_of_ble_eq_true rfl) rfl (Nat.le_of_ble_eq_true rfl) rfl rfl rfl ?_
                refine aw_icmp_eq (tgt := 1112) (pc' := 362) hC dL_law_359 (by decide) rfl (fun c110 => ?_) (fun c110 => ?_)
                · replace h := it_p c110 h
                  refine aw_sub hC [some (.inr (.inr v0)), some (.inr (.inr v1)), some (.inr (.inr v2)), some (.inl v3)] ⟨rfl, ⟨rfl, ⟨rfl, ⟨rfl, trivial⟩⟩⟩⟩ (Nat.le_of_ble_eq_true rfl) ?_
                  exact w_L_law_J1112_18 hC h hL hX
                · replace h := it_n c110 h
                  cases h
              · replace h := it_n c25 h
                by_cases c26 : (an_ (M v0 v3) 31) = 6
                · replace h := it_p c26 h
                  refine aw_tsIn (tgt := 364) (off := 331) hC dL_law_33 ⟨by omega, by omega, by rw [c26]; rfl⟩ (by decide) ?_
                  refine aw_aload_n (pc' := 365) (i := 1) hC dL_law_364 rfl rfl rfl ?_
                  refine aw_aload_n (pc' := 366) (i := 0) hC dL_law_365 rfl rfl rfl ?_
                  refine aw_iload_n (pc' := 367) (i := 3) hC dL_law_366 rfl rfl rfl ?_
                  refine aw_iconst (pc' := 368) hC dL_law_367 rfl (by decide) ?_
                  refine aw_iadd (pc' := 369) hC dL_law_368 rfl  ?_
                  obtain ⟨g111, h⟩ := gd_s h
                  refine aw_iaload (pc' := 370) hC dL_law_369 rfl g111 ?_
                  refine aw_aload_n (pc' := 371) (i := 0) hC dL_law_370 rfl rfl rfl ?_
                  refine aw_iload_n (pc' := 372) (i := 3) hC dL_law_371 rfl rfl rfl ?_
                  refine aw_iconst (pc' := 373) hC dL_law_372 rfl (by decide) ?_
                  refine aw_iadd (pc' := 374) hC dL_law_373 rfl  ?_
                  obtain ⟨g112, h⟩ := gd_s h
                  refine aw_iaload (pc' := 375) hC dL_law_374 rfl g112 ?_
                  obtain ⟨g114, h⟩ := gd_s h
                  obtain ⟨x115, q113, h⟩ := pb_s h
                  replace h := u1_s h
                  refine aw_cV (pc' := 378) (k2 := 207) (n2 := 84208) (st := []) (stN := [.inl x115]) hC [.inl (M v0 (w32 (v3 + 1))), .inl (M v0 (w32 (v3 + 2)))] (mX8_person q113) lk_L_42 g114 dL_law_375 rfl rfl (Nat.le_of_ble_eq_true rfl) (Nat.le_of_ble_eq_true rfl) (Nat.le_of_ble_eq_true rfl) rfl (Nat.le_of_ble_eq_true rfl) rfl rfl rfl ?_
                  refine aw_aload_n (pc' := 379) (i := 2) hC dL_law_378 rfl rfl rfl ?_
                  refine aw_aload_n (pc' := 380) (i := 0) hC dL_law_379 rfl rfl rfl ?_
                  refine aw_iload_n (pc' := 381) (i := 3) hC dL_law_380 rfl rfl rfl ?_
                  refine aw_iconst (pc' := 382) hC dL_law_381 rfl (by decide) ?_
                  refine aw_iadd (pc' := 383) hC dL_law_382 rfl  ?_
                  refine aw_iaload (pc' := 384) hC dL_law_383 rfl g111 ?_
                  refine aw_aload_n (pc' := 385) (i := 0) hC dL_law_384 rfl rfl rfl ?_
                  refine aw_iload_n (pc' := 386) (i := 3) hC dL_law_385 rfl rfl rfl ?_
                  refine aw_iconst (pc' := 387) hC dL_law_386 rfl (by decide) ?_
                  refine aw_iadd (pc' := 388) hC dL_law_387 rfl  ?_
                  refine aw_iaload (pc' := 389) hC dL_law_388 rfl g112 ?_
                  obtain ⟨g117, h⟩ := gd_s h
                  obtain ⟨x118, q116, h⟩ := pb_s h
                  replace h := u1_s h
                  refine aw_cV (pc' := 392) (k2 := 207) (n2 := 84208) (st := [.inl x115]) (stN := [.inl x118, .inl x115]) hC [.inl (M v0 (w32 (v3 + 1))), .inl (M v0 (w32 (v3 + 2)))] (mX9_person q116) lk_L_46 g117 dL_law_389 rfl rfl (Nat.le_of_ble_eq_true rfl) (Nat.le_of_ble_eq_true rfl) (Nat.le_of_ble_eq_true rfl) rfl (Nat.le_of_ble_eq_true rfl) rfl rfl rfl ?_
                  refine aw_icmp_eq (tgt := 1112) (pc' := 395) hC dL_law_392 (by decide) rfl (fun c119 => ?_) (fun c119 => ?_)
                  · replace h := it_p c119 h
                    refine aw_sub hC [some (.inr (.inr v0)), some (.inr (.inr v1)), some (.inr (.inr v2)), some (.inl v3)] ⟨rfl, ⟨rfl, ⟨rfl, ⟨rfl, trivial⟩⟩⟩⟩ (Nat.le_of_ble_eq_true rfl) ?_
                    exact w_L_law_J1112_18 hC h hL hX
                  · replace h := it_n c119 h
                    cases h
                · replace h := it_n c26 h
                  by_cases c27 : (an_ (M v0 v3) 31) = 7
                  · replace h := it_p c27 h
                    refine aw_tsIn (tgt := 397) (off := 364) hC dL_law_33 ⟨by omega, by omega, by rw [c27]; rfl⟩ (by decide) ?_
                    refine aw_aload_n (pc' := 398) (i := 1) hC dL_law_397 rfl rfl rfl ?_
                    refine aw_aload_n (pc' := 399) (i := 0) hC dL_law_398 rfl rfl rfl ?_
                    refine aw_iload_n (pc' := 400) (i := 3) hC dL_law_399 rfl rfl rfl ?_
                    refine aw_iconst (pc' := 401) hC dL_law_400 rfl (by decide) ?_
                    refine aw_iadd (pc' := 402) hC dL_law_401 rfl  ?_
                    obtain ⟨g120, h⟩ := gd_s h
                    refine aw_iaload (pc' := 403) hC dL_law_402 rfl g120 ?_
                    refine aw_aload_n (pc' := 404) (i := 0) hC dL_law_403 rfl rfl rfl ?_
                    refine aw_iload_n (pc' := 405) (i := 3) hC dL_law_404 rfl rfl rfl ?_
                    refine aw_iconst (pc' := 406) hC dL_law_405 rfl (by decide) ?_
                    refine aw_iadd (pc' := 407) hC dL_law_406 rfl  ?_
                    obtain ⟨g121, h⟩ := gd_s h
                    refine aw_iaload (pc' := 408) hC dL_law_407 rfl g121 ?_
                    obtain ⟨g123, h⟩ := gd_s h
                    obtain ⟨x124, q122, h⟩ := pb_s h
                    replace h := u1_s h
                    refine aw_cV (pc' := 411) (k2 := 207) (n2 := 84208) (st := []) (stN := [.inl x124]) hC [.inl (M v0 (w32 (v3 + 1))), .inl (M v0 (w32 (v3 + 2)))] (mX8_coin q122) lk_L_47 g123 dL_law_408 rfl rfl (Nat.le_of_ble_eq_true rfl) (Nat.le_of_ble_eq_true rfl) (Nat.le_of_ble_eq_true rfl) rfl (Nat.le_of_ble_eq_true rfl) rfl rfl rfl ?_
                    refine aw_aload_n (pc' := 412) (i := 2) hC dL_law_411 rfl rfl rfl ?_
                    refine aw_aload_n (pc' := 413) (i := 0) hC dL_law_412 rfl rfl rfl ?_
                    refine aw_iload_n (pc' := 414) (i := 3) hC dL_law_413 rfl rfl rfl ?_
                    refine aw_iconst (pc' := 415) hC dL_law_414 rfl (by decide) ?_
                    refine aw_iadd (pc' := 416) hC dL_law_415 rfl  ?_
                    refine aw_iaload (pc' := 417) hC dL_law_416 rfl g120 ?_
                    refine aw_aload_n (pc' := 418) (i := 0) hC dL_law_417 rfl rfl rfl ?_
                    refine aw_iload_n (pc' := 419) (i := 3) hC dL_law_418 rfl rfl rfl ?_
                    refine aw_iconst (pc' := 420) hC dL_law_419 rfl (by decide) ?_
                    refine aw_iadd (pc' := 421) hC dL_law_420 rfl  ?_
                    refine aw_iaload (pc' := 422) hC dL_law_421 rfl g121 ?_
                    obtain ⟨g126, h⟩ := gd_s h
                    obtain ⟨x127, q125, h⟩ := pb_s h
                    replace h := u1_s h
                    refine aw_cV (pc' := 425) (k2 := 207) (n2 := 84208) (st := [.inl x124]) (stN := [.inl x127, .inl x124]) hC [.inl (M v0 (w32 (v3 + 1))), .inl (M v0 (w32 (v3 + 2)))] (mX9_coin q125) lk_L_50 g126 dL_law_422 rfl rfl (Nat.le_of_ble_eq_true rfl) (Nat.le_of_ble_eq_true rfl) (Nat.le_of_ble_eq_true rfl) rfl (Nat.le_of_ble_eq_true rfl) rfl rfl rfl ?_
                    refine aw_icmp_eq (tgt := 1112) (pc' := 428) hC dL_law_425 (by decide) rfl (fun c128 => ?_) (fun c128 => ?_)
                    · replace h := it_p c128 h
                      refine aw_sub hC [some (.inr (.inr v0)), some (.inr (.inr v1)), some (.inr (.inr v2)), some (.inl v3)] ⟨rfl, ⟨rfl, ⟨rfl, ⟨rfl, trivial⟩⟩⟩⟩ (Nat.le_of_ble_eq_true rfl) ?_
                      exact w_L_law_J1112_18 hC h hL hX
                    · replace h := it_n c128 h
                      cases h
                  · replace h := it_n c27 h
                    by_cases c28 : (an_ (M v0 v3) 31) = 8
                    · replace h := it_p c28 h
                      refine aw_tsIn (tgt := 430) (off := 397) hC dL_law_33 ⟨by omega, by omega, by rw [c28]; rfl⟩ (by decide) ?_
                      refine aw_aload_n (pc' := 431) (i := 1) hC dL_law_430 rfl rfl rfl ?_
                      refine aw_aload_n (pc' := 432) (i := 0) hC dL_law_431 rfl rfl rfl ?_
                      refine aw_iload_n (pc' := 433) (i := 3) hC dL_law_432 rfl rfl rfl ?_
                      refine aw_iconst (pc' := 434) hC dL_law_433 rfl (by decide) ?_
                      refine aw_iadd (pc' := 435) hC dL_law_434 rfl  ?_
                      obtain ⟨g129, h⟩ := gd_s h
                      refine aw_iaload (pc' := 436) hC dL_law_435 rfl g129 ?_
                      refine aw_aload_n (pc' := 437) (i := 0) hC dL_law_436 rfl rfl rfl ?_
                      refine aw_iload_n (pc' := 438) (i := 3) hC dL_law_437 rfl rfl rfl ?_
                      refine aw_iconst (pc' := 439) hC dL_law_438 rfl (by decide) ?_
                      refine aw_iadd (pc' := 440) hC dL_law_439 rfl  ?_
                      obtain ⟨g130, h⟩ := gd_s h
                      refine aw_iaload (pc' := 441) hC dL_law_440 rfl g130 ?_
                      obtain ⟨g132, h⟩ := gd_s h
                      obtain ⟨x133, q131, h⟩ := pb_s h
                      replace h := u1_s h
                      refine aw_cV (pc' := 444) (k2 := 207) (n2 := 84208) (st := []) (stN := [.inl x133]) hC [.inl (M v0 (w32 (v3 + 1))), .inl (M v0 (w32 (v3 + 2)))] (mX8_met q131) lk_L_51 g132 dL_law_441 rfl rfl (Nat.le_of_ble_eq_true rfl) (Nat.le_of_ble_eq_true rfl) (Nat.le_of_ble_eq_true rfl) rfl (Nat.le_of_ble_eq_true rfl) rfl rfl rfl ?_
                      refine aw_aload_n (pc' := 445) (i := 2) hC dL_law_444 rfl rfl rfl ?_
                      refine aw_aload_n (pc' := 446) (i := 0) hC dL_law_445 rfl rfl rfl ?_
                      refine aw_iload_n (pc' := 447) (i := 3) hC dL_law_446 rfl rfl rfl ?_
                      refine aw_iconst (pc' := 448) hC dL_law_447 rfl (by decide) ?_
                      refine aw_iadd (pc' := 449) hC dL_law_448 rfl  ?_
                      refine aw_iaload (pc' := 450) hC dL_law_449 rfl g129 ?_
                      refine aw_aload_n (pc' := 451) (i := 0) hC dL_law_450 rfl rfl rfl ?_
                      refine aw_iload_n (pc' := 452) (i := 3) hC dL_law_451 rfl rfl rfl ?_
                      refine aw_iconst (pc' := 453) hC dL_law_452 rfl (by decide) ?_
                      refine aw_iadd (pc' := 454) hC dL_law_453 rfl  ?_
                      refine aw_iaload (pc' := 455) hC dL_law_454 rfl g130 ?_
                      obtain ⟨g135, h⟩ := gd_s h
                      obtain ⟨x136, q134, h⟩ := pb_s h
                      replace h := u1_s h
                      refine aw_cV (pc' := 458) (k2 := 207) (n2 := 84208) (st := [.inl x133]) (stN := [.inl x136, .inl x133]) hC [.inl (M v0 (w32 (v3 + 1))), .inl (M v0 (w32 (v3 + 2)))] (mX9_met q134) lk_L_54 g135 dL_law_455 rfl rfl (Nat.le_of_ble_eq_true rfl) (Nat.le_of_ble_eq_true rfl) (Nat.le_of_ble_eq_true rfl) rfl (Nat.le_of_ble_eq_true rfl) rfl rfl rfl ?_
                      refine aw_icmp_eq (tgt := 1112) (pc' := 461) hC dL_law_458 (by decide) rfl (fun c137 => ?_) (fun c137 => ?_)
                      · replace h := it_p c137 h
                        refine aw_sub hC [some (.inr (.inr v0)), some (.inr (.inr v1)), some (.inr (.inr v2)), some (.inl v3)] ⟨rfl, ⟨rfl, ⟨rfl, ⟨rfl, trivial⟩⟩⟩⟩ (Nat.le_of_ble_eq_true rfl) ?_
                        exact w_L_law_J1112_18 hC h hL hX
                      · replace h := it_n c137 h
                        cases h
                    · replace h := it_n c28 h
                      by_cases c29 : (an_ (M v0 v3) 31) = 9
                      · replace h := it_p c29 h
                        refine aw_tsIn (tgt := 463) (off := 430) hC dL_law_33 ⟨by omega, by omega, by rw [c29]; rfl⟩ (by decide) ?_
                        refine aw_aload_n (pc' := 464) (i := 1) hC dL_law_463 rfl rfl rfl ?_
                        refine aw_aload_n (pc' := 465) (i := 0) hC dL_law_464 rfl rfl rfl ?_
                        refine aw_iload_n (pc' := 466) (i := 3) hC dL_law_465 rfl rfl rfl ?_
                        refine aw_iconst (pc' := 467) hC dL_law_466 rfl (by decide) ?_
                        refine aw_iadd (pc' := 468) hC dL_law_467 rfl  ?_
                        obtain ⟨g138, h⟩ := gd_s h
                        refine aw_iaload (pc' := 469) hC dL_law_468 rfl g138 ?_
                        refine aw_aload_n (pc' := 470) (i := 0) hC dL_law_469 rfl rfl rfl ?_
                        refine aw_iload_n (pc' := 471) (i := 3) hC dL_law_470 rfl rfl rfl ?_
                        refine aw_iconst (pc' := 472) hC dL_law_471 rfl (by decide) ?_
                        refine aw_iadd (pc' := 473) hC dL_law_472 rfl  ?_
                        obtain ⟨g139, h⟩ := gd_s h
                        refine aw_iaload (pc' := 474) hC dL_law_473 rfl g139 ?_
                        obtain ⟨g141, h⟩ := gd_s h
                        obtain ⟨⟨x142, M143⟩, q140, h⟩ := pb_s h
                        replace h := u2_s h
                        refine aw_cV (pc' := 477) (k2 := 207) (n2 := 84208) (st := []) (stN := [.inl x142]) hC [.inl (M v0 (w32 (v3 + 1))), .inl (M v0 (w32 (v3 + 2)))] (mX8_may q140) lk_L_55 g141 dL_law_474 rfl rfl (Nat.le_of_ble_eq_true rfl) (Nat.le_of_ble_eq_true rfl) (Nat.le_of_ble_eq_true rfl) rfl (Nat.le_of_ble_eq_true rfl) rfl rfl rfl ?_
                        refine aw_aload_n (pc' := 478) (i := 2) hC dL_law_477 rfl rfl rfl ?_
                        refine aw_aload_n (pc' := 479) (i := 0) hC dL_law_478 rfl rfl rfl ?_
                        refine aw_iload_n (pc' := 480) (i := 3) hC dL_law_479 rfl rfl rfl ?_
                        refine aw_iconst (pc' := 481) hC dL_law_480 rfl (by decide) ?_
                        refine aw_iadd (pc' := 482) hC dL_law_481 rfl  ?_
                        refine aw_iaload (pc' := 483) hC dL_law_482 rfl g138 ?_
                        refine aw_aload_n (pc' := 484) (i := 0) hC dL_law_483 rfl rfl rfl ?_
                        refine aw_iload_n (pc' := 485) (i := 3) hC dL_law_484 rfl rfl rfl ?_
                        refine aw_iconst (pc' := 486) hC dL_law_485 rfl (by decide) ?_
                        refine aw_iadd (pc' := 487) hC dL_law_486 rfl  ?_
                        refine aw_iaload (pc' := 488) hC dL_law_487 rfl g139 ?_
                        obtain ⟨g145, h⟩ := gd_s h
                        obtain ⟨⟨x146, M147⟩, q144, h⟩ := pb_s h
                        replace h := u2_s h
                        refine aw_cV (pc' := 491) (k2 := 207) (n2 := 84208) (st := [.inl x142]) (stN := [.inl x146, .inl x142]) hC [.inl (M143 v0 (w32 (v3 + 1))), .inl (M143 v0 (w32 (v3 + 2)))] (mX9_may q144) lk_L_58 g145 dL_law_488 rfl rfl (Nat.le_of_ble_eq_true rfl) (Nat.le_of_ble_eq_true rfl) (Nat.le_of_ble_eq_true rfl) rfl (Nat.le_of_ble_eq_true rfl) rfl rfl rfl ?_
                        refine aw_icmp_eq (tgt := 1112) (pc' := 494) hC dL_law_491 (by decide) rfl (fun c148 => ?_) (fun c148 => ?_)
                        · replace h := it_p c148 h
                          refine aw_sub hC [some (.inr (.inr v0)), some (.inr (.inr v1)), some (.inr (.inr v2)), some (.inl v3)] ⟨rfl, ⟨rfl, ⟨rfl, ⟨rfl, trivial⟩⟩⟩⟩ (Nat.le_of_ble_eq_true rfl) ?_
                          exact w_L_law_J1112_18 hC h hL hX
                        · replace h := it_n c148 h
                          cases h
                      · replace h := it_n c29 h
                        by_cases c30 : (an_ (M v0 v3) 31) = 10
                        · replace h := it_p c30 h
                          refine aw_tsIn (tgt := 496) (off := 463) hC dL_law_33 ⟨by omega, by omega, by rw [c30]; rfl⟩ (by decide) ?_
                          refine aw_aload_n (pc' := 497) (i := 1) hC dL_law_496 rfl rfl rfl ?_
                          refine aw_aload_n (pc' := 498) (i := 0) hC dL_law_497 rfl rfl rfl ?_
                          refine aw_iload_n (pc' := 499) (i := 3) hC dL_law_498 rfl rfl rfl ?_
                          refine aw_iconst (pc' := 500) hC dL_law_499 rfl (by decide) ?_
                          refine aw_iadd (pc' := 501) hC dL_law_500 rfl  ?_
                          obtain ⟨g149, h⟩ := gd_s h
                          refine aw_iaload (pc' := 502) hC dL_law_501 rfl g149 ?_
                          refine aw_aload_n (pc' := 503) (i := 0) hC dL_law_502 rfl rfl rfl ?_
                          refine aw_iload_n (pc' := 504) (i := 3) hC dL_law_503 rfl rfl rfl ?_
                          refine aw_iconst (pc' := 505) hC dL_law_504 rfl (by decide) ?_
                          refine aw_iadd (pc' := 506) hC dL_law_505 rfl  ?_
                          obtain ⟨g150, h⟩ := gd_s h
                          refine aw_iaload (pc' := 507) hC dL_law_506 rfl g150 ?_
                          refine aw_aload_n (pc' := 508) (i := 0) hC dL_law_507 rfl rfl rfl ?_
                          refine aw_iload_n (pc' := 509) (i := 3) hC dL_law_508 rfl rfl rfl ?_
                          refine aw_iconst (pc' := 510) hC dL_law_509 rfl (by decide) ?_
                          refine aw_iadd (pc' := 511) hC dL_law_510 rfl  ?_
                          obtain ⟨g151, h⟩ := gd_s h
                          refine aw_iaload (pc' := 512) hC dL_law_511 rfl g151 ?_
                          obtain ⟨g153, h⟩ := gd_s h
                          obtain ⟨⟨x154, M155⟩, q152, h⟩ := pb_s h
                          replace h := u2_s h
                          refine aw_cV (pc' := 515) (k2 := 207) (n2 := 84208) (st := []) (stN := [.inl x154]) hC [.inl (M v0 (w32 (v3 + 1))), .inl (M v0 (w32 (v3 + 2))), .inl (M v0 (w32 (v3 + 3)))] (mX8_goods q152) lk_L_59 g153 dL_law_512 rfl rfl (Nat.le_of_ble_eq_true rfl) (Nat.le_of_ble_eq_true rfl) (Nat.le_of_ble_eq_true rfl) rfl (Nat.le_of_ble_eq_true rfl) rfl rfl rfl ?_
                          refine aw_aload_n (pc' := 516) (i := 2) hC dL_law_515 rfl rfl rfl ?_
                          refine aw_aload_n (pc' := 517) (i := 0) hC dL_law_516 rfl rfl rfl ?_
                          refine aw_iload_n (pc' := 518) (i := 3) hC dL_law_517 rfl rfl rfl ?_
                          refine aw_iconst (pc' := 519) hC dL_law_518 rfl (by decide) ?_
                          refine aw_iadd (pc' := 520) hC dL_law_519 rfl  ?_
                          refine aw_iaload (pc' := 521) hC dL_law_520 rfl g149 ?_
                          refine aw_aload_n (pc' := 522) (i := 0) hC dL_law_521 rfl rfl rfl ?_
                          refine aw_iload_n (pc' := 523) (i := 3) hC dL_law_522 rfl rfl rfl ?_
                          refine aw_iconst (pc' := 524) hC dL_law_523 rfl (by decide) ?_
                          refine aw_iadd (pc' := 525) hC dL_law_524 rfl  ?_
                          refine aw_iaload (pc' := 526) hC dL_law_525 rfl g150 ?_
                          refine aw_aload_n (pc' := 527) (i := 0) hC dL_law_526 rfl rfl rfl ?_
                          refine aw_iload_n (pc' := 528) (i := 3) hC dL_law_527 rfl rfl rfl ?_
                          refine aw_iconst (pc' := 529) hC dL_law_528 rfl (by decide) ?_
                          refine aw_iadd (pc' := 530) hC dL_law_529 rfl  ?_
                          refine aw_iaload (pc' := 531) hC dL_law_530 rfl g151 ?_
                          obtain ⟨g157, h⟩ := gd_s h
                          obtain ⟨⟨x158, M159⟩, q156, h⟩ := pb_s h
                          replace h := u2_s h
                          refine aw_cV (pc' := 534) (k2 := 207) (n2 := 84208) (st := [.inl x154]) (stN := [.inl x158, .inl x154]) hC [.inl (M155 v0 (w32 (v3 + 1))), .inl (M155 v0 (w32 (v3 + 2))), .inl (M155 v0 (w32 (v3 + 3)))] (mX9_goods q156) lk_L_62 g157 dL_law_531 rfl rfl (Nat.le_of_ble_eq_true rfl) (Nat.le_of_ble_eq_true rfl) (Nat.le_of_ble_eq_true rfl) rfl (Nat.le_of_ble_eq_true rfl) rfl rfl rfl ?_
                          refine aw_icmp_eq (tgt := 1112) (pc' := 537) hC dL_law_534 (by decide) rfl (fun c160 => ?_) (fun c160 => ?_)
                          · replace h := it_p c160 h
                            refine aw_sub hC [some (.inr (.inr v0)), some (.inr (.inr v1)), some (.inr (.inr v2)), some (.inl v3)] ⟨rfl, ⟨rfl, ⟨rfl, ⟨rfl, trivial⟩⟩⟩⟩ (Nat.le_of_ble_eq_true rfl) ?_
                            exact w_L_law_J1112_18 hC h hL hX
                          · replace h := it_n c160 h
                            cases h
                        · replace h := it_n c30 h
                          by_cases c31 : (an_ (M v0 v3) 31) = 11
                          · replace h := it_p c31 h
                            refine aw_tsIn (tgt := 539) (off := 506) hC dL_law_33 ⟨by omega, by omega, by rw [c31]; rfl⟩ (by decide) ?_
                            refine aw_aload_n (pc' := 540) (i := 1) hC dL_law_539 rfl rfl rfl ?_
                            refine aw_aload_n (pc' := 541) (i := 0) hC dL_law_540 rfl rfl rfl ?_
                            refine aw_iload_n (pc' := 542) (i := 3) hC dL_law_541 rfl rfl rfl ?_
                            refine aw_iconst (pc' := 543) hC dL_law_542 rfl (by decide) ?_
                            refine aw_iadd (pc' := 544) hC dL_law_543 rfl  ?_
                            obtain ⟨g161, h⟩ := gd_s h
                            refine aw_iaload (pc' := 545) hC dL_law_544 rfl g161 ?_
                            refine aw_aload_n (pc' := 546) (i := 0) hC dL_law_545 rfl rfl rfl ?_
                            refine aw_iload_n (pc' := 547) (i := 3) hC dL_law_546 rfl rfl rfl ?_
                            refine aw_iconst (pc' := 548) hC dL_law_547 rfl (by decide) ?_
                            refine aw_iadd (pc' := 549) hC dL_law_548 rfl  ?_
                            obtain ⟨g162, h⟩ := gd_s h
                            refine aw_iaload (pc' := 550) hC dL_law_549 rfl g162 ?_
                            obtain ⟨g164, h⟩ := gd_s h
                            obtain ⟨x165, q163, h⟩ := pb_s h
                            replace h := u1_s h
                            refine aw_cV (pc' := 553) (k2 := 207) (n2 := 84208) (st := []) (stN := [.inl x165]) hC [.inl (M v0 (w32 (v3 + 1))), .inl (M v0 (w32 (v3 + 2)))] (mX8_spend q163) lk_L_63 g164 dL_law_550 rfl rfl (Nat.le_of_ble_eq_true rfl) (Nat.le_of_ble_eq_true rfl) (Nat.le_of_ble_eq_true rfl) rfl (Nat.le_of_ble_eq_true rfl) rfl rfl rfl ?_
                            refine aw_aload_n (pc' := 554) (i := 2) hC dL_law_553 rfl rfl rfl ?_
                            refine aw_aload_n (pc' := 555) (i := 0) hC dL_law_554 rfl rfl rfl ?_
                            refine aw_iload_n (pc' := 556) (i := 3) hC dL_law_555 rfl rfl rfl ?_
                            refine aw_iconst (pc' := 557) hC dL_law_556 rfl (by decide) ?_
                            refine aw_iadd (pc' := 558) hC dL_law_557 rfl  ?_
                            refine aw_iaload (pc' := 559) hC dL_law_558 rfl g161 ?_
                            refine aw_aload_n (pc' := 560) (i := 0) hC dL_law_559 rfl rfl rfl ?_
                            refine aw_iload_n (pc' := 561) (i := 3) hC dL_law_560 rfl rfl rfl ?_
                            refine aw_iconst (pc' := 562) hC dL_law_561 rfl (by decide) ?_
                            refine aw_iadd (pc' := 563) hC dL_law_562 rfl  ?_
                            refine aw_iaload (pc' := 564) hC dL_law_563 rfl g162 ?_
                            obtain ⟨g167, h⟩ := gd_s h
                            obtain ⟨x168, q166, h⟩ := pb_s h
                            replace h := u1_s h
                            refine aw_cV (pc' := 567) (k2 := 207) (n2 := 84208) (st := [.inl x165]) (stN := [.inl x168, .inl x165]) hC [.inl (M v0 (w32 (v3 + 1))), .inl (M v0 (w32 (v3 + 2)))] (mX9_spend q166) lk_L_66 g167 dL_law_564 rfl rfl (Nat.le_of_ble_eq_true rfl) (Nat.le_of_ble_eq_true rfl) (Nat.le_of_ble_eq_true rfl) rfl (Nat.le_of_ble_eq_true rfl) rfl rfl rfl ?_
                            refine aw_icmp_eq (tgt := 1112) (pc' := 570) hC dL_law_567 (by decide) rfl (fun c169 => ?_) (fun c169 => ?_)
                            · replace h := it_p c169 h
                              refine aw_sub hC [some (.inr (.inr v0)), some (.inr (.inr v1)), some (.inr (.inr v2)), some (.inl v3)] ⟨rfl, ⟨rfl, ⟨rfl, ⟨rfl, trivial⟩⟩⟩⟩ (Nat.le_of_ble_eq_true rfl) ?_
                              exact w_L_law_J1112_18 hC h hL hX
                            · replace h := it_n c169 h
                              cases h
                          · replace h := it_n c31 h
                            by_cases c32 : (an_ (M v0 v3) 31) = 12
                            · replace h := it_p c32 h
                              refine aw_tsIn (tgt := 572) (off := 539) hC dL_law_33 ⟨by omega, by omega, by rw [c32]; rfl⟩ (by decide) ?_
                              refine aw_aload_n (pc' := 573) (i := 1) hC dL_law_572 rfl rfl rfl ?_
                              refine aw_aload_n (pc' := 574) (i := 0) hC dL_law_573 rfl rfl rfl ?_
                              refine aw_iload_n (pc' := 575) (i := 3) hC dL_law_574 rfl rfl rfl ?_
                              refine aw_iconst (pc' := 576) hC dL_law_575 rfl (by decide) ?_
                              refine aw_iadd (pc' := 577) hC dL_law_576 rfl  ?_
                              obtain ⟨g170, h⟩ := gd_s h
                              refine aw_iaload (pc' := 578) hC dL_law_577 rfl g170 ?_
                              refine aw_aload_n (pc' := 579) (i := 0) hC dL_law_578 rfl rfl rfl ?_
                              refine aw_iload_n (pc' := 580) (i := 3) hC dL_law_579 rfl rfl rfl ?_
                              refine aw_iconst (pc' := 581) hC dL_law_580 rfl (by decide) ?_
                              refine aw_iadd (pc' := 582) hC dL_law_581 rfl  ?_
                              obtain ⟨g171, h⟩ := gd_s h
                              refine aw_iaload (pc' := 583) hC dL_law_582 rfl g171 ?_
                              obtain ⟨g173, h⟩ := gd_s h
                              obtain ⟨⟨x174, M175⟩, q172, h⟩ := pb_s h
                              replace h := u2_s h
                              refine aw_cV (pc' := 586) (k2 := 207) (n2 := 84208) (st := []) (stN := [.inl x174]) hC [.inl (M v0 (w32 (v3 + 1))), .inl (M v0 (w32 (v3 + 2)))] (mX8_present q172) lk_L_67 g173 dL_law_583 rfl rfl (Nat.le_of_ble_eq_true rfl) (Nat.le_of_ble_eq_true rfl) (Nat.le_of_ble_eq_true rfl) rfl (Nat.le_of_ble_eq_true rfl) rfl rfl rfl ?_
                              refine aw_aload_n (pc' := 587) (i := 2) hC dL_law_586 rfl rfl rfl ?_
                              refine aw_aload_n (pc' := 588) (i := 0) hC dL_law_587 rfl rfl rfl ?_
                              refine aw_iload_n (pc' := 589) (i := 3) hC dL_law_588 rfl rfl rfl ?_
                              refine aw_iconst (pc' := 590) hC dL_law_589 rfl (by decide) ?_
                              refine aw_iadd (pc' := 591) hC dL_law_590 rfl  ?_
                              refine aw_iaload (pc' := 592) hC dL_law_591 rfl g170 ?_
                              refine aw_aload_n (pc' := 593) (i := 0) hC dL_law_592 rfl rfl rfl ?_
                              refine aw_iload_n (pc' := 594) (i := 3) hC dL_law_593 rfl rfl rfl ?_
                              refine aw_iconst (pc' := 595) hC dL_law_594 rfl (by decide) ?_
                              refine aw_iadd (pc' := 596) hC dL_law_595 rfl  ?_
                              refine aw_iaload (pc' := 597) hC dL_law_596 rfl g171 ?_
                              obtain ⟨g177, h⟩ := gd_s h
                              obtain ⟨⟨x178, M179⟩, q176, h⟩ := pb_s h
                              replace h := u2_s h
                              refine aw_cV (pc' := 600) (k2 := 207) (n2 := 84208) (st := [.inl x174]) (stN := [.inl x178, .inl x174]) hC [.inl (M175 v0 (w32 (v3 + 1))), .inl (M175 v0 (w32 (v3 + 2)))] (mX9_present q176) lk_L_70 g177 dL_law_597 rfl rfl (Nat.le_of_ble_eq_true rfl) (Nat.le_of_ble_eq_true rfl) (Nat.le_of_ble_eq_true rfl) rfl (Nat.le_of_ble_eq_true rfl) rfl rfl rfl ?_
                              refine aw_icmp_eq (tgt := 1112) (pc' := 603) hC dL_law_600 (by decide) rfl (fun c180 => ?_) (fun c180 => ?_)
                              · replace h := it_p c180 h
                                refine aw_sub hC [some (.inr (.inr v0)), some (.inr (.inr v1)), some (.inr (.inr v2)), some (.inl v3)] ⟨rfl, ⟨rfl, ⟨rfl, ⟨rfl, trivial⟩⟩⟩⟩ (Nat.le_of_ble_eq_true rfl) ?_
                                exact w_L_law_J1112_18 hC h hL hX
                              · replace h := it_n c180 h
                                cases h
                            · replace h := it_n c32 h
                              by_cases c33 : (an_ (M v0 v3) 31) = 13
                              · replace h := it_p c33 h
                                refine aw_tsIn (tgt := 605) (off := 572) hC dL_law_33 ⟨by omega, by omega, by rw [c33]; rfl⟩ (by decide) ?_
                                refine aw_aload_n (pc' := 606) (i := 1) hC dL_law_605 rfl rfl rfl ?_
                                refine aw_aload_n (pc' := 607) (i := 0) hC dL_law_606 rfl rfl rfl ?_
                                refine aw_iload_n (pc' := 608) (i := 3) hC dL_law_607 rfl rfl rfl ?_
                                refine aw_iconst (pc' := 609) hC dL_law_608 rfl (by decide) ?_
                                refine aw_iadd (pc' := 610) hC dL_law_609 rfl  ?_
                                obtain ⟨g181, h⟩ := gd_s h
                                refine aw_iaload (pc' := 611) hC dL_law_610 rfl g181 ?_
                                refine aw_aload_n (pc' := 612) (i := 0) hC dL_law_611 rfl rfl rfl ?_
                                refine aw_iload_n (pc' := 613) (i := 3) hC dL_law_612 rfl rfl rfl ?_
                                refine aw_iconst (pc' := 614) hC dL_law_613 rfl (by decide) ?_
                                refine aw_iadd (pc' := 615) hC dL_law_614 rfl  ?_
                                obtain ⟨g182, h⟩ := gd_s h
                                refine aw_iaload (pc' := 616) hC dL_law_615 rfl g182 ?_
                                obtain ⟨g184, h⟩ := gd_s h
                                obtain ⟨⟨x185, M186⟩, q183, h⟩ := pb_s h
                                replace h := u2_s h
                                refine aw_cV (pc' := 619) (k2 := 207) (n2 := 84208) (st := []) (stN := [.inl x185]) hC [.inl (M v0 (w32 (v3 + 1))), .inl (M v0 (w32 (v3 + 2)))] (mX8_pay q183) lk_L_71 g184 dL_law_616 rfl rfl (Nat.le_of_ble_eq_true rfl) (Nat.le_of_ble_eq_true rfl) (Nat.le_of_ble_eq_true rfl) rfl (Nat.le_of_ble_eq_true rfl) rfl rfl rfl ?_
                                refine aw_aload_n (pc' := 620) (i := 2) hC dL_law_619 rfl rfl rfl ?_
                                refine aw_aload_n (pc' := 621) (i := 0) hC dL_law_620 rfl rfl rfl ?_
                                refine aw_iload_n (pc' := 622) (i := 3) hC dL_law_621 rfl rfl rfl ?_
                                refine aw_iconst (pc' := 623) hC dL_law_622 rfl (by decide) ?_
                                refine aw_iadd (pc' := 624) hC dL_law_623 rfl  ?_
                                refine aw_iaload (pc' := 625) hC dL_law_624 rfl g181 ?_
                                refine aw_aload_n (pc' := 626) (i := 0) hC dL_law_625 rfl rfl rfl ?_
                                refine aw_iload_n (pc' := 627) (i := 3) hC dL_law_626 rfl rfl rfl ?_
                                refine aw_iconst (pc' := 628) hC dL_law_627 rfl (by decide) ?_
                                refine aw_iadd (pc' := 629) hC dL_law_628 rfl  ?_
                                refine aw_iaload (pc' := 630) hC dL_law_629 rfl g182 ?_
                                obtain ⟨g188, h⟩ := gd_s h
                                obtain ⟨⟨x189, M190⟩, q187, h⟩ := pb_s h
                                replace h := u2_s h
                                refine aw_cV (pc' := 633) (k2 := 207) (n2 := 84208) (st := [.inl x185]) (stN := [.inl x189, .inl x185]) hC [.inl (M186 v0 (w32 (v3 + 1))), .inl (M186 v0 (w32 (v3 + 2)))] (mX9_pay q187) lk_L_75 g188 dL_law_630 rfl rfl (Nat.le_of_ble_eq_true rfl) (Nat.le_of_ble_eq_true rfl) (Nat.le_of_ble_eq_true rfl) rfl (Nat.le_of_ble_eq_true rfl) rfl rfl rfl ?_
                                refine aw_icmp_eq (tgt := 1112) (pc' := 636) hC dL_law_633 (by decide) rfl (fun c191 => ?_) (fun c191 => ?_)
                                · replace h := it_p c191 h
                                  refine aw_sub hC [some (.inr (.inr v0)), some (.inr (.inr v1)), some (.inr (.inr v2)), some (.inl v3)] ⟨rfl, ⟨rfl, ⟨rfl, ⟨rfl, trivial⟩⟩⟩⟩ (Nat.le_of_ble_eq_true rfl) ?_
                                  exact w_L_law_J1112_18 hC h hL hX
                                · replace h := it_n c191 h
                                  cases h
                              · replace h := it_n c33 h
                                by_cases c34 : (an_ (M v0 v3) 31) = 14
                                · replace h := it_p c34 h
                                  refine aw_tsIn (tgt := 638) (off := 605) hC dL_law_33 ⟨by omega, by omega, by rw [c34]; rfl⟩ (by decide) ?_
                                  refine aw_aload_n (pc' := 639) (i := 1) hC dL_law_638 rfl rfl rfl ?_
                                  refine aw_aload_n (pc' := 640) (i := 0) hC dL_law_639 rfl rfl rfl ?_
                                  refine aw_iload_n (pc' := 641) (i := 3) hC dL_law_640 rfl rfl rfl ?_
                                  refine aw_iconst (pc' := 642) hC dL_law_641 rfl (by decide) ?_
                                  refine aw_iadd (pc' := 643) hC dL_law_642 rfl  ?_
                                  obtain ⟨g192, h⟩ := gd_s h
                                  refine aw_iaload (pc' := 644) hC dL_law_643 rfl g192 ?_
                                  refine aw_aload_n (pc' := 645) (i := 0) hC dL_law_644 rfl rfl rfl ?_
                                  refine aw_iload_n (pc' := 646) (i := 3) hC dL_law_645 rfl rfl rfl ?_
                                  refine aw_iconst (pc' := 647) hC dL_law_646 rfl (by decide) ?_
                                  refine aw_iadd (pc' := 648) hC dL_law_647 rfl  ?_
                                  obtain ⟨g193, h⟩ := gd_s h
                                  refine aw_iaload (pc' := 649) hC dL_law_648 rfl g193 ?_
                                  refine aw_aload_n (pc' := 650) (i := 0) hC dL_law_649 rfl rfl rfl ?_
                                  refine aw_iload_n (pc' := 651) (i := 3) hC dL_law_650 rfl rfl rfl ?_
                                  refine aw_iconst (pc' := 652) hC dL_law_651 rfl (by decide) ?_
                                  refine aw_iadd (pc' := 653) hC dL_law_652 rfl  ?_
                                  obtain ⟨g194, h⟩ := gd_s h
                                  refine aw_iaload (pc' := 654) hC dL_law_653 rfl g194 ?_
                                  obtain ⟨g196, h⟩ := gd_s h
                                  obtain ⟨⟨x197, M198⟩, q195, h⟩ := pb_s h
                                  replace h := u2_s h
                                  refine aw_cV (pc' := 657) (k2 := 207) (n2 := 84208) (st := []) (stN := [.inl x197]) hC [.inl (M v0 (w32 (v3 + 1))), .inl (M v0 (w32 (v3 + 2))), .inl (M v0 (w32 (v3 + 3)))] (mX8_buy q195) lk_L_76 g196 dL_law_654 rfl rfl (Nat.le_of_ble_eq_true rfl) (Nat.le_of_ble_eq_true rfl) (Nat.le_of_ble_eq_true rfl) rfl (Nat.le_of_ble_eq_true rfl) rfl rfl rfl ?_
                                  refine aw_aload_n (pc' := 658) (i := 2) hC dL_law_657 rfl rfl rfl ?_
                                  refine aw_aload_n (pc' := 659) (i := 0) hC dL_law_658 rfl rfl rfl ?_
                                  refine aw_iload_n (pc' := 660) (i := 3) hC dL_law_659 rfl rfl rfl ?_
                                  refine aw_iconst (pc' := 661) hC dL_law_660 rfl (by decide) ?_
                                  refine aw_iadd (pc' := 662) hC dL_law_661 rfl  ?_
                                  refine aw_iaload (pc' := 663) hC dL_law_662 rfl g192 ?_
                                  refine aw_aload_n (pc' := 664) (i := 0) hC dL_law_663 rfl rfl rfl ?_
                                  refine aw_iload_n (pc' := 665) (i := 3) hC dL_law_664 rfl rfl rfl ?_
                                  refine aw_iconst (pc' := 666) hC dL_law_665 rfl (by decide) ?_
                                  refine aw_iadd (pc' := 667) hC dL_law_666 rfl  ?_
                                  refine aw_iaload (pc' := 668) hC dL_law_667 rfl g193 ?_
                                  refine aw_aload_n (pc' := 669) (i := 0) hC dL_law_668 rfl rfl rfl ?_
                                  refine aw_iload_n (pc' := 670) (i := 3) hC dL_law_669 rfl rfl rfl ?_
                                  refine aw_iconst (pc' := 671) hC dL_law_670 rfl (by decide) ?_
                                  refine aw_iadd (pc' := 672) hC dL_law_671 rfl  ?_
                                  refine aw_iaload (pc' := 673) hC dL_law_672 rfl g194 ?_
                                  obtain ⟨g200, h⟩ := gd_s h
                                  obtain ⟨⟨x201, M202⟩, q199, h⟩ := pb_s h
                                  replace h := u2_s h
                                  refine aw_cV (pc' := 676) (k2 := 207) (n2 := 84208) (st := [.inl x197]) (stN := [.inl x201, .inl x197]) hC [.inl (M198 v0 (w32 (v3 + 1))), .inl (M198 v0 (w32 (v3 + 2))), .inl (M198 v0 (w32 (v3 + 3)))] (mX9_buy q199) lk_L_79 g200 dL_law_673 rfl rfl (Nat.le_of_ble_eq_true rfl) (Nat.le_of_ble_eq_true rfl) (Nat.le_of_ble_eq_true rfl) rfl (Nat.le_of_ble_eq_true rfl) rfl rfl rfl ?_
                                  refine aw_icmp_eq (tgt := 1112) (pc' := 679) hC dL_law_676 (by decide) rfl (fun c203 => ?_) (fun c203 => ?_)
                                  · replace h := it_p c203 h
                                    refine aw_sub hC [some (.inr (.inr v0)), some (.inr (.inr v1)), some (.inr (.inr v2)), some (.inl v3)] ⟨rfl, ⟨rfl, ⟨rfl, ⟨rfl, trivial⟩⟩⟩⟩ (Nat.le_of_ble_eq_true rfl) ?_
                                    exact w_L_law_J1112_18 hC h hL hX
                                  · replace h := it_n c203 h
                                    cases h
                                · replace h := it_n c34 h
                                  by_cases c35 : (an_ (M v0 v3) 31) = 15
                                  · replace h := it_p c35 h
                                    refine aw_tsIn (tgt := 681) (off := 648) hC dL_law_33 ⟨by omega, by omega, by rw [c35]; rfl⟩ (by decide) ?_
                                    refine aw_aload_n (pc' := 682) (i := 1) hC dL_law_681 rfl rfl rfl ?_
                                    refine aw_aload_n (pc' := 683) (i := 0) hC dL_law_682 rfl rfl rfl ?_
                                    refine aw_iload_n (pc' := 684) (i := 3) hC dL_law_683 rfl rfl rfl ?_
                                    refine aw_iconst (pc' := 685) hC dL_law_684 rfl (by decide) ?_
                                    refine aw_iadd (pc' := 686) hC dL_law_685 rfl  ?_
                                    obtain ⟨g204, h⟩ := gd_s h
                                    refine aw_iaload (pc' := 687) hC dL_law_686 rfl g204 ?_
                                    obtain ⟨g206, h⟩ := gd_s h
                                    obtain ⟨⟨x207, M208⟩, q205, h⟩ := pb_s h
                                    replace h := u2_s h
                                    refine aw_cV (pc' := 690) (k2 := 207) (n2 := 84208) (st := []) (stN := [.inl x207]) hC [.inl (M v0 (w32 (v3 + 1)))] (mX8_tea q205) lk_L_80 g206 dL_law_687 rfl rfl (Nat.le_of_ble_eq_true rfl) (Nat.le_of_ble_eq_true rfl) (Nat.le_of_ble_eq_true rfl) rfl (Nat.le_of_ble_eq_true rfl) rfl rfl rfl ?_
                                    refine aw_aload_n (pc' := 691) (i := 2) hC dL_law_690 rfl rfl rfl ?_
                                    refine aw_aload_n (pc' := 692) (i := 0) hC dL_law_691 rfl rfl rfl ?_
                                    refine aw_iload_n (pc' := 693) (i := 3) hC dL_law_692 rfl rfl rfl ?_
                                    refine aw_iconst (pc' := 694) hC dL_law_693 rfl (by decide) ?_
                                    refine aw_iadd (pc' := 695) hC dL_law_694 rfl  ?_
                                    refine aw_iaload (pc' := 696) hC dL_law_695 rfl g204 ?_
                                    obtain ⟨g210, h⟩ := gd_s h
                                    obtain ⟨⟨x211, M212⟩, q209, h⟩ := pb_s h
                                    replace h := u2_s h
                                    refine aw_cV (pc' := 699) (k2 := 207) (n2 := 84208) (st := [.inl x207]) (stN := [.inl x211, .inl x207]) hC [.inl (M208 v0 (w32 (v3 + 1)))] (mX9_tea q209) lk_L_83 g210 dL_law_696 rfl rfl (Nat.le_of_ble_eq_true rfl) (Nat.le_of_ble_eq_true rfl) (Nat.le_of_ble_eq_true rfl) rfl (Nat.le_of_ble_eq_true rfl) rfl rfl rfl ?_
                                    refine aw_icmp_eq (tgt := 1112) (pc' := 702) hC dL_law_699 (by decide) rfl (fun c213 => ?_) (fun c213 => ?_)
                                    · replace h := it_p c213 h
                                      refine aw_sub hC [some (.inr (.inr v0)), some (.inr (.inr v1)), some (.inr (.inr v2)), some (.inl v3)] ⟨rfl, ⟨rfl, ⟨rfl, ⟨rfl, trivial⟩⟩⟩⟩ (Nat.le_of_ble_eq_true rfl) ?_
                                      exact w_L_law_J1112_18 hC h hL hX
                                    · replace h := it_n c213 h
                                      cases h
                                  · replace h := it_n c35 h
                                    by_cases c36 : (an_ (M v0 v3) 31) = 16
                                    · replace h := it_p c36 h
                                      refine aw_tsIn (tgt := 704) (off := 671) hC dL_law_33 ⟨by omega, by omega, by rw [c36]; rfl⟩ (by decide) ?_
                                      refine aw_aload_n (pc' := 705) (i := 1) hC dL_law_704 rfl rfl rfl ?_
                                      refine aw_aload_n (pc' := 706) (i := 0) hC dL_law_705 rfl rfl rfl ?_
                                      refine aw_iload_n (pc' := 707) (i := 3) hC dL_law_706 rfl rfl rfl ?_
                                      refine aw_iconst (pc' := 708) hC dL_law_707 rfl (by decide) ?_
                                      refine aw_iadd (pc' := 709) hC dL_law_708 rfl  ?_
                                      obtain ⟨g214, h⟩ := gd_s h
                                      refine aw_iaload (pc' := 710) hC dL_law_709 rfl g214 ?_
                                      obtain ⟨g216, h⟩ := gd_s h
                                      obtain ⟨⟨x217, M218⟩, q215, h⟩ := pb_s h
                                      replace h := u2_s h
                                      refine aw_cV (pc' := 713) (k2 := 207) (n2 := 84208) (st := []) (stN := [.inl x217]) hC [.inl (M v0 (w32 (v3 + 1)))] (mX8_days q215) lk_L_84 g216 dL_law_710 rfl rfl (Nat.le_of_ble_eq_true rfl) (Nat.le_of_ble_eq_true rfl) (Nat.le_of_ble_eq_true rfl) rfl (Nat.le_of_ble_eq_true rfl) rfl rfl rfl ?_
                                      refine aw_aload_n (pc' := 714) (i := 2) hC dL_law_713 rfl rfl rfl ?_
                                      refine aw_aload_n (pc' := 715) (i := 0) hC dL_law_714 rfl rfl rfl ?_
                                      refine aw_iload_n (pc' := 716) (i := 3) hC dL_law_715 rfl rfl rfl ?_
                                      refine aw_iconst (pc' := 717) hC dL_law_716 rfl (by decide) ?_
                                      refine aw_iadd (pc' := 718) hC dL_law_717 rfl  ?_
                                      refine aw_iaload (pc' := 719) hC dL_law_718 rfl g214 ?_
                                      obtain ⟨g220, h⟩ := gd_s h
                                      obtain ⟨⟨x221, M222⟩, q219, h⟩ := pb_s h
                                      replace h := u2_s h
                                      refine aw_cV (pc' := 722) (k2 := 207) (n2 := 84208) (st := [.inl x217]) (stN := [.inl x221, .inl x217]) hC [.inl (M218 v0 (w32 (v3 + 1)))] (mX9_days q219) lk_L_87 g220 dL_law_719 rfl rfl (Nat.le_of_ble_eq_true rfl) (Nat.le_of_ble_eq_true rfl) (Nat.le_of_ble_eq_true rfl) rfl (Nat.le_of_ble_eq_true rfl) rfl rfl rfl ?_
                                      refine aw_icmp_eq (tgt := 1112) (pc' := 725) hC dL_law_722 (by decide) rfl (fun c223 => ?_) (fun c223 => ?_)
                                      · replace h := it_p c223 h
                                        refine aw_sub hC [some (.inr (.inr v0)), some (.inr (.inr v1)), some (.inr (.inr v2)), some (.inl v3)] ⟨rfl, ⟨rfl, ⟨rfl, ⟨rfl, trivial⟩⟩⟩⟩ (Nat.le_of_ble_eq_true rfl) ?_
                                        exact w_L_law_J1112_18 hC h hL hX
                                      · replace h := it_n c223 h
                                        cases h
                                    · replace h := it_n c36 h
                                      by_cases c37 : (an_ (M v0 v3) 31) = 17
                                      · replace h := it_p c37 h
                                        refine aw_tsIn (tgt := 727) (off := 694) hC dL_law_33 ⟨by omega, by omega, by rw [c37]; rfl⟩ (by decide) ?_
                                        refine aw_aload_n (pc' := 728) (i := 1) hC dL_law_727 rfl rfl rfl ?_
                                        refine aw_aload_n (pc' := 729) (i := 0) hC dL_law_728 rfl rfl rfl ?_
                                        refine aw_iload_n (pc' := 730) (i := 3) hC dL_law_729 rfl rfl rfl ?_
                                        refine aw_iconst (pc' := 731) hC dL_law_730 rfl (by decide) ?_
                                        refine aw_iadd (pc' := 732) hC dL_law_731 rfl  ?_
                                        obtain ⟨g224, h⟩ := gd_s h
                                        refine aw_iaload (pc' := 733) hC dL_law_732 rfl g224 ?_
                                        obtain ⟨g226, h⟩ := gd_s h
                                        obtain ⟨⟨x227, M228⟩, q225, h⟩ := pb_s h
                                        replace h := u2_s h
                                        refine aw_cV (pc' := 736) (k2 := 207) (n2 := 84208) (st := []) (stN := [.inl x227]) hC [.inl (M v0 (w32 (v3 + 1)))] (mX8_calls q225) lk_L_88 g226 dL_law_733 rfl rfl (Nat.le_of_ble_eq_true rfl) (Nat.le_of_ble_eq_true rfl) (Nat.le_of_ble_eq_true rfl) rfl (Nat.le_of_ble_eq_true rfl) rfl rfl rfl ?_
                                        refine aw_aload_n (pc' := 737) (i := 2) hC dL_law_736 rfl rfl rfl ?_
                                        refine aw_aload_n (pc' := 738) (i := 0) hC dL_law_737 rfl rfl rfl ?_
                                        refine aw_iload_n (pc' := 739) (i := 3) hC dL_law_738 rfl rfl rfl ?_
                                        refine aw_iconst (pc' := 740) hC dL_law_739 rfl (by decide) ?_
                                        refine aw_iadd (pc' := 741) hC dL_law_740 rfl  ?_
                                        refine aw_iaload (pc' := 742) hC dL_law_741 rfl g224 ?_
                                        obtain ⟨g230, h⟩ := gd_s h
                                        obtain ⟨⟨x231, M232⟩, q229, h⟩ := pb_s h
                                        replace h := u2_s h
                                        refine aw_cV (pc' := 745) (k2 := 207) (n2 := 84208) (st := [.inl x227]) (stN := [.inl x231, .inl x227]) hC [.inl (M228 v0 (w32 (v3 + 1)))] (mX9_calls q229) lk_L_91 g230 dL_law_742 rfl rfl (Nat.le_of_ble_eq_true rfl) (Nat.le_of_ble_eq_true rfl) (Nat.le_of_ble_eq_true rfl) rfl (Nat.le_of_ble_eq_true rfl) rfl rfl rfl ?_
                                        refine aw_icmp_eq (tgt := 1112) (pc' := 748) hC dL_law_745 (by decide) rfl (fun c233 => ?_) (fun c233 => ?_)
                                        · replace h := it_p c233 h
                                          refine aw_sub hC [some (.inr (.inr v0)), some (.inr (.inr v1)), some (.inr (.inr v2)), some (.inl v3)] ⟨rfl, ⟨rfl, ⟨rfl, ⟨rfl, trivial⟩⟩⟩⟩ (Nat.le_of_ble_eq_true rfl) ?_
                                          exact w_L_law_J1112_18 hC h hL hX
                                        · replace h := it_n c233 h
                                          cases h
                                      · replace h := it_n c37 h
                                        by_cases c38 : (an_ (M v0 v3) 31) = 18
                                        · replace h := it_p c38 h
                                          refine aw_tsIn (tgt := 750) (off := 717) hC dL_law_33 ⟨by omega, by omega, by rw [c38]; rfl⟩ (by decide) ?_
                                          refine aw_aload_n (pc' := 751) (i := 1) hC dL_law_750 rfl rfl rfl ?_
                                          obtain ⟨g235, h⟩ := gd_s h
                                          obtain ⟨⟨x236, M237⟩, q234, h⟩ := pb_s h
                                          replace h := u2_s h
                                          refine aw_cV (pc' := 754) (k2 := 207) (n2 := 84208) (st := []) (stN := [.inl x236]) hC [] (mX8_undo q234) lk_L_92 g235 dL_law_751 rfl rfl (Nat.le_of_ble_eq_true rfl) (Nat.le_of_ble_eq_true rfl) (Nat.le_of_ble_eq_true rfl) rfl (Nat.le_of_ble_eq_true rfl) rfl rfl rfl ?_
                                          refine aw_aload_n (pc' := 755) (i := 2) hC dL_law_754 rfl rfl rfl ?_
                                          obtain ⟨g239, h⟩ := gd_s h
                                          obtain ⟨⟨x240, M241⟩, q238, h⟩ := pb_s h
                                          replace h := u2_s h
                                          refine aw_cV (pc' := 758) (k2 := 207) (n2 := 84208) (st := [.inl x236]) (stN := [.inl x240, .inl x236]) hC [] (mX9_undo q238) lk_L_96 g239 dL_law_755 rfl rfl (Nat.le_of_ble_eq_true rfl) (Nat.le_of_ble_eq_true rfl) (Nat.le_of_ble_eq_true rfl) rfl (Nat.le_of_ble_eq_true rfl) rfl rfl rfl ?_
                                          refine aw_icmp_eq (tgt := 1112) (pc' := 761) hC dL_law_758 (by decide) rfl (fun c242 => ?_) (fun c242 => ?_)
                                          · replace h := it_p c242 h
                                            refine aw_sub hC [some (.inr (.inr v0)), some (.inr (.inr v1)), some (.inr (.inr v2)), some (.inl v3)] ⟨rfl, ⟨rfl, ⟨rfl, ⟨rfl, trivial⟩⟩⟩⟩ (Nat.le_of_ble_eq_true rfl) ?_
                                            exact w_L_law_J1112_18 hC h hL hX
                                          · replace h := it_n c242 h
                                            cases h
                                        · replace h := it_n c38 h
                                          by_cases c39 : (an_ (M v0 v3) 31) = 19
                                          · replace h := it_p c39 h
                                            refine aw_tsIn (tgt := 763) (off := 730) hC dL_law_33 ⟨by omega, by omega, by rw [c39]; rfl⟩ (by decide) ?_
                                            refine aw_aload_n (pc' := 764) (i := 1) hC dL_law_763 rfl rfl rfl ?_
                                            refine aw_aload_n (pc' := 765) (i := 0) hC dL_law_764 rfl rfl rfl ?_
                                            refine aw_iload_n (pc' := 766) (i := 3) hC dL_law_765 rfl rfl rfl ?_
                                            refine aw_iconst (pc' := 767) hC dL_law_766 rfl (by decide) ?_
                                            refine aw_iadd (pc' := 768) hC dL_law_767 rfl  ?_
                                            obtain ⟨g243, h⟩ := gd_s h
                                            refine aw_iaload (pc' := 769) hC dL_law_768 rfl g243 ?_
                                            obtain ⟨g245, h⟩ := gd_s h
                                            obtain ⟨⟨x246, M247⟩, q244, h⟩ := pb_s h
                                            replace h := u2_s h
                                            refine aw_cV (pc' := 772) (k2 := 207) (n2 := 84208) (st := []) (stN := [.inl x246]) hC [.inl (M v0 (w32 (v3 + 1)))] (mX8_seed q244) lk_L_97 g245 dL_law_769 rfl rfl (Nat.le_of_ble_eq_true rfl) (Nat.le_of_ble_eq_true rfl) (Nat.le_of_ble_eq_true rfl) rfl (Nat.le_of_ble_eq_true rfl) rfl rfl rfl ?_
                                            refine aw_aload_n (pc' := 773) (i := 2) hC dL_law_772 rfl rfl rfl ?_
                                            refine aw_aload_n (pc' := 774) (i := 0) hC dL_law_773 rfl rfl rfl ?_
                                            refine aw_iload_n (pc' := 775) (i := 3) hC dL_law_774 rfl rfl rfl ?_
                                            refine aw_iconst (pc' := 776) hC dL_law_775 rfl (by decide) ?_
                                            refine aw_iadd (pc' := 777) hC dL_law_776 rfl  ?_
                                            refine aw_iaload (pc' := 778) hC dL_law_777 rfl g243 ?_
                                            obtain ⟨g249, h⟩ := gd_s h
                                            obtain ⟨⟨x250, M251⟩, q248, h⟩ := pb_s h
                                            replace h := u2_s h
                                            refine aw_cV (pc' := 781) (k2 := 207) (n2 := 84208) (st := [.inl x246]) (stN := [.inl x250, .inl x246]) hC [.inl (M247 v0 (w32 (v3 + 1)))] (mX9_seed q248) lk_L_100 g249 dL_law_778 rfl rfl (Nat.le_of_ble_eq_true rfl) (Nat.le_of_ble_eq_true rfl) (Nat.le_of_ble_eq_true rfl) rfl (Nat.le_of_ble_eq_true rfl) rfl rfl rfl ?_
                                            refine aw_icmp_eq (tgt := 1112) (pc' := 784) hC dL_law_781 (by decide) rfl (fun c252 => ?_) (fun c252 => ?_)
                                            · replace h := it_p c252 h
                                              refine aw_sub hC [some (.inr (.inr v0)), some (.inr (.inr v1)), some (.inr (.inr v2)), some (.inl v3)] ⟨rfl, ⟨rfl, ⟨rfl, ⟨rfl, trivial⟩⟩⟩⟩ (Nat.le_of_ble_eq_true rfl) ?_
                                              exact w_L_law_J1112_18 hC h hL hX
                                            · replace h := it_n c252 h
                                              cases h
                                          · replace h := it_n c39 h
                                            by_cases c40 : (an_ (M v0 v3) 31) = 20
                                            · replace h := it_p c40 h
                                              refine aw_tsIn (tgt := 786) (off := 753) hC dL_law_33 ⟨by omega, by omega, by rw [c40]; rfl⟩ (by decide) ?_
                                              refine aw_aload_n (pc' := 787) (i := 1) hC dL_law_786 rfl rfl rfl ?_
                                              refine aw_aload_n (pc' := 788) (i := 0) hC dL_law_787 rfl rfl rfl ?_
                                              refine aw_iload_n (pc' := 789) (i := 3) hC dL_law_788 rfl rfl rfl ?_
                                              refine aw_iconst (pc' := 790) hC dL_law_789 rfl (by decide) ?_
                                              refine aw_iadd (pc' := 791) hC dL_law_790 rfl  ?_
                                              obtain ⟨g253, h⟩ := gd_s h
                                              refine aw_iaload (pc' := 792) hC dL_law_791 rfl g253 ?_
                                              refine aw_aload_n (pc' := 793) (i := 0) hC dL_law_792 rfl rfl rfl ?_
                                              refine aw_iload_n (pc' := 794) (i := 3) hC dL_law_793 rfl rfl rfl ?_
                                              refine aw_iconst (pc' := 795) hC dL_law_794 rfl (by decide) ?_
                                              refine aw_iadd (pc' := 796) hC dL_law_795 rfl  ?_
                                              obtain ⟨g254, h⟩ := gd_s h
                                              refine aw_iaload (pc' := 797) hC dL_law_796 rfl g254 ?_
                                              refine aw_aload_n (pc' := 798) (i := 0) hC dL_law_797 rfl rfl rfl ?_
                                              refine aw_iload_n (pc' := 799) (i := 3) hC dL_law_798 rfl rfl rfl ?_
                                              refine aw_iconst (pc' := 800) hC dL_law_799 rfl (by decide) ?_
                                              refine aw_iadd (pc' := 801) hC dL_law_800 rfl  ?_
                                              obtain ⟨g255, h⟩ := gd_s h
                                              refine aw_iaload (pc' := 802) hC dL_law_801 rfl g255 ?_
                                              refine aw_aload_n (pc' := 803) (i := 0) hC dL_law_802 rfl rfl rfl ?_
                                              refine aw_iload_n (pc' := 804) (i := 3) hC dL_law_803 rfl rfl rfl ?_
                                              refine aw_iconst (pc' := 805) hC dL_law_804 rfl (by decide) ?_
                                              refine aw_iadd (pc' := 806) hC dL_law_805 rfl  ?_
                                              obtain ⟨g256, h⟩ := gd_s h
                                              refine aw_iaload (pc' := 807) hC dL_law_806 rfl g256 ?_
                                              obtain ⟨g258, h⟩ := gd_s h
                                              obtain ⟨⟨x259, M260⟩, q257, h⟩ := pb_s h
                                              replace h := u2_s h
                                              refine aw_cV (pc' := 810) (k2 := 207) (n2 := 84208) (st := []) (stN := [.inl x259]) hC [.inl (M v0 (w32 (v3 + 1))), .inl (M v0 (w32 (v3 + 2))), .inl (M v0 (w32 (v3 + 3))), .inl (M v0 (w32 (v3 + 4)))] (mX8_introduce q257) lk_L_101 g258 dL_law_807 rfl rfl (Nat.le_of_ble_eq_true rfl) (Nat.le_of_ble_eq_true rfl) (Nat.le_of_ble_eq_true rfl) rfl (Nat.le_of_ble_eq_true rfl) rfl rfl rfl ?_
                                              refine aw_aload_n (pc' := 811) (i := 2) hC dL_law_810 rfl rfl rfl ?_
                                              refine aw_aload_n (pc' := 812) (i := 0) hC dL_law_811 rfl rfl rfl ?_
                                              refine aw_iload_n (pc' := 813) (i := 3) hC dL_law_812 rfl rfl rfl ?_
                                              refine aw_iconst (pc' := 814) hC dL_law_813 rfl (by decide) ?_
                                              refine aw_iadd (pc' := 815) hC dL_law_814 rfl  ?_
                                              refine aw_iaload (pc' := 816) hC dL_law_815 rfl g253 ?_
                                              refine aw_aload_n (pc' := 817) (i := 0) hC dL_law_816 rfl rfl rfl ?_
                                              refine aw_iload_n (pc' := 818) (i := 3) hC dL_law_817 rfl rfl rfl ?_
                                              refine aw_iconst (pc' := 819) hC dL_law_818 rfl (by decide) ?_
                                              refine aw_iadd (pc' := 820) hC dL_law_819 rfl  ?_
                                              refine aw_iaload (pc' := 821) hC dL_law_820 rfl g254 ?_
                                              refine aw_aload_n (pc' := 822) (i := 0) hC dL_law_821 rfl rfl rfl ?_
                                              refine aw_iload_n (pc' := 823) (i := 3) hC dL_law_822 rfl rfl rfl ?_
                                              refine aw_iconst (pc' := 824) hC dL_law_823 rfl (by decide) ?_
                                              refine aw_iadd (pc' := 825) hC dL_law_824 rfl  ?_
                                              refine aw_iaload (pc' := 826) hC dL_law_825 rfl g255 ?_
                                              refine aw_aload_n (pc' := 827) (i := 0) hC dL_law_826 rfl rfl rfl ?_
                                              refine aw_iload_n (pc' := 828) (i := 3) hC dL_law_827 rfl rfl rfl ?_
                                              refine aw_iconst (pc' := 829) hC dL_law_828 rfl (by decide) ?_
                                              refine aw_iadd (pc' := 830) hC dL_law_829 rfl  ?_
                                              refine aw_iaload (pc' := 831) hC dL_law_830 rfl g256 ?_
                                              obtain ⟨g262, h⟩ := gd_s h
                                              obtain ⟨⟨x263, M264⟩, q261, h⟩ := pb_s h
                                              replace h := u2_s h
                                              refine aw_cV (pc' := 834) (k2 := 207) (n2 := 84208) (st := [.inl x259]) (stN := [.inl x263, .inl x259]) hC [.inl (M260 v0 (w32 (v3 + 1))), .inl (M260 v0 (w32 (v3 + 2))), .inl (M260 v0 (w32 (v3 + 3))), .inl (M260 v0 (w32 (v3 + 4)))] (mX9_introduce q261) lk_L_105 g262 dL_law_831 rfl rfl (Nat.le_of_ble_eq_true rfl) (Nat.le_of_ble_eq_true rfl) (Nat.le_of_ble_eq_true rfl) rfl (Nat.le_of_ble_eq_true rfl) rfl rfl rfl ?_
                                              refine aw_icmp_eq (tgt := 1112) (pc' := 837) hC dL_law_834 (by decide) rfl (fun c265 => ?_) (fun c265 => ?_)
                                              · replace h := it_p c265 h
                                                refine aw_sub hC [some (.inr (.inr v0)), some (.inr (.inr v1)), some (.inr (.inr v2)), some (.inl v3)] ⟨rfl, ⟨rfl, ⟨rfl, ⟨rfl, trivial⟩⟩⟩⟩ (Nat.le_of_ble_eq_true rfl) ?_
                                                exact w_L_law_J1112_18 hC h hL hX
                                              · replace h := it_n c265 h
                                                cases h
                                            · replace h := it_n c40 h
                                              by_cases c41 : (an_ (M v0 v3) 31) = 21
                                              · replace h := it_p c41 h
                                                refine aw_tsIn (tgt := 839) (off := 806) hC dL_law_33 ⟨by omega, by omega, by rw [c41]; rfl⟩ (by decide) ?_
                                                refine aw_aload_n (pc' := 840) (i := 1) hC dL_law_839 rfl rfl rfl ?_
                                                refine aw_aload_n (pc' := 841) (i := 0) hC dL_law_840 rfl rfl rfl ?_
                                                refine aw_iload_n (pc' := 842) (i := 3) hC dL_law_841 rfl rfl rfl ?_
                                                refine aw_iconst (pc' := 843) hC dL_law_842 rfl (by decide) ?_
                                                refine aw_iadd (pc' := 844) hC dL_law_843 rfl  ?_
                                                obtain ⟨g266, h⟩ := gd_s h
                                                refine aw_iaload (pc' := 845) hC dL_law_844 rfl g266 ?_
                                                refine aw_aload_n (pc' := 846) (i := 0) hC dL_law_845 rfl rfl rfl ?_
                                                refine aw_iload_n (pc' := 847) (i := 3) hC dL_law_846 rfl rfl rfl ?_
                                                refine aw_iconst (pc' := 848) hC dL_law_847 rfl (by decide) ?_
                                                refine aw_iadd (pc' := 849) hC dL_law_848 rfl  ?_
                                                obtain ⟨g267, h⟩ := gd_s h
                                                refine aw_iaload (pc' := 850) hC dL_law_849 rfl g267 ?_
                                                refine aw_aload_n (pc' := 851) (i := 0) hC dL_law_850 rfl rfl rfl ?_
                                                refine aw_iload_n (pc' := 852) (i := 3) hC dL_law_851 rfl rfl rfl ?_
                                                refine aw_iconst (pc' := 853) hC dL_law_852 rfl (by decide) ?_
                                                refine aw_iadd (pc' := 854) hC dL_law_853 rfl  ?_
                                                obtain ⟨g268, h⟩ := gd_s h
                                                refine aw_iaload (pc' := 855) hC dL_law_854 rfl g268 ?_
                                                obtain ⟨g270, h⟩ := gd_s h
                                                obtain ⟨⟨x271, M272⟩, q269, h⟩ := pb_s h
                                                replace h := u2_s h
                                                refine aw_cV (pc' := 858) (k2 := 207) (n2 := 84208) (st := []) (stN := [.inl x271]) hC [.inl (M v0 (w32 (v3 + 1))), .inl (M v0 (w32 (v3 + 2))), .inl (M v0 (w32 (v3 + 3)))] (mX8_comes q269) lk_L_106 g270 dL_law_855 rfl rfl (Nat.le_of_ble_eq_true rfl) (Nat.le_of_ble_eq_true rfl) (Nat.le_of_ble_eq_true rfl) rfl (Nat.le_of_ble_eq_true rfl) rfl rfl rfl ?_
                                                refine aw_aload_n (pc' := 859) (i := 2) hC dL_law_858 rfl rfl rfl ?_
                                                refine aw_aload_n (pc' := 860) (i := 0) hC dL_law_859 rfl rfl rfl ?_
                                                refine aw_iload_n (pc' := 861) (i := 3) hC dL_law_860 rfl rfl rfl ?_
                                                refine aw_iconst (pc' := 862) hC dL_law_861 rfl (by decide) ?_
                                                refine aw_iadd (pc' := 863) hC dL_law_862 rfl  ?_
                                                refine aw_iaload (pc' := 864) hC dL_law_863 rfl g266 ?_
                                                refine aw_aload_n (pc' := 865) (i := 0) hC dL_law_864 rfl rfl rfl ?_
                                                refine aw_iload_n (pc' := 866) (i := 3) hC dL_law_865 rfl rfl rfl ?_
                                                refine aw_iconst (pc' := 867) hC dL_law_866 rfl (by decide) ?_
                                                refine aw_iadd (pc' := 868) hC dL_law_867 rfl  ?_
                                                refine aw_iaload (pc' := 869) hC dL_law_868 rfl g267 ?_
                                                refine aw_aload_n (pc' := 870) (i := 0) hC dL_law_869 rfl rfl rfl ?_
                                                refine aw_iload_n (pc' := 871) (i := 3) hC dL_law_870 rfl rfl rfl ?_
                                                refine aw_iconst (pc' := 872) hC dL_law_871 rfl (by decide) ?_
                                                refine aw_iadd (pc' := 873) hC dL_law_872 rfl  ?_
                                                refine aw_iaload (pc' := 874) hC dL_law_873 rfl g268 ?_
                                                obtain ⟨g274, h⟩ := gd_s h
                                                obtain ⟨⟨x275, M276⟩, q273, h⟩ := pb_s h
                                                replace h := u2_s h
                                                refine aw_cV (pc' := 877) (k2 := 207) (n2 := 84208) (st := [.inl x271]) (stN := [.inl x275, .inl x271]) hC [.inl (M272 v0 (w32 (v3 + 1))), .inl (M272 v0 (w32 (v3 + 2))), .inl (M272 v0 (w32 (v3 + 3)))] (mX9_comes q273) lk_L_109 g274 dL_law_874 rfl rfl (Nat.le_of_ble_eq_true rfl) (Nat.le_of_ble_eq_true rfl) (Nat.le_of_ble_eq_true rfl) rfl (Nat.le_of_ble_eq_true rfl) rfl rfl rfl ?_
                                                refine aw_icmp_eq (tgt := 1112) (pc' := 880) hC dL_law_877 (by decide) rfl (fun c277 => ?_) (fun c277 => ?_)
                                                · replace h := it_p c277 h
                                                  refine aw_sub hC [some (.inr (.inr v0)), some (.inr (.inr v1)), some (.inr (.inr v2)), some (.inl v3)] ⟨rfl, ⟨rfl, ⟨rfl, ⟨rfl, trivial⟩⟩⟩⟩ (Nat.le_of_ble_eq_true rfl) ?_
                                                  exact w_L_law_J1112_18 hC h hL hX
                                                · replace h := it_n c277 h
                                                  cases h
                                              · replace h := it_n c41 h
                                                by_cases c42 : (an_ (M v0 v3) 31) = 22
                                                · replace h := it_p c42 h
                                                  refine aw_tsIn (tgt := 882) (off := 849) hC dL_law_33 ⟨by omega, by omega, by rw [c42]; rfl⟩ (by decide) ?_
                                                  refine aw_aload_n (pc' := 883) (i := 1) hC dL_law_882 rfl rfl rfl ?_
                                                  refine aw_aload_n (pc' := 884) (i := 0) hC dL_law_883 rfl rfl rfl ?_
                                                  refine aw_iload_n (pc' := 885) (i := 3) hC dL_law_884 rfl rfl rfl ?_
                                                  refine aw_iconst (pc' := 886) hC dL_law_885 rfl (by decide) ?_
                                                  refine aw_iadd (pc' := 887) hC dL_law_886 rfl  ?_
                                                  obtain ⟨g278, h⟩ := gd_s h
                                                  refine aw_iaload (pc' := 888) hC dL_law_887 rfl g278 ?_
                                                  refine aw_aload_n (pc' := 889) (i := 0) hC dL_law_888 rfl rfl rfl ?_
                                                  refine aw_iload_n (pc' := 890) (i := 3) hC dL_law_889 rfl rfl rfl ?_
                                                  refine aw_iconst (pc' := 891) hC dL_law_890 rfl (by decide) ?_
                                                  refine aw_iadd (pc' := 892) hC dL_law_891 rfl  ?_
                                                  obtain ⟨g279, h⟩ := gd_s h
                                                  refine aw_iaload (pc' := 893) hC dL_law_892 rfl g279 ?_
                                                  obtain ⟨g281, h⟩ := gd_s h
                                                  obtain ⟨⟨x282, M283⟩, q280, h⟩ := pb_s h
                                                  replace h := u2_s h
                                                  refine aw_cV (pc' := 896) (k2 := 207) (n2 := 84208) (st := []) (stN := [.inl x282]) hC [.inl (M v0 (w32 (v3 + 1))), .inl (M v0 (w32 (v3 + 2)))] (mX8_best q280) lk_L_110 g281 dL_law_893 rfl rfl (Nat.le_of_ble_eq_true rfl) (Nat.le_of_ble_eq_true rfl) (Nat.le_of_ble_eq_true rfl) rfl (Nat.le_of_ble_eq_true rfl) rfl rfl rfl ?_
                                                  refine aw_aload_n (pc' := 897) (i := 2) hC dL_law_896 rfl rfl rfl ?_
                                                  refine aw_aload_n (pc' := 898) (i := 0) hC dL_law_897 rfl rfl rfl ?_
                                                  refine aw_iload_n (pc' := 899) (i := 3) hC dL_law_898 rfl rfl rfl ?_
                                                  refine aw_iconst (pc' := 900) hC dL_law_899 rfl (by decide) ?_
                                                  refine aw_iadd (pc' := 901) hC dL_law_900 rfl  ?_
                                                  refine aw_iaload (pc' := 902) hC dL_law_901 rfl g278 ?_
                                                  refine aw_aload_n (pc' := 903) (i := 0) hC dL_law_902 rfl rfl rfl ?_
                                                  refine aw_iload_n (pc' := 904) (i := 3) hC dL_law_903 rfl rfl rfl ?_
                                                  refine aw_iconst (pc' := 905) hC dL_law_904 rfl (by decide) ?_
                                                  refine aw_iadd (pc' := 906) hC dL_law_905 rfl  ?_
                                                  refine aw_iaload (pc' := 907) hC dL_law_906 rfl g279 ?_
                                                  obtain ⟨g285, h⟩ := gd_s h
                                                  obtain ⟨⟨x286, M287⟩, q284, h⟩ := pb_s h
                                                  replace h := u2_s h
                                                  refine aw_cV (pc' := 910) (k2 := 207) (n2 := 84208) (st := [.inl x282]) (stN := [.inl x286, .inl x282]) hC [.inl (M283 v0 (w32 (v3 + 1))), .inl (M283 v0 (w32 (v3 + 2)))] (mX9_best q284) lk_L_113 g285 dL_law_907 rfl rfl (Nat.le_of_ble_eq_true rfl) (Nat.le_of_ble_eq_true rfl) (Nat.le_of_ble_eq_true rfl) rfl (Nat.le_of_ble_eq_true rfl) rfl rfl rfl ?_
                                                  refine aw_icmp_eq (tgt := 1112) (pc' := 913) hC dL_law_910 (by decide) rfl (fun c288 => ?_) (fun c288 => ?_)
                                                  · replace h := it_p c288 h
                                                    refine aw_sub hC [some (.inr (.inr v0)), some (.inr (.inr v1)), some (.inr (.inr v2)), some (.inl v3)] ⟨rfl, ⟨rfl, ⟨rfl, ⟨rfl, trivial⟩⟩⟩⟩ (Nat.le_of_ble_eq_true rfl) ?_
                                                    exact w_L_law_J1112_18 hC h hL hX
                                                  · replace h := it_n c288 h
                                                    cases h
                                                · replace h := it_n c42 h
                                                  by_cases c43 : (an_ (M v0 v3) 31) = 23
                                                  · replace h := it_p c43 h
                                                    refine aw_tsIn (tgt := 915) (off := 882) hC dL_law_33 ⟨by omega, by omega, by rw [c43]; rfl⟩ (by decide) ?_
                                                    refine aw_aload_n (pc' := 916) (i := 1) hC dL_law_915 rfl rfl rfl ?_
                                                    obtain ⟨g290, h⟩ := gd_s h
                                                    obtain ⟨⟨x291, M292⟩, q289, h⟩ := pb_s h
                                                    replace h := u2_s h
                                                    refine aw_cV (pc' := 919) (k2 := 207) (n2 := 84208) (st := []) (stN := [.inl x291]) hC [] (mX8_letters q289) lk_L_114 g290 dL_law_916 rfl rfl (Nat.le_of_ble_eq_true rfl) (Nat.le_of_ble_eq_true rfl) (Nat.le_of_ble_eq_true rfl) rfl (Nat.le_of_ble_eq_true rfl) rfl rfl rfl ?_
                                                    refine aw_aload_n (pc' := 920) (i := 2) hC dL_law_919 rfl rfl rfl ?_
                                                    obtain ⟨g294, h⟩ := gd_s h
                                                    obtain ⟨⟨x295, M296⟩, q293, h⟩ := pb_s h
                                                    replace h := u2_s h
                                                    refine aw_cV (pc' := 923) (k2 := 207) (n2 := 84208) (st := [.inl x291]) (stN := [.inl x295, .inl x291]) hC [] (mX9_letters q293) lk_L_117 g294 dL_law_920 rfl rfl (Nat.le_of_ble_eq_true rfl) (Nat.le_of_ble_eq_true rfl) (Nat.le_of_ble_eq_true rfl) rfl (Nat.le_of_ble_eq_true rfl) rfl rfl rfl ?_
                                                    refine aw_icmp_eq (tgt := 1112) (pc' := 926) hC dL_law_923 (by decide) rfl (fun c297 => ?_) (fun c297 => ?_)
                                                    · replace h := it_p c297 h
                                                      refine aw_sub hC [some (.inr (.inr v0)), some (.inr (.inr v1)), some (.inr (.inr v2)), some (.inl v3)] ⟨rfl, ⟨rfl, ⟨rfl, ⟨rfl, trivial⟩⟩⟩⟩ (Nat.le_of_ble_eq_true rfl) ?_
                                                      exact w_L_law_J1112_18 hC h hL hX
                                                    · replace h := it_n c297 h
                                                      cases h
                                                  · replace h := it_n c43 h
                                                    by_cases c44 : (an_ (M v0 v3) 31) = 24
                                                    · replace h := it_p c44 h
                                                      refine aw_tsIn (tgt := 928) (off := 895) hC dL_law_33 ⟨by omega, by omega, by rw [c44]; rfl⟩ (by decide) ?_
                                                      refine aw_aload_n (pc' := 929) (i := 1) hC dL_law_928 rfl rfl rfl ?_
                                                      refine aw_aload_n (pc' := 930) (i := 0) hC dL_law_929 rfl rfl rfl ?_
                                                      refine aw_iload_n (pc' := 931) (i := 3) hC dL_law_930 rfl rfl rfl ?_
                                                      refine aw_iconst (pc' := 932) hC dL_law_931 rfl (by decide) ?_
                                                      refine aw_iadd (pc' := 933) hC dL_law_932 rfl  ?_
                                                      obtain ⟨g298, h⟩ := gd_s h
                                                      refine aw_iaload (pc' := 934) hC dL_law_933 rfl g298 ?_
                                                      obtain ⟨g300, h⟩ := gd_s h
                                                      obtain ⟨x301, q299, h⟩ := pb_s h
                                                      replace h := u1_s h
                                                      refine aw_cV (pc' := 937) (k2 := 207) (n2 := 84208) (st := []) (stN := [.inl x301]) hC [.inl (M v0 (w32 (v3 + 1)))] (mX8_letterIs q299) lk_L_118 g300 dL_law_934 rfl rfl (Nat.le_of_ble_eq_true rfl) (Nat.le_of_ble_eq_true rfl) (Nat.le_of_ble_eq_true rfl) rfl (Nat.le_of_ble_eq_true rfl) rfl rfl rfl ?_
                                                      refine aw_aload_n (pc' := 938) (i := 2) hC dL_law_937 rfl rfl rfl ?_
                                                      refine aw_aload_n (pc' := 939) (i := 0) hC dL_law_938 rfl rfl rfl ?_
                                                      refine aw_iload_n (pc' := 940) (i := 3) hC dL_law_939 rfl rfl rfl ?_
                                                      refine aw_iconst (pc' := 941) hC dL_law_940 rfl (by decide) ?_
                                                      refine aw_iadd (pc' := 942) hC dL_law_941 rfl  ?_
                                                      refine aw_iaload (pc' := 943) hC dL_law_942 rfl g298 ?_
                                                      obtain ⟨g303, h⟩ := gd_s h
                                                      obtain ⟨x304, q302, h⟩ := pb_s h
                                                      replace h := u1_s h
                                                      refine aw_cV (pc' := 946) (k2 := 207) (n2 := 84208) (st := [.inl x301]) (stN := [.inl x304, .inl x301]) hC [.inl (M v0 (w32 (v3 + 1)))] (mX9_letterIs q302) lk_L_121 g303 dL_law_943 rfl rfl (Nat.le_of_ble_eq_true rfl) (Nat.le_of_ble_eq_true rfl) (Nat.le_of_ble_eq_true rfl) rfl (Nat.le_of_ble_eq_true rfl) rfl rfl rfl ?_
                                                      refine aw_icmp_eq (tgt := 1112) (pc' := 949) hC dL_law_946 (by decide) rfl (fun c305 => ?_) (fun c305 => ?_)
                                                      · replace h := it_p c305 h
                                                        refine aw_sub hC [some (.inr (.inr v0)), some (.inr (.inr v1)), some (.inr (.inr v2)), some (.inl v3)] ⟨rfl, ⟨rfl, ⟨rfl, ⟨rfl, trivial⟩⟩⟩⟩ (Nat.le_of_ble_eq_true rfl) ?_
                                                        exact w_L_law_J1112_18 hC h hL hX
                                                      · replace h := it_n c305 h
                                                        cases h
                                                    · replace h := it_n c44 h
                                                      by_cases c45 : (an_ (M v0 v3) 31) = 25
                                                      · replace h := it_p c45 h
                                                        refine aw_tsIn (tgt := 951) (off := 918) hC dL_law_33 ⟨by omega, by omega, by rw [c45]; rfl⟩ (by decide) ?_
                                                        refine aw_aload_n (pc' := 952) (i := 1) hC dL_law_951 rfl rfl rfl ?_
                                                        refine aw_aload_n (pc' := 953) (i := 0) hC dL_law_952 rfl rfl rfl ?_
                                                        refine aw_iload_n (pc' := 954) (i := 3) hC dL_law_953 rfl rfl rfl ?_
                                                        refine aw_iconst (pc' := 955) hC dL_law_954 rfl (by decide) ?_
                                                        refine aw_iadd (pc' := 956) hC dL_law_955 rfl  ?_
                                                        obtain ⟨g306, h⟩ := gd_s h
                                                        refine aw_iaload (pc' := 957) hC dL_law_956 rfl g306 ?_
                                                        refine aw_aload_n (pc' := 958) (i := 0) hC dL_law_957 rfl rfl rfl ?_
                                                        refine aw_iload_n (pc' := 959) (i := 3) hC dL_law_958 rfl rfl rfl ?_
                                                        refine aw_iconst (pc' := 960) hC dL_law_959 rfl (by decide) ?_
                                                        refine aw_iadd (pc' := 961) hC dL_law_960 rfl  ?_
                                                        obtain ⟨g307, h⟩ := gd_s h
                                                        refine aw_iaload (pc' := 962) hC dL_law_961 rfl g307 ?_
                                                        obtain ⟨g309, h⟩ := gd_s h
                                                        obtain ⟨x310, q308, h⟩ := pb_s h
                                                        replace h := u1_s h
                                                        refine aw_cV (pc' := 965) (k2 := 207) (n2 := 84208) (st := []) (stN := [.inl x310]) hC [.inl (M v0 (w32 (v3 + 1))), .inl (M v0 (w32 (v3 + 2)))] (mX8_fair q308) lk_L_122 g309 dL_law_962 rfl rfl (Nat.le_of_ble_eq_true rfl) (Nat.le_of_ble_eq_true rfl) (Nat.le_of_ble_eq_true rfl) rfl (Nat.le_of_ble_eq_true rfl) rfl rfl rfl ?_
                                                        refine aw_aload_n (pc' := 966) (i := 2) hC dL_law_965 rfl rfl rfl ?_
                                                        refine aw_aload_n (pc' := 967) (i := 0) hC dL_law_966 rfl rfl rfl ?_
                                                        refine aw_iload_n (pc' := 968) (i := 3) hC dL_law_967 rfl rfl rfl ?_
                                                        refine aw_iconst (pc' := 969) hC dL_law_968 rfl (by decide) ?_
                                                        refine aw_iadd (pc' := 970) hC dL_law_969 rfl  ?_
                                                        refine aw_iaload (pc' := 971) hC dL_law_970 rfl g306 ?_
                                                        refine aw_aload_n (pc' := 972) (i := 0) hC dL_law_971 rfl rfl rfl ?_
                                                        refine aw_iload_n (pc' := 973) (i := 3) hC dL_law_972 rfl rfl rfl ?_
                                                        refine aw_iconst (pc' := 974) hC dL_law_973 rfl (by decide) ?_
                                                        refine aw_iadd (pc' := 975) hC dL_law_974 rfl  ?_
                                                        refine aw_iaload (pc' := 976) hC dL_law_975 rfl g307 ?_
                                                        obtain ⟨g312, h⟩ := gd_s h
                                                        obtain ⟨x313, q311, h⟩ := pb_s h
                                                        replace h := u1_s h
                                                        refine aw_cV (pc' := 979) (k2 := 207) (n2 := 84208) (st := [.inl x310]) (stN := [.inl x313, .inl x310]) hC [.inl (M v0 (w32 (v3 + 1))), .inl (M v0 (w32 (v3 + 2)))] (mX9_fair q311) lk_L_125 g312 dL_law_976 rfl rfl (Nat.le_of_ble_eq_true rfl) (Nat.le_of_ble_eq_true rfl) (Nat.le_of_ble_eq_true rfl) rfl (Nat.le_of_ble_eq_true rfl) rfl rfl rfl ?_
                                                        refine aw_icmp_eq (tgt := 1112) (pc' := 982) hC dL_law_979 (by decide) rfl (fun c314 => ?_) (fun c314 => ?_)
                                                        · replace h := it_p c314 h
                                                          refine aw_sub hC [some (.inr (.inr v0)), some (.inr (.inr v1)), some (.inr (.inr v2)), some (.inl v3)] ⟨rfl, ⟨rfl, ⟨rfl, ⟨rfl, trivial⟩⟩⟩⟩ (Nat.le_of_ble_eq_true rfl) ?_
                                                          exact w_L_law_J1112_18 hC h hL hX
                                                        · replace h := it_n c314 h
                                                          cases h
                                                      · replace h := it_n c45 h
                                                        by_cases c46 : (an_ (M v0 v3) 31) = 26
                                                        · replace h := it_p c46 h
                                                          refine aw_tsIn (tgt := 984) (off := 951) hC dL_law_33 ⟨by omega, by omega, by rw [c46]; rfl⟩ (by decide) ?_
                                                          refine aw_aload_n (pc' := 985) (i := 1) hC dL_law_984 rfl rfl rfl ?_
                                                          refine aw_aload_n (pc' := 986) (i := 0) hC dL_law_985 rfl rfl rfl ?_
                                                          refine aw_iload_n (pc' := 987) (i := 3) hC dL_law_986 rfl rfl rfl ?_
                                                          refine aw_iconst (pc' := 988) hC dL_law_987 rfl (by decide) ?_
                                                          refine aw_iadd (pc' := 989) hC dL_law_988 rfl  ?_
                                                          obtain ⟨g315, h⟩ := gd_s h
                                                          refine aw_iaload (pc' := 990) hC dL_law_989 rfl g315 ?_
                                                          refine aw_aload_n (pc' := 991) (i := 0) hC dL_law_990 rfl rfl rfl ?_
                                                          refine aw_iload_n (pc' := 992) (i := 3) hC dL_law_991 rfl rfl rfl ?_
                                                          refine aw_iconst (pc' := 993) hC dL_law_992 rfl (by decide) ?_
                                                          refine aw_iadd (pc' := 994) hC dL_law_993 rfl  ?_
                                                          obtain ⟨g316, h⟩ := gd_s h
                                                          refine aw_iaload (pc' := 995) hC dL_law_994 rfl g316 ?_
                                                          obtain ⟨g318, h⟩ := gd_s h
                                                          obtain ⟨⟨x319, M320⟩, q317, h⟩ := pb_s h
                                                          replace h := u2_s h
                                                          refine aw_cV (pc' := 998) (k2 := 207) (n2 := 84208) (st := []) (stN := [.inl x319]) hC [.inl (M v0 (w32 (v3 + 1))), .inl (M v0 (w32 (v3 + 2)))] (mX8_later q317) lk_L_126 g318 dL_law_995 rfl rfl (Nat.le_of_ble_eq_true rfl) (Nat.le_of_ble_eq_true rfl) (Nat.le_of_ble_eq_true rfl) rfl (Nat.le_of_ble_eq_true rfl) rfl rfl rfl ?_
                                                          refine aw_aload_n (pc' := 999) (i := 2) hC dL_law_998 rfl rfl rfl ?_
                                                          refine aw_aload_n (pc' := 1000) (i := 0) hC dL_law_999 rfl rfl rfl ?_
                                                          refine aw_iload_n (pc' := 1001) (i := 3) hC dL_law_1000 rfl rfl rfl ?_
                                                          refine aw_iconst (pc' := 1002) hC dL_law_1001 rfl (by decide) ?_
                                                          refine aw_iadd (pc' := 1003) hC dL_law_1002 rfl  ?_
                                                          refine aw_iaload (pc' := 1004) hC dL_law_1003 rfl g315 ?_
                                                          refine aw_aload_n (pc' := 1005) (i := 0) hC dL_law_1004 rfl rfl rfl ?_
                                                          refine aw_iload_n (pc' := 1006) (i := 3) hC dL_law_1005 rfl rfl rfl ?_
                                                          refine aw_iconst (pc' := 1007) hC dL_law_1006 rfl (by decide) ?_
                                                          refine aw_iadd (pc' := 1008) hC dL_law_1007 rfl  ?_
                                                          refine aw_iaload (pc' := 1009) hC dL_law_1008 rfl g316 ?_
                                                          obtain ⟨g322, h⟩ := gd_s h
                                                          obtain ⟨⟨x323, M324⟩, q321, h⟩ := pb_s h
                                                          replace h := u2_s h
                                                          refine aw_cV (pc' := 1012) (k2 := 207) (n2 := 84208) (st := [.inl x319]) (stN := [.inl x323, .inl x319]) hC [.inl (M320 v0 (w32 (v3 + 1))), .inl (M320 v0 (w32 (v3 + 2)))] (mX9_later q321) lk_L_129 g322 dL_law_1009 rfl rfl (Nat.le_of_ble_eq_true rfl) (Nat.le_of_ble_eq_true rfl) (Nat.le_of_ble_eq_true rfl) rfl (Nat.le_of_ble_eq_true rfl) rfl rfl rfl ?_
                                                          refine aw_icmp_eq (tgt := 1112) (pc' := 1015) hC dL_law_1012 (by decide) rfl (fun c325 => ?_) (fun c325 => ?_)
                                                          · replace h := it_p c325 h
                                                            refine aw_sub hC [some (.inr (.inr v0)), some (.inr (.inr v1)), some (.inr (.inr v2)), some (.inl v3)] ⟨rfl, ⟨rfl, ⟨rfl, ⟨rfl, trivial⟩⟩⟩⟩ (Nat.le_of_ble_eq_true rfl) ?_
                                                            exact w_L_law_J1112_18 hC h hL hX
                                                          · replace h := it_n c325 h
                                                            cases h
                                                        · replace h := it_n c46 h
                                                          by_cases c47 : (an_ (M v0 v3) 31) = 27
                                                          · replace h := it_p c47 h
                                                            refine aw_tsIn (tgt := 1017) (off := 984) hC dL_law_33 ⟨by omega, by omega, by rw [c47]; rfl⟩ (by decide) ?_
                                                            refine aw_aload_n (pc' := 1018) (i := 1) hC dL_law_1017 rfl rfl rfl ?_
                                                            refine aw_aload_n (pc' := 1019) (i := 0) hC dL_law_1018 rfl rfl rfl ?_
                                                            refine aw_iload_n (pc' := 1020) (i := 3) hC dL_law_1019 rfl rfl rfl ?_
                                                            refine aw_iconst (pc' := 1021) hC dL_law_1020 rfl (by decide) ?_
                                                            refine aw_iadd (pc' := 1022) hC dL_law_1021 rfl  ?_
                                                            obtain ⟨g326, h⟩ := gd_s h
                                                            refine aw_iaload (pc' := 1023) hC dL_law_1022 rfl g326 ?_
                                                            obtain ⟨g328, h⟩ := gd_s h
                                                            obtain ⟨⟨x329, M330⟩, q327, h⟩ := pb_s h
                                                            replace h := u2_s h
                                                            refine aw_cV (pc' := 1026) (k2 := 207) (n2 := 84208) (st := []) (stN := [.inl x329]) hC [.inl (M v0 (w32 (v3 + 1)))] (mX8_useless q327) lk_L_130 g328 dL_law_1023 rfl rfl (Nat.le_of_ble_eq_true rfl) (Nat.le_of_ble_eq_true rfl) (Nat.le_of_ble_eq_true rfl) rfl (Nat.le_of_ble_eq_true rfl) rfl rfl rfl ?_
                                                            refine aw_aload_n (pc' := 1027) (i := 2) hC dL_law_1026 rfl rfl rfl ?_
                                                            refine aw_aload_n (pc' := 1028) (i := 0) hC dL_law_1027 rfl rfl rfl ?_
                                                            refine aw_iload_n (pc' := 1029) (i := 3) hC dL_law_1028 rfl rfl rfl ?_
                                                            refine aw_iconst (pc' := 1030) hC dL_law_1029 rfl (by decide) ?_
                                                            refine aw_iadd (pc' := 1031) hC dL_law_1030 rfl  ?_
                                                            refine aw_iaload (pc' := 1032) hC dL_law_1031 rfl g326 ?_
                                                            obtain ⟨g332, h⟩ := gd_s h
                                                            obtain ⟨⟨x333, M334⟩, q331, h⟩ := pb_s h
                                                            replace h := u2_s h
                                                            refine aw_cV (pc' := 1035) (k2 := 207) (n2 := 84208) (st := [.inl x329]) (stN := [.inl x333, .inl x329]) hC [.inl (M330 v0 (w32 (v3 + 1)))] (mX9_useless q331) lk_L_133 g332 dL_law_1032 rfl rfl (Nat.le_of_ble_eq_true rfl) (Nat.le_of_ble_eq_true rfl) (Nat.le_of_ble_eq_true rfl) rfl (Nat.le_of_ble_eq_true rfl) rfl rfl rfl ?_
                                                            refine aw_icmp_eq (tgt := 1112) (pc' := 1038) hC dL_law_1035 (by decide) rfl (fun c335 => ?_) (fun c335 => ?_)
                                                            · replace h := it_p c335 h
                                                              refine aw_sub hC [some (.inr (.inr v0)), some (.inr (.inr v1)), some (.inr (.inr v2)), some (.inl v3)] ⟨rfl, ⟨rfl, ⟨rfl, ⟨rfl, trivial⟩⟩⟩⟩ (Nat.le_of_ble_eq_true rfl) ?_
                                                              exact w_L_law_J1112_18 hC h hL hX
                                                            · replace h := it_n c335 h
                                                              cases h
                                                          · replace h := it_n c47 h
                                                            by_cases c48 : (an_ (M v0 v3) 31) = 28
                                                            · replace h := it_p c48 h
                                                              refine aw_tsIn (tgt := 1040) (off := 1007) hC dL_law_33 ⟨by omega, by omega, by rw [c48]; rfl⟩ (by decide) ?_
                                                              refine aw_aload_n (pc' := 1041) (i := 1) hC dL_law_1040 rfl rfl rfl ?_
                                                              obtain ⟨g337, h⟩ := gd_s h
                                                              obtain ⟨⟨x338, M339⟩, q336, h⟩ := pb_s h
                                                              replace h := u2_s h
                                                              refine aw_cV (pc' := 1044) (k2 := 207) (n2 := 84208) (st := []) (stN := [.inl x338]) hC [] (mX8_image q336) lk_L_134 g337 dL_law_1041 rfl rfl (Nat.le_of_ble_eq_true rfl) (Nat.le_of_ble_eq_true rfl) (Nat.le_of_ble_eq_true rfl) rfl (Nat.le_of_ble_eq_true rfl) rfl rfl rfl ?_
                                                              refine aw_aload_n (pc' := 1045) (i := 2) hC dL_law_1044 rfl rfl rfl ?_
                                                              obtain ⟨g341, h⟩ := gd_s h
                                                              obtain ⟨⟨x342, M343⟩, q340, h⟩ := pb_s h
                                                              replace h := u2_s h
                                                              refine aw_cV (pc' := 1048) (k2 := 207) (n2 := 84208) (st := [.inl x338]) (stN := [.inl x342, .inl x338]) hC [] (mX9_image q340) lk_L_137 g341 dL_law_1045 rfl rfl (Nat.le_of_ble_eq_true rfl) (Nat.le_of_ble_eq_true rfl) (Nat.le_of_ble_eq_true rfl) rfl (Nat.le_of_ble_eq_true rfl) rfl rfl rfl ?_
                                                              refine aw_icmp_eq (tgt := 1112) (pc' := 1051) hC dL_law_1048 (by decide) rfl (fun c344 => ?_) (fun c344 => ?_)
                                                              · replace h := it_p c344 h
                                                                refine aw_sub hC [some (.inr (.inr v0)), some (.inr (.inr v1)), some (.inr (.inr v2)), some (.inl v3)] ⟨rfl, ⟨rfl, ⟨rfl, ⟨rfl, trivial⟩⟩⟩⟩ (Nat.le_of_ble_eq_true rfl) ?_
                                                                exact w_L_law_J1112_18 hC h hL hX
                                                              · replace h := it_n c344 h
                                                                cases h
                                                            · replace h := it_n c48 h
                                                              by_cases c49 : (an_ (M v0 v3) 31) = 29
                                                              · replace h := it_p c49 h
                                                                refine aw_tsIn (tgt := 1053) (off := 1020) hC dL_law_33 ⟨by omega, by omega, by rw [c49]; rfl⟩ (by decide) ?_
                                                                refine aw_aload_n (pc' := 1054) (i := 1) hC dL_law_1053 rfl rfl rfl ?_
                                                                refine aw_aload_n (pc' := 1055) (i := 0) hC dL_law_1054 rfl rfl rfl ?_
                                                                refine aw_iload_n (pc' := 1056) (i := 3) hC dL_law_1055 rfl rfl rfl ?_
                                                                refine aw_iconst (pc' := 1057) hC dL_law_1056 rfl (by decide) ?_
                                                                refine aw_iadd (pc' := 1058) hC dL_law_1057 rfl  ?_
                                                                obtain ⟨g345, h⟩ := gd_s h
                                                                refine aw_iaload (pc' := 1059) hC dL_law_1058 rfl g345 ?_
                                                                obtain ⟨g347, h⟩ := gd_s h
                                                                obtain ⟨x348, q346, h⟩ := pb_s h
                                                                replace h := u1_s h
                                                                refine aw_cV (pc' := 1062) (k2 := 207) (n2 := 84208) (st := []) (stN := [.inl x348]) hC [.inl (M v0 (w32 (v3 + 1)))] (mX8_octet q346) lk_L_138 g347 dL_law_1059 rfl rfl (Nat.le_of_ble_eq_true rfl) (Nat.le_of_ble_eq_true rfl) (Nat.le_of_ble_eq_true rfl) rfl (Nat.le_of_ble_eq_true rfl) rfl rfl rfl ?_
                                                                refine aw_aload_n (pc' := 1063) (i := 2) hC dL_law_1062 rfl rfl rfl ?_
                                                                refine aw_aload_n (pc' := 1064) (i := 0) hC dL_law_1063 rfl rfl rfl ?_
                                                                refine aw_iload_n (pc' := 1065) (i := 3) hC dL_law_1064 rfl rfl rfl ?_
                                                                refine aw_iconst (pc' := 1066) hC dL_law_1065 rfl (by decide) ?_
                                                                refine aw_iadd (pc' := 1067) hC dL_law_1066 rfl  ?_
                                                                refine aw_iaload (pc' := 1068) hC dL_law_1067 rfl g345 ?_
                                                                obtain ⟨g350, h⟩ := gd_s h
                                                                obtain ⟨x351, q349, h⟩ := pb_s h
                                                                replace h := u1_s h
                                                                refine aw_cV (pc' := 1071) (k2 := 207) (n2 := 84208) (st := [.inl x348]) (stN := [.inl x351, .inl x348]) hC [.inl (M v0 (w32 (v3 + 1)))] (mX9_octet q349) lk_L_141 g350 dL_law_1068 rfl rfl (Nat.le_of_ble_eq_true rfl) (Nat.le_of_ble_eq_true rfl) (Nat.le_of_ble_eq_true rfl) rfl (Nat.le_of_ble_eq_true rfl) rfl rfl rfl ?_
                                                                refine aw_icmp_eq (tgt := 1112) (pc' := 1074) hC dL_law_1071 (by decide) rfl (fun c352 => ?_) (fun c352 => ?_)
                                                                · replace h := it_p c352 h
                                                                  refine aw_sub hC [some (.inr (.inr v0)), some (.inr (.inr v1)), some (.inr (.inr v2)), some (.inl v3)] ⟨rfl, ⟨rfl, ⟨rfl, ⟨rfl, trivial⟩⟩⟩⟩ (Nat.le_of_ble_eq_true rfl) ?_
                                                                  exact w_L_law_J1112_18 hC h hL hX
                                                                · replace h := it_n c352 h
                                                                  cases h
                                                              · replace h := it_n c49 h
                                                                by_cases c50 : (an_ (M v0 v3) 31) = 30
                                                                · replace h := it_p c50 h
                                                                  refine aw_tsIn (tgt := 1076) (off := 1043) hC dL_law_33 ⟨by omega, by omega, by rw [c50]; rfl⟩ (by decide) ?_
                                                                  refine aw_aload_n (pc' := 1077) (i := 1) hC dL_law_1076 rfl rfl rfl ?_
                                                                  obtain ⟨g354, h⟩ := gd_s h
                                                                  obtain ⟨⟨x355, M356⟩, q353, h⟩ := pb_s h
                                                                  replace h := u2_s h
                                                                  refine aw_cV (pc' := 1080) (k2 := 207) (n2 := 84208) (st := []) (stN := [.inl x355]) hC [] (mX8_on q353) lk_L_142 g354 dL_law_1077 rfl rfl (Nat.le_of_ble_eq_true rfl) (Nat.le_of_ble_eq_true rfl) (Nat.le_of_ble_eq_true rfl) rfl (Nat.le_of_ble_eq_true rfl) rfl rfl rfl ?_
                                                                  refine aw_aload_n (pc' := 1081) (i := 2) hC dL_law_1080 rfl rfl rfl ?_
                                                                  obtain ⟨g358, h⟩ := gd_s h
                                                                  obtain ⟨⟨x359, M360⟩, q357, h⟩ := pb_s h
                                                                  replace h := u2_s h
                                                                  refine aw_cV (pc' := 1084) (k2 := 207) (n2 := 84208) (st := [.inl x355]) (stN := [.inl x359, .inl x355]) hC [] (mX9_on q357) lk_L_145 g358 dL_law_1081 rfl rfl (Nat.le_of_ble_eq_true rfl) (Nat.le_of_ble_eq_true rfl) (Nat.le_of_ble_eq_true rfl) rfl (Nat.le_of_ble_eq_true rfl) rfl rfl rfl ?_
                                                                  refine aw_icmp_eq (tgt := 1112) (pc' := 1087) hC dL_law_1084 (by decide) rfl (fun c361 => ?_) (fun c361 => ?_)
                                                                  · replace h := it_p c361 h
                                                                    refine aw_sub hC [some (.inr (.inr v0)), some (.inr (.inr v1)), some (.inr (.inr v2)), some (.inl v3)] ⟨rfl, ⟨rfl, ⟨rfl, ⟨rfl, trivial⟩⟩⟩⟩ (Nat.le_of_ble_eq_true rfl) ?_
                                                                    exact w_L_law_J1112_18 hC h hL hX
                                                                  · replace h := it_n c361 h
                                                                    cases h
                                                                · replace h := it_n c50 h
                                                                  by_cases c51 : (an_ (M v0 v3) 31) = 31
                                                                  · replace h := it_p c51 h
                                                                    refine aw_tsIn (tgt := 1089) (off := 1056) hC dL_law_33 ⟨by omega, by omega, by rw [c51]; rfl⟩ (by decide) ?_
                                                                    refine aw_aload_n (pc' := 1090) (i := 1) hC dL_law_1089 rfl rfl rfl ?_
                                                                    refine aw_aload_n (pc' := 1091) (i := 0) hC dL_law_1090 rfl rfl rfl ?_
                                                                    refine aw_iload_n (pc' := 1092) (i := 3) hC dL_law_1091 rfl rfl rfl ?_
                                                                    refine aw_iconst (pc' := 1093) hC dL_law_1092 rfl (by decide) ?_
                                                                    refine aw_iadd (pc' := 1094) hC dL_law_1093 rfl  ?_
                                                                    obtain ⟨g362, h⟩ := gd_s h
                                                                    refine aw_iaload (pc' := 1095) hC dL_law_1094 rfl g362 ?_
                                                                    obtain ⟨g364, h⟩ := gd_s h
                                                                    obtain ⟨x365, q363, h⟩ := pb_s h
                                                                    replace h := u1_s h
                                                                    refine aw_cV (pc' := 1098) (k2 := 207) (n2 := 84208) (st := []) (stN := [.inl x365]) hC [.inl (M v0 (w32 (v3 + 1)))] (mX8_status q363) lk_L_146 g364 dL_law_1095 rfl rfl (Nat.le_of_ble_eq_true rfl) (Nat.le_of_ble_eq_true rfl) (Nat.le_of_ble_eq_true rfl) rfl (Nat.le_of_ble_eq_true rfl) rfl rfl rfl ?_
                                                                    refine aw_aload_n (pc' := 1099) (i := 2) hC dL_law_1098 rfl rfl rfl ?_
                                                                    refine aw_aload_n (pc' := 1100) (i := 0) hC dL_law_1099 rfl rfl rfl ?_
                                                                    refine aw_iload_n (pc' := 1101) (i := 3) hC dL_law_1100 rfl rfl rfl ?_
                                                                    refine aw_iconst (pc' := 1102) hC dL_law_1101 rfl (by decide) ?_
                                                                    refine aw_iadd (pc' := 1103) hC dL_law_1102 rfl  ?_
                                                                    refine aw_iaload (pc' := 1104) hC dL_law_1103 rfl g362 ?_
                                                                    obtain ⟨g367, h⟩ := gd_s h
                                                                    obtain ⟨x368, q366, h⟩ := pb_s h
                                                                    replace h := u1_s h
                                                                    refine aw_cV (pc' := 1107) (k2 := 207) (n2 := 84208) (st := [.inl x365]) (stN := [.inl x368, .inl x365]) hC [.inl (M v0 (w32 (v3 + 1)))] (mX9_status q366) lk_L_149 g367 dL_law_1104 rfl rfl (Nat.le_of_ble_eq_true rfl) (Nat.le_of_ble_eq_true rfl) (Nat.le_of_ble_eq_true rfl) rfl (Nat.le_of_ble_eq_true rfl) rfl rfl rfl ?_
                                                                    refine aw_icmp_eq (tgt := 1112) (pc' := 1110) hC dL_law_1107 (by decide) rfl (fun c369 => ?_) (fun c369 => ?_)
                                                                    · replace h := it_p c369 h
                                                                      refine aw_sub hC [some (.inr (.inr v0)), some (.inr (.inr v1)), some (.inr (.inr v2)), some (.inl v3)] ⟨rfl, ⟨rfl, ⟨rfl, ⟨rfl, trivial⟩⟩⟩⟩ (Nat.le_of_ble_eq_true rfl) ?_
                                                                      exact w_L_law_J1112_18 hC h hL hX
                                                                    · replace h := it_n c369 h
                                                                      cases h
                                                                  · replace h := it_n c51 h
                                                                    refine aw_tsOut (tgt := 1112) hC dL_law_33 (by omega) (by decide) ?_
                                                                    refine aw_sub hC [some (.inr (.inr v0)), some (.inr (.inr v1)), some (.inr (.inr v2)), some (.inl v3)] ⟨rfl, ⟨rfl, ⟨rfl, ⟨rfl, trivial⟩⟩⟩⟩ (Nat.le_of_ble_eq_true rfl) ?_
                                                                    exact w_L_law_J1112_18 hC h hL hX
set_option maxRecDepth 100000 in
set_option maxHeartbeats 4000000 in
theorem mL_law {Γ : AwC} {nm : String} {xi : Int → Int} {L : Int} (hC : AOK Γ RL cL_law 4 167 600000 7302250 nm ret) (hR : Γ.1.2.2.2 = room_1) (hs1 : Γ.2.2.2.2.1 + 1 = Γ.2.1.1.heap.size) (harg : ∃ b : Nat, Γ.2.1.2.2.1 = #[Value.ref b]) (hxi : SC_ Γ xi L) {sh : AwS} {M : AwM} (h : fL_law xi L sh M = some 1) : AW Γ sh M 0 0 0 [some (.inr (.inr (-1))), none, none, none] [] (lw_Z Γ.2.1.2.2.2 Γ.2.1.2.2.1 Γ.2.1.1) := by
  unfold fL_law at h
  obtain ⟨p1, e2, h⟩ := bd_s h
  obtain ⟨sh3, e4, h⟩ := bd_s h
  refine aw_nw (pc' := 3) (k2 := 1) (n2 := 14) hC dL_law_0 rfl nw_L_7 rfl rfl (Nat.le_of_ble_eq_true rfl) (Nat.le_of_ble_eq_true rfl) e2 e4 ?_
  refine aw_dup (pc' := 4) hC dL_law_3 rfl rfl ?_
  obtain ⟨g6, h⟩ := gd_s h
  obtain ⟨⟨sh7, M8⟩, q5, h⟩ := pb_s h
  replace h := u2_s h
  refine aw_cI (pc' := 7) (k2 := 166) (n2 := 40249) (st := [.inr (.inr p1)]) (stN := [.inr (.inr p1)]) hC [] (mX8_init q5) lk_L_9 g6 dL_law_4 rfl rfl (Nat.le_of_ble_eq_true rfl) (Nat.le_of_ble_eq_true rfl) (Nat.le_of_ble_eq_true rfl) rfl (Nat.le_of_ble_eq_true rfl) rfl rfl rfl ?_
  refine aw_astore_n (pc' := 8) (i := 1) (ls' := [some (.inr (.inr (-1))), some (.inr (.inr p1)), none, none]) hC dL_law_7 rfl rfl (Nat.le_of_ble_eq_true rfl) rfl rfl ?_
  obtain ⟨p9, e10, h⟩ := bd_s h
  obtain ⟨sh11, e12, h⟩ := bd_s h
  refine aw_nw (pc' := 11) (k2 := 167) (n2 := 40320) hC dL_law_8 rfl nw_L_10 rfl rfl (Nat.le_of_ble_eq_true rfl) (Nat.le_of_ble_eq_true rfl) e10 e12 ?_
  refine aw_dup (pc' := 12) hC dL_law_11 rfl rfl ?_
  obtain ⟨g14, h⟩ := gd_s h
  obtain ⟨⟨sh15, M16⟩, q13, h⟩ := pb_s h
  replace h := u2_s h
  refine aw_cI (pc' := 15) (k2 := 207) (n2 := 84208) (st := [.inr (.inr p9)]) (stN := [.inr (.inr p9)]) hC [] (mX9_init q13) lk_L_12 g14 dL_law_12 rfl rfl (Nat.le_of_ble_eq_true rfl) (Nat.le_of_ble_eq_true rfl) (Nat.le_of_ble_eq_true rfl) rfl (Nat.le_of_ble_eq_true rfl) rfl rfl rfl ?_
  refine aw_astore_n (pc' := 16) (i := 2) (ls' := [some (.inr (.inr (-1))), some (.inr (.inr p1)), some (.inr (.inr p9)), none]) hC dL_law_15 rfl rfl (Nat.le_of_ble_eq_true rfl) rfl rfl ?_
  refine aw_iconst (pc' := 17) hC dL_law_16 rfl (by decide) ?_
  refine aw_istore_n (pc' := 18) (i := 3) (ls' := [some (.inr (.inr (-1))), some (.inr (.inr p1)), some (.inr (.inr p9)), some (.inl 0)]) hC dL_law_17 rfl rfl (Nat.le_of_ble_eq_true rfl) rfl rfl ?_
  obtain ⟨tq370, q370, h⟩ := pb_s h
  refine aw_sub hC [some (.inr (.inr (-1))), some (.inr (.inr p1)), some (.inr (.inr p9)), some (.inl 0)] ⟨rfl, ⟨rfl, ⟨rfl, ⟨rfl, trivial⟩⟩⟩⟩ (Nat.le_of_ble_eq_true rfl) ?_
  refine (lp_aw (p_L_law_L18 Γ xi L sh15 (-1) p1 p9 (lw_Z Γ.2.1.2.2.2 Γ.2.1.2.2.1 Γ.2.1.1)) (x_L_law_L18 Γ xi L sh15 (-1) p1 p9 (lw_Z Γ.2.1.2.2.2 Γ.2.1.2.2.1 Γ.2.1.1)) (w_L_law_L18 hC hxi) FU _ _ q370 ?_ : p_L_law_L18 Γ xi L sh15 (-1) p1 p9 (lw_Z Γ.2.1.2.2.2 Γ.2.1.2.2.1 Γ.2.1.1) (0, M16))
  replace h := u1_s h
  show AW Γ sh15 tq370 207 84208 1118 [none, none, none, none] [] _
  refine aw_iconst (pc' := 1119) hC dL_law_1118 rfl (by decide) ?_
  exact aw_lawret hC hR hs1 harg dL_law_1119 (by omega) (by omega)
