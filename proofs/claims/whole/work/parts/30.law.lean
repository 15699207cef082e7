/-! the law -/
def R_law : String := "CoinCircleLaw"
def lw_Q (_ : Array Value) (s : State) (o : Outcome) (t : State) : Prop := o = .returned (some (.int 1)) ∧ Framed s o t [] 600000 7302250
def lw_Z (below : List Frame) (a : Array Value) (s : State) : State → Prop := fun t => ∃ o, t.status = .running ∧ Ended t below o ∧ lw_Q a s o t
theorem lw_ret {p : Program} {l : Launch} {e : Env} {s : State} {m : MethodId} {below : List Frame} {meth : Method} {c : Code} {b : Nat} (hx : p.tables.exec = Jvm.exec) (hb : c.code = code) (hr : meth.sig.returnType = ret) (hlocks : meth.locks = false) {pc : Nat} {H : Heap} {ls : Array Slot} (hdg : decode code pc = .ok (.ireturn, 1)) : W p l e room_1 s m #[Value.ref b] below meth c H [] 600000 7302250 (lw_Z below #[Value.ref b] s) (F0 m pc ls [.int 1]) := by
  intro T hT X
  obtain ⟨fs, hret, hrun, hended, hW, hframe⟩ := X.leave (v := some (.int 1)) (hlocks := hlocks) (fun h => by rw [hr] at h; cases h)
  have hmeth' : T.vm.method? m = some meth := X.method'
  refine ⟨T.setFrames fs, ?_, .returned (some (.int 1)), hrun, hended, rfl, ⟨_, rfl⟩, hW, hframe⟩
  jvm_step X.here [X.here.top, hx, hb, hdg, hmeth', hr, ret, narrow_b1]
  (try refine ⟨rfl, ?_⟩); (try refine ⟨rfl, ?_⟩)
  first | (intro acts; rw [hret _ acts rfl rfl rfl]) | rw [hret _ _ rfl rfl rfl]
  exact Steps.refl _
section AWLAW
variable {Γ : AwC} {own nm : String} {cc : ByteArray} {nL d kc nc : Nat} {rt : Option FieldType} {sh : AwS} {M : AwM} {k n pc pc' : Nat} {ls : List (Option AwV)} {st : List AwV} {Q : State → Prop}
/-- the script, as numbers -/
def SC_ (Γ : AwC) (xi : Int → Int) (L : Int) : Prop := L = (Γ.2.2.2.2.2.2.1 : Int) ∧ L ≤ 3072 ∧ ∀ i : Int, 0 ≤ i → i < L → i32 (xi i) = Γ.2.2.2.2.2.2.2.1 i.toNat ∧ I32 (xi i)
theorem aw_sld {xi : Int → Int} {L : Int} (hC : AOK Γ own cc nL d kc nc nm rt) (hS0 : SC_ Γ xi L) {i : Int} (hg : 0 ≤ i ∧ i < L) (hd : decode cc pc = .ok (.iaload, 1)) (hp : pc + 1 = pc') (kk : AW Γ sh M k n pc' ls (.inl (xi i) :: st) Q) : AW Γ sh M k n pc ls (.inl i :: .inr (.inr (-1)) :: st) Q := by
  subst hp
  obtain ⟨⟨p, l, e, R⟩, ⟨s, m, args, below⟩, ⟨meth, c⟩, G⟩ := Γ
  intro H locs lsA hr hS hL hst
  obtain ⟨hi, h0⟩ := ok1 hst
  obtain ⟨-, hst⟩ := ok1 h0
  obtain ⟨hx, hb, hml, hown, hts, hlk, hret, hnm, hK, hN, hR, hX, hb1, hb2, hZ⟩ := hC
  obtain ⟨e1, e2, e3⟩ := hS0
  obtain ⟨f1, f2⟩ := e3 i hg.1 hg.2
  have K := kk H locs lsA hr hS hL (okc (show ok_ (.inl (xi i)) from f2) hst)
  dsimp only at *
  rw [List.map_cons, show cv_ G (.inl (xi i)) = .int (i32 (xi i)) from rfl, f1] at K
  rw [List.map_cons, List.map_cons, show cv_ G (.inr (.inr (-1))) = .ref G.2.2.1 from rfl]
  refine va_sld hx hb hX (by omega) (by unfold A_; omega) hS (i := i32 i) (i32_vin (n := G.2.2.2.1) hi hg.1 (by omega)) hd ?_
  rw [i32_cl hi]
  exact K
theorem aw_slen {xi : Int → Int} {L : Int} (hC : AOK Γ own cc nL d kc nc nm rt) (hS0 : SC_ Γ xi L) (hd : decode cc pc = .ok (.arraylength, 1)) (hp : pc + 1 = pc') (kk : AW Γ sh M k n pc' ls (.inl L :: st) Q) : AW Γ sh M k n pc ls (.inr (.inr (-1)) :: st) Q := by
  subst hp
  obtain ⟨⟨p, l, e, R⟩, ⟨s, m, args, below⟩, ⟨meth, c⟩, G⟩ := Γ
  intro H locs lsA hr hS hL hst
  obtain ⟨-, hst⟩ := ok1 hst
  obtain ⟨hx, hb, hml, hown, hts, hlk, hret, hnm, hK, hN, hR, hX, hb1, hb2, hZ⟩ := hC
  obtain ⟨e1, e2, e3⟩ := hS0
  have K := kk H locs lsA hr hS hL (okc (show ok_ (.inl L) from (by show I32 L; unfold I32; omega)) hst)
  dsimp only at *
  rw [List.map_cons, show cv_ G (.inl L) = .int (i32 L) from rfl, e1] at K
  rw [List.map_cons, show cv_ G (.inr (.inr (-1))) = .ref G.2.2.1 from rfl]
  exact va_slen hx hb hX (by omega) (by unfold A_; omega) hS hd K
theorem aw_lawret (hC : AOK Γ own code nL d kc nc nm ret) (hR : Γ.1.2.2.2 = room_1) (hs1 : Γ.2.2.2.2.1 + 1 = Γ.2.1.1.heap.size) (harg : ∃ b : Nat, Γ.2.1.2.2.1 = #[Value.ref b]) (hd : decode code pc = .ok (.ireturn, 1)) (hk : k ≤ 600000) (hn : n ≤ 7302250) : AW Γ sh M k n pc ls [.inl 1] (lw_Z Γ.2.1.2.2.2 Γ.2.1.2.2.1 Γ.2.1.1) := by
  obtain ⟨⟨p, l, e, R⟩, ⟨s, m, args, below⟩, ⟨meth, c⟩, G⟩ := Γ
  intro H locs lsA hr hS hL hst
  obtain ⟨hx, hb, hml, hown, hts, hlk, hret, hnm, hK, hN, -, hX, hb1, hb2, hZ⟩ := hC
  obtain ⟨b, hb'⟩ := harg
  dsimp only at *
  subst hR
  subst hb'
  refine va_forget (fun q hq => ?_) ?_
  · have := hS.2.2 q hq
    unfold A_ at this
    omega
  · refine W.widen hk hn ?_
    exact lw_ret hx hb hret hlk hd
end AWLAW
set_option maxRecDepth 100000 in
theorem nw_L_7 : NW_ RL 7 8 14 := ⟨_, rfl, rfl, gs_1 20 rfl rfl, gs_1 21 rfl rfl, gs_1 1 rfl rfl, by decide⟩
set_option maxRecDepth 100000 in
theorem lb_X8_init : LB_ yX8_init cX8_init 2 none 0 := ⟨gs_1 24 rfl rfl, gs_1 1 rfl rfl, ⟨by decide +kernel, by decide +kernel, by decide +kernel⟩, by decide⟩
set_option maxRecDepth 100000 in
theorem lk_L_9 : LI_ RL 9 yX8_init cX8_init 2 0 := ⟨lb_X8_init, gs_1 22 rfl rfl, gs_1 23 rfl rfl, rfl⟩
set_option maxRecDepth 100000 in
theorem nw_L_10 : NW_ RL 10 9 71 := ⟨_, rfl, rfl, gs_5 176 rfl rfl, gs_5 177 rfl rfl, gs_1 14 rfl rfl, by decide⟩
set_option maxRecDepth 100000 in
theorem lb_X9_init : LB_ yX9_init cX9_init 1 none 0 := ⟨gs_5 180 rfl rfl, gs_1 14 rfl rfl, ⟨by decide +kernel, by decide +kernel, by decide +kernel⟩, by decide⟩
set_option maxRecDepth 100000 in
theorem lk_L_12 : LI_ RL 12 yX9_init cX9_init 1 0 := ⟨lb_X9_init, gs_5 178 rfl rfl, gs_5 179 rfl rfl, rfl⟩
set_option maxRecDepth 100000 in
theorem lb_X8_feed : LB_ yX8_feed cX8_feed 6 (some .int) 5 := ⟨gs_2 157 rfl rfl, gs_1 1 rfl rfl, ⟨by decide +kernel, by decide +kernel, by decide +kernel⟩, by decide⟩
set_option maxRecDepth 100000 in
theorem lk_L_13 : LV_ RL 13 yX8_feed cX8_feed 6 (some .int) 5 8 := ⟨lb_X8_feed, gs_2 154 rfl rfl, gs_2 155 rfl rfl, gs_2 156 rfl rfl, _, rfl, rfl⟩
set_option maxRecDepth 100000 in
theorem lb_X9_feed : LB_ yX9_feed cX9_feed 6 (some .int) 5 := ⟨gs_6 160 rfl rfl, gs_1 14 rfl rfl, ⟨by decide +kernel, by decide +kernel, by decide +kernel⟩, by decide⟩
set_option maxRecDepth 100000 in
theorem lk_L_17 : LV_ RL 17 yX9_feed cX9_feed 6 (some .int) 5 9 := ⟨lb_X9_feed, gs_6 157 rfl rfl, gs_6 158 rfl rfl, gs_6 159 rfl rfl, _, rfl, rfl⟩
set_option maxRecDepth 100000 in
theorem lb_X8_end : LB_ yX8_end cX8_end 2 (some .boolean) 1 := ⟨gs_2 169 rfl rfl, gs_1 1 rfl rfl, ⟨by decide +kernel, by decide +kernel, by decide +kernel⟩, by decide⟩
set_option maxRecDepth 100000 in
theorem lk_L_18 : LV_ RL 18 yX8_end cX8_end 2 (some .boolean) 1 8 := ⟨lb_X8_end, gs_2 166 rfl rfl, gs_2 167 rfl rfl, gs_2 168 rfl rfl, _, rfl, rfl⟩
set_option maxRecDepth 100000 in
theorem lb_X9_end : LB_ yX9_end cX9_end 2 (some .boolean) 1 := ⟨gs_6 172 rfl rfl, gs_1 14 rfl rfl, ⟨by decide +kernel, by decide +kernel, by decide +kernel⟩, by decide⟩
set_option maxRecDepth 100000 in
theorem lk_L_22 : LV_ RL 22 yX9_end cX9_end 2 (some .boolean) 1 9 := ⟨lb_X9_end, gs_6 169 rfl rfl, gs_6 170 rfl rfl, gs_6 171 rfl rfl, _, rfl, rfl⟩
set_option maxRecDepth 100000 in
theorem lb_X8_society : LB_ yX8_society cX8_society 2 (some .int) 0 := ⟨gs_2 173 rfl rfl, gs_1 1 rfl rfl, ⟨by decide +kernel, by decide +kernel, by decide +kernel⟩, by decide⟩
set_option maxRecDepth 100000 in
theorem lk_L_23 : LV_ RL 23 yX8_society cX8_society 2 (some .int) 0 8 := ⟨lb_X8_society, gs_2 170 rfl rfl, gs_2 171 rfl rfl, gs_2 172 rfl rfl, _, rfl, rfl⟩
set_option maxRecDepth 100000 in
theorem lb_X9_society : LB_ yX9_society cX9_society 2 (some .int) 0 := ⟨gs_6 176 rfl rfl, gs_1 14 rfl rfl, ⟨by decide +kernel, by decide +kernel, by decide +kernel⟩, by decide⟩
set_option maxRecDepth 100000 in
theorem lk_L_27 : LV_ RL 27 yX9_society cX9_society 2 (some .int) 0 9 := ⟨lb_X9_society, gs_6 173 rfl rfl, gs_6 174 rfl rfl, gs_6 175 rfl rfl, _, rfl, rfl⟩
set_option maxRecDepth 100000 in
theorem lb_X8_fault : LB_ yX8_fault cX8_fault 2 (some .int) 1 := ⟨gs_3 226 rfl rfl, gs_1 1 rfl rfl, ⟨by decide +kernel, by decide +kernel, by decide +kernel⟩, by decide⟩
set_option maxRecDepth 100000 in
theorem lk_L_28 : LV_ RL 28 yX8_fault cX8_fault 2 (some .int) 1 8 := ⟨lb_X8_fault, gs_3 223 rfl rfl, gs_3 224 rfl rfl, gs_3 225 rfl rfl, _, rfl, rfl⟩
set_option maxRecDepth 100000 in
theorem lb_X9_fault : LB_ yX9_fault cX9_fault 2 (some .int) 1 := ⟨gs_7 117 rfl rfl, gs_1 14 rfl rfl, ⟨by decide +kernel, by decide +kernel, by decide +kernel⟩, by decide⟩
set_option maxRecDepth 100000 in
theorem lk_L_32 : LV_ RL 32 yX9_fault cX9_fault 2 (some .int) 1 9 := ⟨lb_X9_fault, gs_7 114 rfl rfl, gs_7 115 rfl rfl, gs_7 116 rfl rfl, _, rfl, rfl⟩
set_option maxRecDepth 100000 in
theorem lb_X8_has : LB_ yX8_has cX8_has 2 (some .int) 1 := ⟨gs_3 230 rfl rfl, gs_1 1 rfl rfl, ⟨by decide +kernel, by decide +kernel, by decide +kernel⟩, by decide⟩
set_option maxRecDepth 100000 in
theorem lk_L_33 : LV_ RL 33 yX8_has cX8_has 2 (some .int) 1 8 := ⟨lb_X8_has, gs_3 227 rfl rfl, gs_3 228 rfl rfl, gs_3 229 rfl rfl, _, rfl, rfl⟩
set_option maxRecDepth 100000 in
theorem lb_X9_has : LB_ yX9_has cX9_has 4 (some .int) 1 := ⟨gs_7 137 rfl rfl, gs_1 14 rfl rfl, ⟨by decide +kernel, by decide +kernel, by decide +kernel⟩, by decide⟩
set_option maxRecDepth 100000 in
theorem lk_L_36 : LV_ RL 36 yX9_has cX9_has 4 (some .int) 1 9 := ⟨lb_X9_has, gs_7 134 rfl rfl, gs_7 135 rfl rfl, gs_7 136 rfl rfl, _, rfl, rfl⟩
set_option maxRecDepth 100000 in
theorem lb_X8_letter : LB_ yX8_letter cX8_letter 4 (some .int) 3 := ⟨gs_4 33 rfl rfl, gs_1 1 rfl rfl, ⟨by decide +kernel, by decide +kernel, by decide +kernel⟩, by decide⟩
set_option maxRecDepth 100000 in
theorem lk_L_37 : LV_ RL 37 yX8_letter cX8_letter 4 (some .int) 3 8 := ⟨lb_X8_letter, gs_4 30 rfl rfl, gs_4 31 rfl rfl, gs_4 32 rfl rfl, _, rfl, rfl⟩
set_option maxRecDepth 100000 in
theorem lb_X9_letter : LB_ yX9_letter cX9_letter 9 (some .int) 3 := ⟨gs_7 160 rfl rfl, gs_1 14 rfl rfl, ⟨by decide +kernel, by decide +kernel, by decide +kernel⟩, by decide⟩
set_option maxRecDepth 100000 in
theorem lk_L_41 : LV_ RL 41 yX9_letter cX9_letter 9 (some .int) 3 9 := ⟨lb_X9_letter, gs_7 157 rfl rfl, gs_7 158 rfl rfl, gs_7 159 rfl rfl, _, rfl, rfl⟩
set_option maxRecDepth 100000 in
theorem lb_X8_person : LB_ yX8_person cX8_person 3 (some .int) 2 := ⟨gs_4 45 rfl rfl, gs_1 1 rfl rfl, ⟨by decide +kernel, by decide +kernel, by decide +kernel⟩, by decide⟩
set_option maxRecDepth 100000 in
theorem lk_L_42 : LV_ RL 42 yX8_person cX8_person 3 (some .int) 2 8 := ⟨lb_X8_person, gs_4 42 rfl rfl, gs_4 43 rfl rfl, gs_4 44 rfl rfl, _, rfl, rfl⟩
set_option maxRecDepth 100000 in
theorem lb_X9_person : LB_ yX9_person cX9_person 5 (some .int) 2 := ⟨gs_7 165 rfl rfl, gs_1 14 rfl rfl, ⟨by decide +kernel, by decide +kernel, by decide +kernel⟩, by decide⟩
set_option maxRecDepth 100000 in
theorem lk_L_46 : LV_ RL 46 yX9_person cX9_person 5 (some .int) 2 9 := ⟨lb_X9_person, gs_7 162 rfl rfl, gs_7 163 rfl rfl, gs_7 164 rfl rfl, _, rfl, rfl⟩
set_option maxRecDepth 100000 in
theorem lb_X8_coin : LB_ yX8_coin cX8_coin 3 (some .int) 2 := ⟨gs_4 68 rfl rfl, gs_1 1 rfl rfl, ⟨by decide +kernel, by decide +kernel, by decide +kernel⟩, by decide⟩
set_option maxRecDepth 100000 in
theorem lk_L_47 : LV_ RL 47 yX8_coin cX8_coin 3 (some .int) 2 8 := ⟨lb_X8_coin, gs_4 65 rfl rfl, gs_4 66 rfl rfl, gs_4 67 rfl rfl, _, rfl, rfl⟩
set_option maxRecDepth 100000 in
theorem lb_X9_coin : LB_ yX9_coin cX9_coin 3 (some .int) 2 := ⟨gs_7 185 rfl rfl, gs_1 14 rfl rfl, ⟨by decide +kernel, by decide +kernel, by decide +kernel⟩, by decide⟩
set_option maxRecDepth 100000 in
theorem lk_L_50 : LV_ RL 50 yX9_coin cX9_coin 3 (some .int) 2 9 := ⟨lb_X9_coin, gs_7 182 rfl rfl, gs_7 183 rfl rfl, gs_7 184 rfl rfl, _, rfl, rfl⟩
set_option maxRecDepth 100000 in
theorem lb_X8_met : LB_ yX8_met cX8_met 3 (some .int) 2 := ⟨gs_4 73 rfl rfl, gs_1 1 rfl rfl, ⟨by decide +kernel, by decide +kernel, by decide +kernel⟩, by decide⟩
set_option maxRecDepth 100000 in
theorem lk_L_51 : LV_ RL 51 yX8_met cX8_met 3 (some .int) 2 8 := ⟨lb_X8_met, gs_4 70 rfl rfl, gs_4 71 rfl rfl, gs_4 72 rfl rfl, _, rfl, rfl⟩
set_option maxRecDepth 100000 in
theorem lb_X9_met : LB_ yX9_met cX9_met 3 (some .int) 2 := ⟨gs_7 193 rfl rfl, gs_1 14 rfl rfl, ⟨by decide +kernel, by decide +kernel, by decide +kernel⟩, by decide⟩
set_option maxRecDepth 100000 in
theorem lk_L_54 : LV_ RL 54 yX9_met cX9_met 3 (some .int) 2 9 := ⟨lb_X9_met, gs_7 190 rfl rfl, gs_7 191 rfl rfl, gs_7 192 rfl rfl, _, rfl, rfl⟩
set_option maxRecDepth 100000 in
theorem lb_X8_may : LB_ yX8_may cX8_may 3 (some .int) 2 := ⟨gs_4 86 rfl rfl, gs_1 1 rfl rfl, ⟨by decide +kernel, by decide +kernel, by decide +kernel⟩, by decide⟩
set_option maxRecDepth 100000 in
theorem lk_L_55 : LV_ RL 55 yX8_may cX8_may 3 (some .int) 2 8 := ⟨lb_X8_may, gs_4 83 rfl rfl, gs_4 84 rfl rfl, gs_4 85 rfl rfl, _, rfl, rfl⟩
set_option maxRecDepth 100000 in
theorem lb_X9_may : LB_ yX9_may cX9_may 3 (some .int) 2 := ⟨gs_7 197 rfl rfl, gs_1 14 rfl rfl, ⟨by decide +kernel, by decide +kernel, by decide +kernel⟩, by decide⟩
set_option maxRecDepth 100000 in
theorem lk_L_58 : LV_ RL 58 yX9_may cX9_may 3 (some .int) 2 9 := ⟨lb_X9_may, gs_7 194 rfl rfl, gs_7 195 rfl rfl, gs_7 196 rfl rfl, _, rfl, rfl⟩
set_option maxRecDepth 100000 in
theorem lb_X8_goods : LB_ yX8_goods cX8_goods 4 (some .int) 3 := ⟨gs_4 134 rfl rfl, gs_1 1 rfl rfl, ⟨by decide +kernel, by decide +kernel, by decide +kernel⟩, by decide⟩
set_option maxRecDepth 100000 in
theorem lk_L_59 : LV_ RL 59 yX8_goods cX8_goods 4 (some .int) 3 8 := ⟨lb_X8_goods, gs_4 131 rfl rfl, gs_4 132 rfl rfl, gs_4 133 rfl rfl, _, rfl, rfl⟩
set_option maxRecDepth 100000 in
theorem lb_X9_goods : LB_ yX9_goods cX9_goods 4 (some .int) 3 := ⟨gs_7 232 rfl rfl, gs_1 14 rfl rfl, ⟨by decide +kernel, by decide +kernel, by decide +kernel⟩, by decide⟩
set_option maxRecDepth 100000 in
theorem lk_L_62 : LV_ RL 62 yX9_goods cX9_goods 4 (some .int) 3 9 := ⟨lb_X9_goods, gs_7 229 rfl rfl, gs_7 230 rfl rfl, gs_7 231 rfl rfl, _, rfl, rfl⟩
set_option maxRecDepth 100000 in
theorem lb_X8_spend : LB_ yX8_spend cX8_spend 3 (some .int) 2 := ⟨gs_4 145 rfl rfl, gs_1 1 rfl rfl, ⟨by decide +kernel, by decide +kernel, by decide +kernel⟩, by decide⟩
set_option maxRecDepth 100000 in
theorem lk_L_63 : LV_ RL 63 yX8_spend cX8_spend 3 (some .int) 2 8 := ⟨lb_X8_spend, gs_4 142 rfl rfl, gs_4 143 rfl rfl, gs_4 144 rfl rfl, _, rfl, rfl⟩
set_option maxRecDepth 100000 in
theorem lb_X9_spend : LB_ yX9_spend cX9_spend 3 (some .int) 2 := ⟨gs_8 5 rfl rfl, gs_1 14 rfl rfl, ⟨by decide +kernel, by decide +kernel, by decide +kernel⟩, by decide⟩
set_option maxRecDepth 100000 in
theorem lk_L_66 : LV_ RL 66 yX9_spend cX9_spend 3 (some .int) 2 9 := ⟨lb_X9_spend, gs_8 2 rfl rfl, gs_8 3 rfl rfl, gs_8 4 rfl rfl, _, rfl, rfl⟩
set_option maxRecDepth 100000 in
theorem lb_X8_present : LB_ yX8_present cX8_present 3 (some .int) 2 := ⟨gs_4 158 rfl rfl, gs_1 1 rfl rfl, ⟨by decide +kernel, by decide +kernel, by decide +kernel⟩, by decide⟩
set_option maxRecDepth 100000 in
theorem lk_L_67 : LV_ RL 67 yX8_present cX8_present 3 (some .int) 2 8 := ⟨lb_X8_present, gs_4 155 rfl rfl, gs_4 156 rfl rfl, gs_4 157 rfl rfl, _, rfl, rfl⟩
set_option maxRecDepth 100000 in
theorem lb_X9_present : LB_ yX9_present cX9_present 3 (some .int) 2 := ⟨gs_8 13 rfl rfl, gs_1 14 rfl rfl, ⟨by decide +kernel, by decide +kernel, by decide +kernel⟩, by decide⟩
set_option maxRecDepth 100000 in
theorem lk_L_70 : LV_ RL 70 yX9_present cX9_present 3 (some .int) 2 9 := ⟨lb_X9_present, gs_8 10 rfl rfl, gs_8 11 rfl rfl, gs_8 12 rfl rfl, _, rfl, rfl⟩
set_option maxRecDepth 100000 in
theorem lb_X8_pay : LB_ yX8_pay cX8_pay 3 (some .boolean) 2 := ⟨gs_4 183 rfl rfl, gs_1 1 rfl rfl, ⟨by decide +kernel, by decide +kernel, by decide +kernel⟩, by decide⟩
set_option maxRecDepth 100000 in
theorem lk_L_71 : LV_ RL 71 yX8_pay cX8_pay 3 (some .boolean) 2 8 := ⟨lb_X8_pay, gs_4 180 rfl rfl, gs_4 181 rfl rfl, gs_4 182 rfl rfl, _, rfl, rfl⟩
set_option maxRecDepth 100000 in
theorem lb_X9_pay : LB_ yX9_pay cX9_pay 3 (some .boolean) 2 := ⟨gs_8 33 rfl rfl, gs_1 14 rfl rfl, ⟨by decide +kernel, by decide +kernel, by decide +kernel⟩, by decide⟩
set_option maxRecDepth 100000 in
theorem lk_L_75 : LV_ RL 75 yX9_pay cX9_pay 3 (some .boolean) 2 9 := ⟨lb_X9_pay, gs_8 30 rfl rfl, gs_8 31 rfl rfl, gs_8 32 rfl rfl, _, rfl, rfl⟩
set_option maxRecDepth 100000 in
theorem lb_X8_buy : LB_ yX8_buy cX8_buy 5 (some .int) 3 := ⟨gs_4 191 rfl rfl, gs_1 1 rfl rfl, ⟨by decide +kernel, by decide +kernel, by decide +kernel⟩, by decide⟩
set_option maxRecDepth 100000 in
theorem lk_L_76 : LV_ RL 76 yX8_buy cX8_buy 5 (some .int) 3 8 := ⟨lb_X8_buy, gs_4 188 rfl rfl, gs_4 189 rfl rfl, gs_4 190 rfl rfl, _, rfl, rfl⟩
set_option maxRecDepth 100000 in
theorem lb_X9_buy : LB_ yX9_buy cX9_buy 8 (some .int) 3 := ⟨gs_8 41 rfl rfl, gs_1 14 rfl rfl, ⟨by decide +kernel, by decide +kernel, by decide +kernel⟩, by decide⟩
set_option maxRecDepth 100000 in
theorem lk_L_79 : LV_ RL 79 yX9_buy cX9_buy 8 (some .int) 3 9 := ⟨lb_X9_buy, gs_8 38 rfl rfl, gs_8 39 rfl rfl, gs_8 40 rfl rfl, _, rfl, rfl⟩
set_option maxRecDepth 100000 in
theorem lb_X8_tea : LB_ yX8_tea cX8_tea 3 (some .int) 1 := ⟨gs_4 211 rfl rfl, gs_1 1 rfl rfl, ⟨by decide +kernel, by decide +kernel, by decide +kernel⟩, by decide⟩
set_option maxRecDepth 100000 in
theorem lk_L_80 : LV_ RL 80 yX8_tea cX8_tea 3 (some .int) 1 8 := ⟨lb_X8_tea, gs_4 208 rfl rfl, gs_4 209 rfl rfl, gs_4 210 rfl rfl, _, rfl, rfl⟩
set_option maxRecDepth 100000 in
theorem lb_X9_tea : LB_ yX9_tea cX9_tea 2 (some .int) 1 := ⟨gs_8 49 rfl rfl, gs_1 14 rfl rfl, ⟨by decide +kernel, by decide +kernel, by decide +kernel⟩, by decide⟩
set_option maxRecDepth 100000 in
theorem lk_L_83 : LV_ RL 83 yX9_tea cX9_tea 2 (some .int) 1 9 := ⟨lb_X9_tea, gs_8 46 rfl rfl, gs_8 47 rfl rfl, gs_8 48 rfl rfl, _, rfl, rfl⟩
set_option maxRecDepth 100000 in
theorem lb_X8_days : LB_ yX8_days cX8_days 2 (some .int) 1 := ⟨gs_4 221 rfl rfl, gs_1 1 rfl rfl, ⟨by decide +kernel, by decide +kernel, by decide +kernel⟩, by decide⟩
set_option maxRecDepth 100000 in
theorem lk_L_84 : LV_ RL 84 yX8_days cX8_days 2 (some .int) 1 8 := ⟨lb_X8_days, gs_4 218 rfl rfl, gs_4 219 rfl rfl, gs_4 220 rfl rfl, _, rfl, rfl⟩
set_option maxRecDepth 100000 in
theorem lb_X9_days : LB_ yX9_days cX9_days 4 (some .int) 1 := ⟨gs_8 57 rfl rfl, gs_1 14 rfl rfl, ⟨by decide +kernel, by decide +kernel, by decide +kernel⟩, by decide⟩
set_option maxRecDepth 100000 in
theorem lk_L_87 : LV_ RL 87 yX9_days cX9_days 4 (some .int) 1 9 := ⟨lb_X9_days, gs_8 54 rfl rfl, gs_8 55 rfl rfl, gs_8 56 rfl rfl, _, rfl, rfl⟩
set_option maxRecDepth 100000 in
theorem lb_X8_calls : LB_ yX8_calls cX8_calls 4 (some .int) 1 := ⟨gs_4 234 rfl rfl, gs_1 1 rfl rfl, ⟨by decide +kernel, by decide +kernel, by decide +kernel⟩, by decide⟩
set_option maxRecDepth 100000 in
theorem lk_L_88 : LV_ RL 88 yX8_calls cX8_calls 4 (some .int) 1 8 := ⟨lb_X8_calls, gs_4 231 rfl rfl, gs_4 232 rfl rfl, gs_4 233 rfl rfl, _, rfl, rfl⟩
set_option maxRecDepth 100000 in
theorem lb_X9_calls : LB_ yX9_calls cX9_calls 6 (some .int) 1 := ⟨gs_8 65 rfl rfl, gs_1 14 rfl rfl, ⟨by decide +kernel, by decide +kernel, by decide +kernel⟩, by decide⟩
set_option maxRecDepth 100000 in
theorem lk_L_91 : LV_ RL 91 yX9_calls cX9_calls 6 (some .int) 1 9 := ⟨lb_X9_calls, gs_8 62 rfl rfl, gs_8 63 rfl rfl, gs_8 64 rfl rfl, _, rfl, rfl⟩
set_option maxRecDepth 100000 in
theorem lb_X8_undo : LB_ yX8_undo cX8_undo 1 (some .boolean) 0 := ⟨gs_5 9 rfl rfl, gs_1 1 rfl rfl, ⟨by decide +kernel, by decide +kernel, by decide +kernel⟩, by decide⟩
set_option maxRecDepth 100000 in
theorem lk_L_92 : LV_ RL 92 yX8_undo cX8_undo 1 (some .boolean) 0 8 := ⟨lb_X8_undo, gs_5 6 rfl rfl, gs_5 7 rfl rfl, gs_5 8 rfl rfl, _, rfl, rfl⟩
set_option maxRecDepth 100000 in
theorem lb_X9_undo : LB_ yX9_undo cX9_undo 1 (some .boolean) 0 := ⟨gs_7 125 rfl rfl, gs_1 14 rfl rfl, ⟨by decide +kernel, by decide +kernel, by decide +kernel⟩, by decide⟩
set_option maxRecDepth 100000 in
theorem lk_L_96 : LV_ RL 96 yX9_undo cX9_undo 1 (some .boolean) 0 9 := ⟨lb_X9_undo, gs_7 122 rfl rfl, gs_7 123 rfl rfl, gs_7 124 rfl rfl, _, rfl, rfl⟩
set_option maxRecDepth 100000 in
theorem lb_X8_seed : LB_ yX8_seed cX8_seed 2 (some .boolean) 1 := ⟨gs_5 17 rfl rfl, gs_1 1 rfl rfl, ⟨by decide +kernel, by decide +kernel, by decide +kernel⟩, by decide⟩
set_option maxRecDepth 100000 in
theorem lk_L_97 : LV_ RL 97 yX8_seed cX8_seed 2 (some .boolean) 1 8 := ⟨lb_X8_seed, gs_5 14 rfl rfl, gs_5 15 rfl rfl, gs_5 16 rfl rfl, _, rfl, rfl⟩
set_option maxRecDepth 100000 in
theorem lb_X9_seed : LB_ yX9_seed cX9_seed 2 (some .boolean) 1 := ⟨gs_8 77 rfl rfl, gs_1 14 rfl rfl, ⟨by decide +kernel, by decide +kernel, by decide +kernel⟩, by decide⟩
set_option maxRecDepth 100000 in
theorem lk_L_100 : LV_ RL 100 yX9_seed cX9_seed 2 (some .boolean) 1 9 := ⟨lb_X9_seed, gs_8 74 rfl rfl, gs_8 75 rfl rfl, gs_8 76 rfl rfl, _, rfl, rfl⟩
set_option maxRecDepth 100000 in
theorem lb_X8_introduce : LB_ yX8_introduce cX8_introduce 6 (some .int) 4 := ⟨gs_5 21 rfl rfl, gs_1 1 rfl rfl, ⟨by decide +kernel, by decide +kernel, by decide +kernel⟩, by decide⟩
set_option maxRecDepth 100000 in
theorem lk_L_101 : LV_ RL 101 yX8_introduce cX8_introduce 6 (some .int) 4 8 := ⟨lb_X8_introduce, gs_5 18 rfl rfl, gs_5 19 rfl rfl, gs_5 20 rfl rfl, _, rfl, rfl⟩
set_option maxRecDepth 100000 in
theorem lb_X9_introduce : LB_ yX9_introduce cX9_introduce 11 (some .int) 4 := ⟨gs_8 81 rfl rfl, gs_1 14 rfl rfl, ⟨by decide +kernel, by decide +kernel, by decide +kernel⟩, by decide⟩
set_option maxRecDepth 100000 in
theorem lk_L_105 : LV_ RL 105 yX9_introduce cX9_introduce 11 (some .int) 4 9 := ⟨lb_X9_introduce, gs_8 78 rfl rfl, gs_8 79 rfl rfl, gs_8 80 rfl rfl, _, rfl, rfl⟩
set_option maxRecDepth 100000 in
theorem lb_X8_comes : LB_ yX8_comes cX8_comes 5 (some .int) 3 := ⟨gs_5 34 rfl rfl, gs_1 1 rfl rfl, ⟨by decide +kernel, by decide +kernel, by decide +kernel⟩, by decide⟩
set_option maxRecDepth 100000 in
theorem lk_L_106 : LV_ RL 106 yX8_comes cX8_comes 5 (some .int) 3 8 := ⟨lb_X8_comes, gs_5 31 rfl rfl, gs_5 32 rfl rfl, gs_5 33 rfl rfl, _, rfl, rfl⟩
set_option maxRecDepth 100000 in
theorem lb_X9_comes : LB_ yX9_comes cX9_comes 8 (some .int) 3 := ⟨gs_8 85 rfl rfl, gs_1 14 rfl rfl, ⟨by decide +kernel, by decide +kernel, by decide +kernel⟩, by decide⟩
set_option maxRecDepth 100000 in
theorem lk_L_109 : LV_ RL 109 yX9_comes cX9_comes 8 (some .int) 3 9 := ⟨lb_X9_comes, gs_8 82 rfl rfl, gs_8 83 rfl rfl, gs_8 84 rfl rfl, _, rfl, rfl⟩
set_option maxRecDepth 100000 in
theorem lb_X8_best : LB_ yX8_best cX8_best 8 (some .int) 2 := ⟨gs_5 81 rfl rfl, gs_1 1 rfl rfl, ⟨by decide +kernel, by decide +kernel, by decide +kernel⟩, by decide⟩
set_option maxRecDepth 100000 in
theorem lk_L_110 : LV_ RL 110 yX8_best cX8_best 8 (some .int) 2 8 := ⟨lb_X8_best, gs_5 78 rfl rfl, gs_5 79 rfl rfl, gs_5 80 rfl rfl, _, rfl, rfl⟩
set_option maxRecDepth 100000 in
theorem lb_X9_best : LB_ yX9_best cX9_best 6 (some .int) 2 := ⟨gs_8 102 rfl rfl, gs_1 14 rfl rfl, ⟨by decide +kernel, by decide +kernel, by decide +kernel⟩, by decide⟩
set_option maxRecDepth 100000 in
theorem lk_L_113 : LV_ RL 113 yX9_best cX9_best 6 (some .int) 2 9 := ⟨lb_X9_best, gs_8 99 rfl rfl, gs_8 100 rfl rfl, gs_8 101 rfl rfl, _, rfl, rfl⟩
set_option maxRecDepth 100000 in
theorem lb_X8_letters : LB_ yX8_letters cX8_letters 4 (some .int) 0 := ⟨gs_5 86 rfl rfl, gs_1 1 rfl rfl, ⟨by decide +kernel, by decide +kernel, by decide +kernel⟩, by decide⟩
set_option maxRecDepth 100000 in
theorem lk_L_114 : LV_ RL 114 yX8_letters cX8_letters 4 (some .int) 0 8 := ⟨lb_X8_letters, gs_5 83 rfl rfl, gs_5 84 rfl rfl, gs_5 85 rfl rfl, _, rfl, rfl⟩
set_option maxRecDepth 100000 in
theorem lb_X9_letters : LB_ yX9_letters cX9_letters 7 (some .int) 0 := ⟨gs_8 106 rfl rfl, gs_1 14 rfl rfl, ⟨by decide +kernel, by decide +kernel, by decide +kernel⟩, by decide⟩
set_option maxRecDepth 100000 in
theorem lk_L_117 : LV_ RL 117 yX9_letters cX9_letters 7 (some .int) 0 9 := ⟨lb_X9_letters, gs_8 103 rfl rfl, gs_8 104 rfl rfl, gs_8 105 rfl rfl, _, rfl, rfl⟩
set_option maxRecDepth 100000 in
theorem lb_X8_letterIs : LB_ yX8_letterIs cX8_letterIs 2 (some .int) 1 := ⟨gs_5 102 rfl rfl, gs_1 1 rfl rfl, ⟨by decide +kernel, by decide +kernel, by decide +kernel⟩, by decide⟩
set_option maxRecDepth 100000 in
theorem lk_L_118 : LV_ RL 118 yX8_letterIs cX8_letterIs 2 (some .int) 1 8 := ⟨lb_X8_letterIs, gs_5 99 rfl rfl, gs_5 100 rfl rfl, gs_5 101 rfl rfl, _, rfl, rfl⟩
set_option maxRecDepth 100000 in
theorem lb_X9_letterIs : LB_ yX9_letterIs cX9_letterIs 2 (some .int) 1 := ⟨gs_8 110 rfl rfl, gs_1 14 rfl rfl, ⟨by decide +kernel, by decide +kernel, by decide +kernel⟩, by decide⟩
set_option maxRecDepth 100000 in
theorem lk_L_121 : LV_ RL 121 yX9_letterIs cX9_letterIs 2 (some .int) 1 9 := ⟨lb_X9_letterIs, gs_8 107 rfl rfl, gs_8 108 rfl rfl, gs_8 109 rfl rfl, _, rfl, rfl⟩
set_option maxRecDepth 100000 in
theorem lb_X8_fair : LB_ yX8_fair cX8_fair 5 (some .int) 2 := ⟨gs_5 106 rfl rfl, gs_1 1 rfl rfl, ⟨by decide +kernel, by decide +kernel, by decide +kernel⟩, by decide⟩
set_option maxRecDepth 100000 in
theorem lk_L_122 : LV_ RL 122 yX8_fair cX8_fair 5 (some .int) 2 8 := ⟨lb_X8_fair, gs_5 103 rfl rfl, gs_5 104 rfl rfl, gs_5 105 rfl rfl, _, rfl, rfl⟩
set_option maxRecDepth 100000 in
theorem lb_X9_fair : LB_ yX9_fair cX9_fair 8 (some .int) 2 := ⟨gs_8 114 rfl rfl, gs_1 14 rfl rfl, ⟨by decide +kernel, by decide +kernel, by decide +kernel⟩, by decide⟩
set_option maxRecDepth 100000 in
theorem lk_L_125 : LV_ RL 125 yX9_fair cX9_fair 8 (some .int) 2 9 := ⟨lb_X9_fair, gs_8 111 rfl rfl, gs_8 112 rfl rfl, gs_8 113 rfl rfl, _, rfl, rfl⟩
set_option maxRecDepth 100000 in
theorem lb_X8_later : LB_ yX8_later cX8_later 3 (some .int) 2 := ⟨gs_5 122 rfl rfl, gs_1 1 rfl rfl, ⟨by decide +kernel, by decide +kernel, by decide +kernel⟩, by decide⟩
set_option maxRecDepth 100000 in
theorem lk_L_126 : LV_ RL 126 yX8_later cX8_later 3 (some .int) 2 8 := ⟨lb_X8_later, gs_5 119 rfl rfl, gs_5 120 rfl rfl, gs_5 121 rfl rfl, _, rfl, rfl⟩
set_option maxRecDepth 100000 in
theorem lb_X9_later : LB_ yX9_later cX9_later 4 (some .int) 2 := ⟨gs_8 118 rfl rfl, gs_1 14 rfl rfl, ⟨by decide +kernel, by decide +kernel, by decide +kernel⟩, by decide⟩
set_option maxRecDepth 100000 in
theorem lk_L_129 : LV_ RL 129 yX9_later cX9_later 4 (some .int) 2 9 := ⟨lb_X9_later, gs_8 115 rfl rfl, gs_8 116 rfl rfl, gs_8 117 rfl rfl, _, rfl, rfl⟩
set_option maxRecDepth 100000 in
theorem lb_X8_useless : LB_ yX8_useless cX8_useless 4 (some .int) 1 := ⟨gs_5 126 rfl rfl, gs_1 1 rfl rfl, ⟨by decide +kernel, by decide +kernel, by decide +kernel⟩, by decide⟩
set_option maxRecDepth 100000 in
theorem lk_L_130 : LV_ RL 130 yX8_useless cX8_useless 4 (some .int) 1 8 := ⟨lb_X8_useless, gs_5 123 rfl rfl, gs_5 124 rfl rfl, gs_5 125 rfl rfl, _, rfl, rfl⟩
set_option maxRecDepth 100000 in
theorem lb_X9_useless : LB_ yX9_useless cX9_useless 4 (some .int) 1 := ⟨gs_8 126 rfl rfl, gs_1 14 rfl rfl, ⟨by decide +kernel, by decide +kernel, by decide +kernel⟩, by decide⟩
set_option maxRecDepth 100000 in
theorem lk_L_133 : LV_ RL 133 yX9_useless cX9_useless 4 (some .int) 1 9 := ⟨lb_X9_useless, gs_8 123 rfl rfl, gs_8 124 rfl rfl, gs_8 125 rfl rfl, _, rfl, rfl⟩
set_option maxRecDepth 100000 in
theorem lb_X8_image : LB_ yX8_image cX8_image 4 (some .int) 0 := ⟨gs_5 134 rfl rfl, gs_1 1 rfl rfl, ⟨by decide +kernel, by decide +kernel, by decide +kernel⟩, by decide⟩
set_option maxRecDepth 100000 in
theorem lk_L_134 : LV_ RL 134 yX8_image cX8_image 4 (some .int) 0 8 := ⟨lb_X8_image, gs_5 131 rfl rfl, gs_5 132 rfl rfl, gs_5 133 rfl rfl, _, rfl, rfl⟩
set_option maxRecDepth 100000 in
theorem lb_X9_image : LB_ yX9_image cX9_image 3 (some .int) 0 := ⟨gs_8 130 rfl rfl, gs_1 14 rfl rfl, ⟨by decide +kernel, by decide +kernel, by decide +kernel⟩, by decide⟩
set_option maxRecDepth 100000 in
theorem lk_L_137 : LV_ RL 137 yX9_image cX9_image 3 (some .int) 0 9 := ⟨lb_X9_image, gs_8 127 rfl rfl, gs_8 128 rfl rfl, gs_8 129 rfl rfl, _, rfl, rfl⟩
set_option maxRecDepth 100000 in
theorem lb_X8_octet : LB_ yX8_octet cX8_octet 2 (some .int) 1 := ⟨gs_5 146 rfl rfl, gs_1 1 rfl rfl, ⟨by decide +kernel, by decide +kernel, by decide +kernel⟩, by decide⟩
set_option maxRecDepth 100000 in
theorem lk_L_138 : LV_ RL 138 yX8_octet cX8_octet 2 (some .int) 1 8 := ⟨lb_X8_octet, gs_5 143 rfl rfl, gs_5 144 rfl rfl, gs_5 145 rfl rfl, _, rfl, rfl⟩
set_option maxRecDepth 100000 in
theorem lb_X9_octet : LB_ yX9_octet cX9_octet 2 (some .int) 1 := ⟨gs_8 142 rfl rfl, gs_1 14 rfl rfl, ⟨by decide +kernel, by decide +kernel, by decide +kernel⟩, by decide⟩
set_option maxRecDepth 100000 in
theorem lk_L_141 : LV_ RL 141 yX9_octet cX9_octet 2 (some .int) 1 9 := ⟨lb_X9_octet, gs_8 139 rfl rfl, gs_8 140 rfl rfl, gs_8 141 rfl rfl, _, rfl, rfl⟩
set_option maxRecDepth 100000 in
theorem lb_X8_on : LB_ yX8_on cX8_on 6 (some .boolean) 0 := ⟨gs_5 150 rfl rfl, gs_1 1 rfl rfl, ⟨by decide +kernel, by decide +kernel, by decide +kernel⟩, by decide⟩
set_option maxRecDepth 100000 in
theorem lk_L_142 : LV_ RL 142 yX8_on cX8_on 6 (some .boolean) 0 8 := ⟨lb_X8_on, gs_5 147 rfl rfl, gs_5 148 rfl rfl, gs_5 149 rfl rfl, _, rfl, rfl⟩
set_option maxRecDepth 100000 in
theorem lb_X9_on : LB_ yX9_on cX9_on 2 (some .boolean) 0 := ⟨gs_8 146 rfl rfl, gs_1 14 rfl rfl, ⟨by decide +kernel, by decide +kernel, by decide +kernel⟩, by decide⟩
set_option maxRecDepth 100000 in
theorem lk_L_145 : LV_ RL 145 yX9_on cX9_on 2 (some .boolean) 0 9 := ⟨lb_X9_on, gs_8 143 rfl rfl, gs_8 144 rfl rfl, gs_8 145 rfl rfl, _, rfl, rfl⟩
set_option maxRecDepth 100000 in
theorem lb_X8_status : LB_ yX8_status cX8_status 2 (some .int) 1 := ⟨gs_5 175 rfl rfl, gs_1 1 rfl rfl, ⟨by decide +kernel, by decide +kernel, by decide +kernel⟩, by decide⟩
set_option maxRecDepth 100000 in
theorem lk_L_146 : LV_ RL 146 yX8_status cX8_status 2 (some .int) 1 8 := ⟨lb_X8_status, gs_5 172 rfl rfl, gs_5 173 rfl rfl, gs_5 174 rfl rfl, _, rfl, rfl⟩
set_option maxRecDepth 100000 in
theorem lb_X9_status : LB_ yX9_status cX9_status 2 (some .int) 1 := ⟨gs_7 121 rfl rfl, gs_1 14 rfl rfl, ⟨by decide +kernel, by decide +kernel, by decide +kernel⟩, by decide⟩
set_option maxRecDepth 100000 in
theorem lk_L_149 : LV_ RL 149 yX9_status cX9_status 2 (some .int) 1 9 := ⟨lb_X9_status, gs_7 118 rfl rfl, gs_7 119 rfl rfl, gs_7 120 rfl rfl, _, rfl, rfl⟩
set_option maxRecDepth 100000 in
set_option maxHeartbeats 4000000 in
def fL_law_J1112_18 (sh : AwS) (M : AwM) (v0 : Int) (v1 : Int) (v2 : Int) (v3 : Int) : Option ((Int × AwM) ⊕ (AwM)) :=
  some (.inl ((w32 (v3 + 6)), M))
set_option maxRecDepth 100000 in
set_option maxHeartbeats 4000000 in
def fL_law_L18 (xi : Int → Int) (L : Int) (sh : AwS) (v0 : Int) (v1 : Int) (v2 : Int) (v3 : Int) (M : AwM) : Option ((Int × AwM) ⊕ (AwM)) :=
  (if (w32 (L - 6)) < v3 then some (.inr M) else gd_ ((0 : Int) ≤ v3 ∧ v3 < L) ((if (an_ (xi v3) 31) = 0 then gd_ ((0 : Int) ≤ (w32 (v3 + 1)) ∧ (w32 (v3 + 1)) < L) (gd_ ((0 : Int) ≤ (w32 (v3 + 2)) ∧ (w32 (v3 + 2)) < L) (gd_ ((0 : Int) ≤ (w32 (v3 + 3)) ∧ (w32 (v3 + 3)) < L) (gd_ ((0 : Int) ≤ (w32 (v3 + 4)) ∧ (w32 (v3 + 4)) < L) (gd_ ((0 : Int) ≤ (w32 (v3 + 5)) ∧ (w32 (v3 + 5)) < L) (gd_ (kd_ sh v1 = (0, 8)) (pb (fX8_feed sh M v1 (xi (w32 (v3 + 1))) (xi (w32 (v3 + 2))) (xi (w32 (v3 + 3))) (xi (w32 (v3 + 4))) (xi (w32 (v3 + 5)))) <| u2 fun (x58 : Int) (M59 : AwM) => (gd_ (kd_ sh v2 = (0, 9)) (pb (fX9_feed sh M59 v2 (xi (w32 (v3 + 1))) (xi (w32 (v3 + 2))) (xi (w32 (v3 + 3))) (xi (w32 (v3 + 4))) (xi (w32 (v3 + 5)))) <| u2 fun (x62 : Int) (M63 : AwM) => ((if x58 = x62 then fL_law_J1112_18 sh M63 (-1) v1 v2 v3 else none)))))))))) else (if (an_ (xi v3) 31) = 1 then gd_ ((0 : Int) ≤ (w32 (v3 + 1)) ∧ (w32 (v3 + 1)) < L) (gd_ (kd_ sh v1 = (0, 8)) (pb (fX8_end sh M v1 (xi (w32 (v3 + 1)))) <| u2 fun (x68 : Int) (M69 : AwM) => (gd_ (kd_ sh v2 = (0, 9)) (pb (fX9_end sh M69 v2 (xi (w32 (v3 + 1)))) <| u2 fun (x72 : Int) (M73 : AwM) => ((if x68 = x72 then fL_law_J1112_18 sh M73 (-1) v1 v2 v3 else none)))))) else (if (an_ (xi v3) 31) = 2 then gd_ (kd_ sh v1 = (0, 8)) (pb (fX8_society sh M v1) <| u2 fun (x77 : Int) (M78 : AwM) => (gd_ (kd_ sh v2 = (0, 9)) (pb (fX9_society sh M78 v2) <| u2 fun (x81 : Int) (M82 : AwM) => ((if x77 = x81 then fL_law_J1112_18 sh M82 (-1) v1 v2 v3 else none))))) else (if (an_ (xi v3) 31) = 3 then gd_ ((0 : Int) ≤ (w32 (v3 + 1)) ∧ (w32 (v3 + 1)) < L) (gd_ (kd_ sh v1 = (0, 8)) (pb (fX8_fault sh M v1 (xi (w32 (v3 + 1)))) <| u1 fun (x87 : Int) => (gd_ (kd_ sh v2 = (0, 9)) (pb (fX9_fault sh M v2 (xi (w32 (v3 + 1)))) <| u1 fun (x90 : Int) => ((if x87 = x90 then fL_law_J1112_18 sh M (-1) v1 v2 v3 else none)))))) else (if (an_ (xi v3) 31) = 4 then gd_ ((0 : Int) ≤ (w32 (v3 + 1)) ∧ (w32 (v3 + 1)) < L) (gd_ (kd_ sh v1 = (0, 8)) (pb (fX8_has sh M v1 (xi (w32 (v3 + 1)))) <| u1 fun (x95 : Int) => (gd_ (kd_ sh v2 = (0, 9)) (pb (fX9_has sh M v2 (xi (w32 (v3 + 1)))) <| u1 fun (x98 : Int) => ((if x95 = x98 then fL_law_J1112_18 sh M (-1) v1 v2 v3 else none)))))) else (if (an_ (xi v3) 31) = 5 then gd_ ((0 : Int) ≤ (w32 (v3 + 1)) ∧ (w32 (v3 + 1)) < L) (gd_ ((0 : Int) ≤ (w32 (v3 + 2)) ∧ (w32 (v3 + 2)) < L) (gd_ ((0 : Int) ≤ (w32 (v3 + 3)) ∧ (w32 (v3 + 3)) < L) (gd_ (kd_ sh v1 = (0, 8)) (pb (fX8_letter sh M v1 (xi (w32 (v3 + 1))) (xi (w32 (v3 + 2))) (xi (w32 (v3 + 3)))) <| u1 fun (x105 : Int) => (gd_ (kd_ sh v2 = (0, 9)) (pb (fX9_letter sh M v2 (xi (w32 (v3 + 1))) (xi (w32 (v3 + 2))) (xi (w32 (v3 + 3)))) <| u1 fun (x108 : Int) => ((if x105 = x108 then fL_law_J1112_18 sh M (-1) v1 v2 v3 else none)))))))) else (if (an_ (xi v3) 31) = 6 then gd_ ((0 : Int) ≤ (w32 (v3 + 1)) ∧ (w32 (v3 + 1)) < L) (gd_ ((0 : Int) ≤ (w32 (v3 + 2)) ∧ (w32 (v3 + 2)) < L) (gd_ (kd_ sh v1 = (0, 8)) (pb (fX8_person sh M v1 (xi (w32 (v3 + 1))) (xi (w32 (v3 + 2)))) <| u1 fun (x114 : Int) => (gd_ (kd_ sh v2 = (0, 9)) (pb (fX9_person sh M v2 (xi (w32 (v3 + 1))) (xi (w32 (v3 + 2)))) <| u1 fun (x117 : Int) => ((if x114 = x117 then fL_law_J1112_18 sh M (-1) v1 v2 v3 else none))))))) else (if (an_ (xi v3) 31) = 7 then gd_ ((0 : Int) ≤ (w32 (v3 + 1)) ∧ (w32 (v3 + 1)) < L) (gd_ ((0 : Int) ≤ (w32 (v3 + 2)) ∧ (w32 (v3 + 2)) < L) (gd_ (kd_ sh v1 = (0, 8)) (pb (fX8_coin sh M v1 (xi (w32 (v3 + 1))) (xi (w32 (v3 + 2)))) <| u1 fun (x123 : Int) => (gd_ (kd_ sh v2 = (0, 9)) (pb (fX9_coin sh M v2 (xi (w32 (v3 + 1))) (xi (w32 (v3 + 2)))) <| u1 fun (x126 : Int) => ((if x123 = x126 then fL_law_J1112_18 sh M (-1) v1 v2 v3 else none))))))) else (if (an_ (xi v3) 31) = 8 then gd_ ((0 : Int) ≤ (w32 (v3 + 1)) ∧ (w32 (v3 + 1)) < L) (gd_ ((0 : Int) ≤ (w32 (v3 + 2)) ∧ (w32 (v3 + 2)) < L) (gd_ (kd_ sh v1 = (0, 8)) (pb (fX8_met sh M v1 (xi (w32 (v3 + 1))) (xi (w32 (v3 + 2)))) <| u1 fun (x132 : Int) => (gd_ (kd_ sh v2 = (0, 9)) (pb (fX9_met sh M v2 (xi (w32 (v3 + 1))) (xi (w32 (v3 + 2)))) <| u1 fun (x135 : Int) => ((if x132 = x135 then fL_law_J1112_18 sh M (-1) v1 v2 v3 else none))))))) else (if (an_ (xi v3) 31) = 9 then gd_ ((0 : Int) ≤ (w32 (v3 + 1)) ∧ (w32 (v3 + 1)) < L) (gd_ ((0 : Int) ≤ (w32 (v3 + 2)) ∧ (w32 (v3 + 2)) < L) (gd_ (kd_ sh v1 = (0, 8)) (pb (fX8_may sh M v1 (xi (w32 (v3 + 1))) (xi (w32 (v3 + 2)))) <| u2 fun (x141 : Int) (M142 : AwM) => (gd_ (kd_ sh v2 = (0, 9)) (pb (fX9_may sh M142 v2 (xi (w32 (v3 + 1))) (xi (w32 (v3 + 2)))) <| u2 fun (x145 : Int) (M146 : AwM) => ((if x141 = x145 then fL_law_J1112_18 sh M146 (-1) v1 v2 v3 else none))))))) else (if (an_ (xi v3) 31) = 10 then gd_ ((0 : Int) ≤ (w32 (v3 + 1)) ∧ (w32 (v3 + 1)) < L) (gd_ ((0 : Int) ≤ (w32 (v3 + 2)) ∧ (w32 (v3 + 2)) < L) (gd_ ((0 : Int) ≤ (w32 (v3 + 3)) ∧ (w32 (v3 + 3)) < L) (gd_ (kd_ sh v1 = (0, 8)) (pb (fX8_goods sh M v1 (xi (w32 (v3 + 1))) (xi (w32 (v3 + 2))) (xi (w32 (v3 + 3)))) <| u2 fun (x153 : Int) (M154 : AwM) => (gd_ (kd_ sh v2 = (0, 9)) (pb (fX9_goods sh M154 v2 (xi (w32 (v3 + 1))) (xi (w32 (v3 + 2))) (xi (w32 (v3 + 3)))) <| u2 fun (x157 : Int) (M158 : AwM) => ((if x153 = x157 then fL_law_J1112_18 sh M158 (-1) v1 v2 v3 else none)))))))) else (if (an_ (xi v3) 31) = 11 then gd_ ((0 : Int) ≤ (w32 (v3 + 1)) ∧ (w32 (v3 + 1)) < L) (gd_ ((0 : Int) ≤ (w32 (v3 + 2)) ∧ (w32 (v3 + 2)) < L) (gd_ (kd_ sh v1 = (0, 8)) (pb (fX8_spend sh M v1 (xi (w32 (v3 + 1))) (xi (w32 (v3 + 2)))) <| u1 fun (x164 : Int) => (gd_ (kd_ sh v2 = (0, 9)) (pb (fX9_spend sh M v2 (xi (w32 (v3 + 1))) (xi (w32 (v3 + 2)))) <| u1 fun (x167 : Int) => ((if x164 = x167 then fL_law_J1112_18 sh M (-1) v1 v2 v3 else none))))))) else (if (an_ (xi v3) 31) = 12 then gd_ ((0 : Int) ≤ (w32 (v3 + 1)) ∧ (w32 (v3 + 1)) < L) (gd_ ((0 : Int) ≤ (w32 (v3 + 2)) ∧ (w32 (v3 + 2)) < L) (gd_ (kd_ sh v1 = (0, 8)) (pb (fX8_present sh M v1 (xi (w32 (v3 + 1))) (xi (w32 (v3 + 2)))) <| u2 fun (x173 : Int) (M174 : AwM) => (gd_ (kd_ sh v2 = (0, 9)) (pb (fX9_present sh M174 v2 (xi (w32 (v3 + 1))) (xi (w32 (v3 + 2)))) <| u2 fun (x177 : Int) (M178 : AwM) => ((if x173 = x177 then fL_law_J1112_18 sh M178 (-1) v1 v2 v3 else none))))))) else (if (an_ (xi v3) 31) = 13 then gd_ ((0 : Int) ≤ (w32 (v3 + 1)) ∧ (w32 (v3 + 1)) < L) (gd_ ((0 : Int) ≤ (w32 (v3 + 2)) ∧ (w32 (v3 + 2)) < L) (gd_ (kd_ sh v1 = (0, 8)) (pb (fX8_pay sh M v1 (xi (w32 (v3 + 1))) (xi (w32 (v3 + 2)))) <| u2 fun (x184 : Int) (M185 : AwM) => (gd_ (kd_ sh v2 = (0, 9)) (pb (fX9_pay sh M185 v2 (xi (w32 (v3 + 1))) (xi (w32 (v3 + 2)))) <| u2 fun (x188 : Int) (M189 : AwM) => ((if x184 = x188 then fL_law_J1112_18 sh M189 (-1) v1 v2 v3 else none))))))) else (if (an_ (xi v3) 31) = 14 then gd_ ((0 : Int) ≤ (w32 (v3 + 1)) ∧ (w32 (v3 + 1)) < L) (gd_ ((0 : Int) ≤ (w32 (v3 + 2)) ∧ (w32 (v3 + 2)) < L) (gd_ ((0 : Int) ≤ (w32 (v3 + 3)) ∧ (w32 (v3 + 3)) < L) (gd_ (kd_ sh v1 = (0, 8)) (pb (fX8_buy sh M v1 (xi (w32 (v3 + 1))) (xi (w32 (v3 + 2))) (xi (w32 (v3 + 3)))) <| u2 fun (x196 : Int) (M197 : AwM) => (gd_ (kd_ sh v2 = (0, 9)) (pb (fX9_buy sh M197 v2 (xi (w32 (v3 + 1))) (xi (w32 (v3 + 2))) (xi (w32 (v3 + 3)))) <| u2 fun (x200 : Int) (M201 : AwM) => ((if x196 = x200 then fL_law_J1112_18 sh M201 (-1) v1 v2 v3 else none)))))))) else (if (an_ (xi v3) 31) = 15 then gd_ ((0 : Int) ≤ (w32 (v3 + 1)) ∧ (w32 (v3 + 1)) < L) (gd_ (kd_ sh v1 = (0, 8)) (pb (fX8_tea sh M v1 (xi (w32 (v3 + 1)))) <| u2 fun (x206 : Int) (M207 : AwM) => (gd_ (kd_ sh v2 = (0, 9)) (pb (fX9_tea sh M207 v2 (xi (w32 (v3 + 1)))) <| u2 fun (x210 : Int) (M211 : AwM) => ((if x206 = x210 then fL_law_J1112_18 sh M211 (-1) v1 v2 v3 else none)))))) else (if (an_ (xi v3) 31) = 16 then gd_ ((0 : Int) ≤ (w32 (v3 + 1)) ∧ (w32 (v3 + 1)) < L) (gd_ (kd_ sh v1 = (0, 8)) (pb (fX8_days sh M v1 (xi (w32 (v3 + 1)))) <| u2 fun (x216 : Int) (M217 : AwM) => (gd_ (kd_ sh v2 = (0, 9)) (pb (fX9_days sh M217 v2 (xi (w32 (v3 + 1)))) <| u2 fun (x220 : Int) (M221 : AwM) => ((if x216 = x220 then fL_law_J1112_18 sh M221 (-1) v1 v2 v3 else none)))))) else (if (an_ (xi v3) 31) = 17 then gd_ ((0 : Int) ≤ (w32 (v3 + 1)) ∧ (w32 (v3 + 1)) < L) (gd_ (kd_ sh v1 = (0, 8)) (pb (fX8_calls sh M v1 (xi (w32 (v3 + 1)))) <| u2 fun (x226 : Int) (M227 : AwM) => (gd_ (kd_ sh v2 = (0, 9)) (pb (fX9_calls sh M227 v2 (xi (w32 (v3 + 1)))) <| u2 fun (x230 : Int) (M231 : AwM) => ((if x226 = x230 then fL_law_J1112_18 sh M231 (-1) v1 v2 v3 else none)))))) else (if (an_ (xi v3) 31) = 18 then gd_ (kd_ sh v1 = (0, 8)) (pb (fX8_undo sh M v1) <| u2 fun (x235 : Int) (M236 : AwM) => (gd_ (kd_ sh v2 = (0, 9)) (pb (fX9_undo sh M236 v2) <| u2 fun (x239 : Int) (M240 : AwM) => ((if x235 = x239 then fL_law_J1112_18 sh M240 (-1) v1 v2 v3 else none))))) else (if (an_ (xi v3) 31) = 19 then gd_ ((0 : Int) ≤ (w32 (v3 + 1)) ∧ (w32 (v3 + 1)) < L) (gd_ (kd_ sh v1 = (0, 8)) (pb (fX8_seed sh M v1 (xi (w32 (v3 + 1)))) <| u2 fun (x245 : Int) (M246 : AwM) => (gd_ (kd_ sh v2 = (0, 9)) (pb (fX9_seed sh M246 v2 (xi (w32 (v3 + 1)))) <| u2 fun (x249 : Int) (M250 : AwM) => ((if x245 = x249 then fL_law_J1112_18 sh M250 (-1) v1 v2 v3 else none)))))) else (if (an_ (xi v3) 31) = 20 then gd_ ((0 : Int) ≤ (w32 (v3 + 1)) ∧ (w32 (v3 + 1)) < L) (gd_ ((0 : Int) ≤ (w32 (v3 + 2)) ∧ (w32 (v3 + 2)) < L) (gd_ ((0 : Int) ≤ (w32 (v3 + 3)) ∧ (w32 (v3 + 3)) < L) (gd_ ((0 : Int) ≤ (w32 (v3 + 4)) ∧ (w32 (v3 + 4)) < L) (gd_ (kd_ sh v1 = (0, 8)) (pb (fX8_introduce sh M v1 (xi (w32 (v3 + 1))) (xi (w32 (v3 + 2))) (xi (w32 (v3 + 3))) (xi (w32 (v3 + 4)))) <| u2 fun (x258 : Int) (M259 : AwM) => (gd_ (kd_ sh v2 = (0, 9)) (pb (fX9_introduce sh M259 v2 (xi (w32 (v3 + 1))) (xi (w32 (v3 + 2))) (xi (w32 (v3 + 3))) (xi (w32 (v3 + 4)))) <| u2 fun (x262 : Int) (M263 : AwM) => ((if x258 = x262 then fL_law_J1112_18 sh M263 (-1) v1 v2 v3 else none))))))))) else (if (an_ (xi v3) 31) = 21 then gd_ ((0 : Int) ≤ (w32 (v3 + 1)) ∧ (w32 (v3 + 1)) < L) (gd_ ((0 : Int) ≤ (w32 (v3 + 2)) ∧ (w32 (v3 + 2)) < L) (gd_ ((0 : Int) ≤ (w32 (v3 + 3)) ∧ (w32 (v3 + 3)) < L) (gd_ (kd_ sh v1 = (0, 8)) (pb (fX8_comes sh M v1 (xi (w32 (v3 + 1))) (xi (w32 (v3 + 2))) (xi (w32 (v3 + 3)))) <| u2 fun (x270 : Int) (M271 : AwM) => (gd_ (kd_ sh v2 = (0, 9)) (pb (fX9_comes sh M271 v2 (xi (w32 (v3 + 1))) (xi (w32 (v3 + 2))) (xi (w32 (v3 + 3)))) <| u2 fun (x274 : Int) (M275 : AwM) => ((if x270 = x274 then fL_law_J1112_18 sh M275 (-1) v1 v2 v3 else none)))))))) else (if (an_ (xi v3) 31) = 22 then gd_ ((0 : Int) ≤ (w32 (v3 + 1)) ∧ (w32 (v3 + 1)) < L) (gd_ ((0 : Int) ≤ (w32 (v3 + 2)) ∧ (w32 (v3 + 2)) < L) (gd_ (kd_ sh v1 = (0, 8)) (pb (fX8_best sh M v1 (xi (w32 (v3 + 1))) (xi (w32 (v3 + 2)))) <| u2 fun (x281 : Int) (M282 : AwM) => (gd_ (kd_ sh v2 = (0, 9)) (pb (fX9_best sh M282 v2 (xi (w32 (v3 + 1))) (xi (w32 (v3 + 2)))) <| u2 fun (x285 : Int) (M286 : AwM) => ((if x281 = x285 then fL_law_J1112_18 sh M286 (-1) v1 v2 v3 else none))))))) else (if (an_ (xi v3) 31) = 23 then gd_ (kd_ sh v1 = (0, 8)) (pb (fX8_letters sh M v1) <| u2 fun (x290 : Int) (M291 : AwM) => (gd_ (kd_ sh v2 = (0, 9)) (pb (fX9_letters sh M291 v2) <| u2 fun (x294 : Int) (M295 : AwM) => ((if x290 = x294 then fL_law_J1112_18 sh M295 (-1) v1 v2 v3 else none))))) else (if (an_ (xi v3) 31) = 24 then gd_ ((0 : Int) ≤ (w32 (v3 + 1)) ∧ (w32 (v3 + 1)) < L) (gd_ (kd_ sh v1 = (0, 8)) (pb (fX8_letterIs sh M v1 (xi (w32 (v3 + 1)))) <| u1 fun (x300 : Int) => (gd_ (kd_ sh v2 = (0, 9)) (pb (fX9_letterIs sh M v2 (xi (w32 (v3 + 1)))) <| u1 fun (x303 : Int) => ((if x300 = x303 then fL_law_J1112_18 sh M (-1) v1 v2 v3 else none)))))) else (if (an_ (xi v3) 31) = 25 then gd_ ((0 : Int) ≤ (w32 (v3 + 1)) ∧ (w32 (v3 + 1)) < L) (gd_ ((0 : Int) ≤ (w32 (v3 + 2)) ∧ (w32 (v3 + 2)) < L) (gd_ (kd_ sh v1 = (0, 8)) (pb (fX8_fair sh M v1 (xi (w32 (v3 + 1))) (xi (w32 (v3 + 2)))) <| u1 fun (x309 : Int) => (gd_ (kd_ sh v2 = (0, 9)) (pb (fX9_fair sh M v2 (xi (w32 (v3 + 1))) (xi (w32 (v3 + 2)))) <| u1 fun (x312 : Int) => ((if x309 = x312 then fL_law_J1112_18 sh M (-1) v1 v2 v3 else none))))))) else (if (an_ (xi v3) 31) = 26 then gd_ ((0 : Int) ≤ (w32 (v3 + 1)) ∧ (w32 (v3 + 1)) < L) (gd_ ((0 : Int) ≤ (w32 (v3 + 2)) ∧ (w32 (v3 + 2)) < L) (gd_ (kd_ sh v1 = (0, 8)) (pb (fX8_later sh M v1 (xi (w32 (v3 + 1))) (xi (w32 (v3 + 2)))) <| u2 fun (x318 : Int) (M319 : AwM) => (gd_ (kd_ sh v2 = (0, 9)) (pb (fX9_later sh M319 v2 (xi (w32 (v3 + 1))) (xi (w32 (v3 + 2)))) <| u2 fun (x322 : Int) (M323 : AwM) => ((if x318 = x322 then fL_law_J1112_18 sh M323 (-1) v1 v2 v3 else none))))))) else (if (an_ (xi v3) 31) = 27 then gd_ ((0 : Int) ≤ (w32 (v3 + 1)) ∧ (w32 (v3 + 1)) < L) (gd_ (kd_ sh v1 = (0, 8)) (pb (fX8_useless sh M v1 (xi (w32 (v3 + 1)))) <| u2 fun (x328 : Int) (M329 : AwM) => (gd_ (kd_ sh v2 = (0, 9)) (pb (fX9_useless sh M329 v2 (xi (w32 (v3 + 1)))) <| u2 fun (x332 : Int) (M333 : AwM) => ((if x328 = x332 then fL_law_J1112_18 sh M333 (-1) v1 v2 v3 else none)))))) else (if (an_ (xi v3) 31) = 28 then gd_ (kd_ sh v1 = (0, 8)) (pb (fX8_image sh M v1) <| u2 fun (x337 : Int) (M338 : AwM) => (gd_ (kd_ sh v2 = (0, 9)) (pb (fX9_image sh M338 v2) <| u2 fun (x341 : Int) (M342 : AwM) => ((if x337 = x341 then fL_law_J1112_18 sh M342 (-1) v1 v2 v3 else none))))) else (if (an_ (xi v3) 31) = 29 then gd_ ((0 : Int) ≤ (w32 (v3 + 1)) ∧ (w32 (v3 + 1)) < L) (gd_ (kd_ sh v1 = (0, 8)) (pb (fX8_octet sh M v1 (xi (w32 (v3 + 1)))) <| u1 fun (x347 : Int) => (gd_ (kd_ sh v2 = (0, 9)) (pb (fX9_octet sh M v2 (xi (w32 (v3 + 1)))) <| u1 fun (x350 : Int) => ((if x347 = x350 then fL_law_J1112_18 sh M (-1) v1 v2 v3 else none)))))) else (if (an_ (xi v3) 31) = 30 then gd_ (kd_ sh v1 = (0, 8)) (pb (fX8_on sh M v1) <| u2 fun (x354 : Int) (M355 : AwM) => (gd_ (kd_ sh v2 = (0, 9)) (pb (fX9_on sh M355 v2) <| u2 fun (x358 : Int) (M359 : AwM) => ((if x354 = x358 then fL_law_J1112_18 sh M359 (-1) v1 v2 v3 else none))))) else (if (an_ (xi v3) 31) = 31 then gd_ ((0 : Int) ≤ (w32 (v3 + 1)) ∧ (w32 (v3 + 1)) < L) (gd_ (kd_ sh v1 = (0, 8)) (pb (fX8_status sh M v1 (xi (w32 (v3 + 1)))) <| u1 fun (x364 : Int) => (gd_ (kd_ sh v2 = (0, 9)) (pb (fX9_status sh M v2 (xi (w32 (v3 + 1)))) <| u1 fun (x367 : Int) => ((if x364 = x367 then fL_law_J1112_18 sh M (-1) v1 v2 v3 else none)))))) else fL_law_J1112_18 sh M (-1) v1 v2 v3))))))))))))))))))))))))))))))))))
set_option maxRecDepth 100000 in
set_option maxHeartbeats 4000000 in
def p_L_law_L18 (Γ : AwC) (xi : Int → Int) (L : Int) (sh : AwS) (v0 : Int) (v1 : Int) (v2 : Int) (Q : State → Prop) (s : Int × AwM) : Prop := AW Γ sh (s.2) 207 84208 18 [some (.inr (.inr (-1))), some (.inr (.inr v1)), some (.inr (.inr v2)), some (.inl (s.1))] [] Q
set_option maxRecDepth 100000 in
set_option maxHeartbeats 4000000 in
def x_L_law_L18 (Γ : AwC) (xi : Int → Int) (L : Int) (sh : AwS) (v0 : Int) (v1 : Int) (v2 : Int) (Q : State → Prop) : (AwM) → Prop := (fun (t : AwM) => AW Γ sh (t) 207 84208 1118 [none, none, none, none] [] Q)
set_option maxRecDepth 100000 in
set_option maxHeartbeats 4000000 in
def fL_law (xi : Int → Int) (L : Int) (sh : AwS) (M : AwM) : Option Int :=
  bd_ ((sh.length : Nat) : Int) fun (p1 : Int) => (bd_ (sh ++ [(0, 8)]) fun (sh3 : AwS) => (gd_ ((0 : Int) < p1) (pb (fX8_init sh3 M p1) <| u2 fun (sh7 : AwS) (M8 : AwM) => (bd_ ((sh7.length : Nat) : Int) fun (p9 : Int) => (bd_ (sh7 ++ [(0, 9)]) fun (sh11 : AwS) => (gd_ ((0 : Int) < p9) (pb (fX9_init sh11 M8 p9) <| u2 fun (sh15 : AwS) (M16 : AwM) => (pb (lp (u2 (fL_law_L18 xi L sh15 (-1) p1 p9)) FU (0, M16)) (u1 (fun (tq369 : AwM) => some 1))))))))))
set_option maxRecDepth 100000 in
set_option maxHeartbeats 4000000 in
theorem w_L_law_J1112_18 {Γ : AwC} {nm : String} {xi : Int → Int} {L : Int} (hC : AOK Γ RL cL_law 4 167 600000 7302250 nm ret) {sh : AwS} {M : AwM} {v0 : Int} {v1 : Int} {v2 : Int} {v3 : Int} {Q : State → Prop} {r : (Int × AwM) ⊕ (AwM)} (h : fL_law_J1112_18 sh M v0 v1 v2 v3 = some r) (hL : ∀ s', r = .inl s' → p_L_law_L18 Γ xi L sh v0 v1 v2 Q s') (hX : ∀ t, r = .inr t → x_L_law_L18 Γ xi L sh v0 v1 v2 Q t) : AW Γ sh M 207 84208 1112 [some (.inr (.inr (-1))), some (.inr (.inr v1)), some (.inr (.inr v2)), some (.inl v3)] [] Q := by
  unfold fL_law_J1112_18 at h
  refine aw_iinc (pc' := 1115) (ls' := [some (.inr (.inr (-1))), some (.inr (.inr v1)), some (.inr (.inr v2)), some (.inl (w32 (v3 + 6)))]) hC dL_law_1112 rfl rfl rfl rfl ?_
  refine aw_goto (tgt := 18) hC dL_law_1115 (by decide) ?_
  refine aw_sub hC [some (.inr (.inr (-1))), some (.inr (.inr v1)), some (.inr (.inr v2)), some (.inl (w32 (v3 + 6)))] ⟨rfl, ⟨rfl, ⟨rfl, ⟨rfl, trivial⟩⟩⟩⟩ (Nat.le_of_ble_eq_true rfl) ?_
  cases h
  exact hL _ rfl
set_option maxRecDepth 100000 in
set_option maxHeartbeats 4000000 in
theorem w_L_law_L18 {Γ : AwC} {nm : String} {xi : Int → Int} {L : Int} (hC : AOK Γ RL cL_law 4 167 600000 7302250 nm ret) (hxi : SC_ Γ xi L) {sh : AwS} {v0 : Int} {v1 : Int} {v2 : Int} {Q : State → Prop} : ∀ s r, u2 (fL_law_L18 xi L sh v0 v1 v2) s = some r → (∀ s', r = .inl s' → p_L_law_L18 Γ xi L sh v0 v1 v2 Q s') → (∀ t, r = .inr t → x_L_law_L18 Γ xi L sh v0 v1 v2 Q t) → p_L_law_L18 Γ xi L sh v0 v1 v2 Q s := by
  intro s r h hL hX
  obtain ⟨v3, M⟩ := s
  replace h := u2_s h
  unfold fL_law_L18 at h
  show AW Γ sh M 207 84208 18 [some (.inr (.inr (-1))), some (.inr (.inr v1)), some (.inr (.inr v2)), some (.inl v3)] [] Q
  refine aw_iload_n (pc' := 19) (i := 3) hC dL_law_18 rfl rfl rfl ?_
  refine aw_aload_n (pc' := 20) (i := 0) hC dL_law_19 rfl rfl rfl ?_
  refine aw_slen (pc' := 21) hC hxi dL_law_20 rfl ?_
  refine aw_bipush (pc' := 23) hC dL_law_21 rfl (by decide) ?_
  refine aw_isub (pc' := 24) hC dL_law_23 rfl  ?_
  refine aw_icmp_gt (tgt := 1118) (pc' := 27) hC dL_law_24 (by decide) rfl (fun c17 => ?_) (fun c17 => ?_)
  · replace h := it_p c17 h
    refine aw_sub hC [none, none, none, none] trivial (Nat.le_of_ble_eq_true rfl) ?_
    cases h
    exact hX _ rfl
  · replace h := it_n c17 h
    refine aw_aload_n (pc' := 28) (i := 0) hC dL_law_27 rfl rfl rfl ?_
    refine aw_iload_n (pc' := 29) (i := 3) hC dL_law_28 rfl rfl rfl ?_
    obtain ⟨g18, h⟩ := gd_s h
    refine aw_sld (pc' := 30) hC hxi g18 dL_law_29 rfl ?_
    refine aw_bipush (pc' := 32) hC dL_law_30 rfl (by decide) ?_
    refine aw_iand (pc' := 33) hC dL_law_32 rfl  ?_
    by_cases c19 : (an_ (xi v3) 31) = 0
    · replace h := it_p c19 h
      refine aw_tsIn (tgt := 176) (off := 143) hC dL_law_33 ⟨by omega, by omega, by rw [c19]; rfl⟩ (by decide) ?_
      refine aw_aload_n (pc' := 177) (i := 1) hC dL_law_176 rfl rfl rfl ?_
      refine aw_aload_n (pc' := 178) (i := 0) hC dL_law_177 rfl rfl rfl ?_
      refine aw_iload_n (pc' := 179) (i := 3) hC dL_law_178 rfl rfl rfl ?_
      refine aw_iconst (pc' := 180) hC dL_law_179 rfl (by decide) ?_
      refine aw_iadd (pc' := 181) hC dL_law_180 rfl  ?_
      obtain ⟨g51, h⟩ := gd_s h
      refine aw_sld (pc' := 182) hC hxi g51 dL_law_181 rfl ?_
      refine aw_aload_n (pc' := 183) (i := 0) hC dL_law_182 rfl rfl rfl ?_
      refine aw_iload_n (pc' := 184) (i := 3) hC dL_law_183 rfl rfl rfl ?_
      refine aw_iconst (pc' := 185) hC dL_law_184 rfl (by decide) ?_
      refine aw_iadd (pc' := 186) hC dL_law_185 rfl  ?_
      obtain ⟨g52, h⟩ := gd_s h
      refine aw_sld (pc' := 187) hC hxi g52 dL_law_186 rfl ?_
      refine aw_aload_n (pc' := 188) (i := 0) hC dL_law_187 rfl rfl rfl ?_
      refine aw_iload_n (pc' := 189) (i := 3) hC dL_law_188 rfl rfl rfl ?_
      refine aw_iconst (pc' := 190) hC dL_law_189 rfl (by decide) ?_
      refine aw_iadd (pc' := 191) hC dL_law_190 rfl  ?_
      obtain ⟨g53, h⟩ := gd_s h
      refine aw_sld (pc' := 192) hC hxi g53 dL_law_191 rfl ?_
      refine aw_aload_n (pc' := 193) (i := 0) hC dL_law_192 rfl rfl rfl ?_
      refine aw_iload_n (pc' := 194) (i := 3) hC dL_law_193 rfl rfl rfl ?_
      refine aw_iconst (pc' := 195) hC dL_law_194 rfl (by decide) ?_
      refine aw_iadd (pc' := 196) hC dL_law_195 rfl  ?_
      obtain ⟨g54, h⟩ := gd_s h
      refine aw_sld (pc' := 197) hC hxi g54 dL_law_196 rfl ?_
      refine aw_aload_n (pc' := 198) (i := 0) hC dL_law_197 rfl rfl rfl ?_
      refine aw_iload_n (pc' := 199) (i := 3) hC dL_law_198 rfl rfl rfl ?_
      refine aw_iconst (pc' := 200) hC dL_law_199 rfl (by decide) ?_
      refine aw_iadd (pc' := 201) hC dL_law_200 rfl  ?_
      obtain ⟨g55, h⟩ := gd_s h
      refine aw_sld (pc' := 202) hC hxi g55 dL_law_201 rfl ?_
      obtain ⟨g57, h⟩ := gd_s h
      obtain ⟨⟨x58, M59⟩, q56, h⟩ := pb_s h
      replace h := u2_s h
      refine aw_cV (pc' := 205) (k2 := 207) (n2 := 84208) (st := []) (stN := [.inl x58]) hC [.inl (xi (w32 (v3 + 1))), .inl (xi (w32 (v3 + 2))), .inl (xi (w32 (v3 + 3))), .inl (xi (w32 (v3 + 4))), .inl (xi (w32 (v3 + 5)))] (mX8_feed q56) lk_L_13 g57 dL_law_202 rfl rfl (Nat.le_of_ble_eq_true rfl) (Nat.le_of_ble_eq_true rfl) (Nat.le_of_ble_eq_true rfl) rfl (Nat.le_of_ble_eq_true rfl) rfl rfl rfl ?_
      refine aw_aload_n (pc' := 206) (i := 2) hC dL_law_205 rfl rfl rfl ?_
      refine aw_aload_n (pc' := 207) (i := 0) hC dL_law_206 rfl rfl rfl ?_
      refine aw_iload_n (pc' := 208) (i := 3) hC dL_law_207 rfl rfl rfl ?_
      refine aw_iconst (pc' := 209) hC dL_law_208 rfl (by decide) ?_
      refine aw_iadd (pc' := 210) hC dL_law_209 rfl  ?_
      refine aw_sld (pc' := 211) hC hxi g51 dL_law_210 rfl ?_
      refine aw_aload_n (pc' := 212) (i := 0) hC dL_law_211 rfl rfl rfl ?_
      refine aw_iload_n (pc' := 213) (i := 3) hC dL_law_212 rfl rfl rfl ?_
      refine aw_iconst (pc' := 214) hC dL_law_213 rfl (by decide) ?_
      refine aw_iadd (pc' := 215) hC dL_law_214 rfl  ?_
      refine aw_sld (pc' := 216) hC hxi g52 dL_law_215 rfl ?_
      refine aw_aload_n (pc' := 217) (i := 0) hC dL_law_216 rfl rfl rfl ?_
      refine aw_iload_n (pc' := 218) (i := 3) hC dL_law_217 rfl rfl rfl ?_
      refine aw_iconst (pc' := 219) hC dL_law_218 rfl (by decide) ?_
      refine aw_iadd (pc' := 220) hC dL_law_219 rfl  ?_
      refine aw_sld (pc' := 221) hC hxi g53 dL_law_220 rfl ?_
      refine aw_aload_n (pc' := 222) (i := 0) hC dL_law_221 rfl rfl rfl ?_
      refine aw_iload_n (pc' := 223) (i := 3) hC dL_law_222 rfl rfl rfl ?_
      refine aw_iconst (pc' := 224) hC dL_law_223 rfl (by decide) ?_
      refine aw_iadd (pc' := 225) hC dL_law_224 rfl  ?_
      refine aw_sld (pc' := 226) hC hxi g54 dL_law_225 rfl ?_
      refine aw_aload_n (pc' := 227) (i := 0) hC dL_law_226 rfl rfl rfl ?_
      refine aw_iload_n (pc' := 228) (i := 3) hC dL_law_227 rfl rfl rfl ?_
      refine aw_iconst (pc' := 229) hC dL_law_228 rfl (by decide) ?_
      refine aw_iadd (pc' := 230) hC dL_law_229 rfl  ?_
      refine aw_sld (pc' := 231) hC hxi g55 dL_law_230 rfl ?_
      obtain ⟨g61, h⟩ := gd_s h
      obtain ⟨⟨x62, M63⟩, q60, h⟩ := pb_s h
      replace h := u2_s h
      refine aw_cV (pc' := 234) (k2 := 207) (n2 := 84208) (st := [.inl x58]) (stN := [.inl x62, .inl x58]) hC [.inl (xi (w32 (v3 + 1))), .inl (xi (w32 (v3 + 2))), .inl (xi (w32 (v3 + 3))), .inl (xi (w32 (v3 + 4))), .inl (xi (w32 (v3 + 5)))] (mX9_feed q60) lk_L_17 g61 dL_law_231 rfl rfl (Nat.le_of_ble_eq_true rfl) (Nat.le_of_ble_eq_true rfl) (Nat.le_of_ble_eq_true rfl) rfl (Nat.le_of_ble_eq_true rfl) rfl rfl rfl ?_
      refine aw_icmp_eq (tgt := 1112) (pc' := 237) hC dL_law_234 (by decide) rfl (fun c64 => ?_) (fun c64 => ?_)
      · replace h := it_p c64 h
        refine aw_sub hC [some (.inr (.inr (-1))), some (.inr (.inr v1)), some (.inr (.inr v2)), some (.inl v3)] ⟨rfl, ⟨rfl, ⟨rfl, ⟨rfl, trivial⟩⟩⟩⟩ (Nat.le_of_ble_eq_true rfl) ?_
        exact w_L_law_J1112_18 (xi := xi) (L := L) hC h hL hX
      · replace h := it_n c64 h
        cases h
    · replace h := it_n c19 h
      by_cases c20 : (an_ (xi v3) 31) = 1
      · replace h := it_p c20 h
        refine aw_tsIn (tgt := 239) (off := 206) hC dL_law_33 ⟨by omega, by omega, by rw [c20]; rfl⟩ (by decide) ?_
        refine aw_aload_n (pc' := 240) (i := 1) hC dL_law_239 rfl rfl rfl ?_
        refine aw_aload_n (pc' := 241) (i := 0) hC dL_law_240 rfl rfl rfl ?_
        refine aw_iload_n (pc' := 242) (i := 3) hC dL_law_241 rfl rfl rfl ?_
        refine aw_iconst (pc' := 243) hC dL_law_242 rfl (by decide) ?_
        refine aw_iadd (pc' := 244) hC dL_law_243 rfl  ?_
        obtain ⟨g65, h⟩ := gd_s h
        refine aw_sld (pc' := 245) hC hxi g65 dL_law_244 rfl ?_
        obtain ⟨g67, h⟩ := gd_s h
        obtain ⟨⟨x68, M69⟩, q66, h⟩ := pb_s h
        replace h := u2_s h
        refine aw_cV (pc' := 248) (k2 := 207) (n2 := 84208) (st := []) (stN := [.inl x68]) hC [.inl (xi (w32 (v3 + 1)))] (mX8_end q66) lk_L_18 g67 dL_law_245 rfl rfl (Nat.le_of_ble_eq_true rfl) (Nat.le_of_ble_eq_true rfl) (Nat.le_of_ble_eq_true rfl) rfl (Nat.le_of_ble_eq_true rfl) rfl rfl rfl ?_
        refine aw_aload_n (pc' := 249) (i := 2) hC dL_law_248 rfl rfl rfl ?_
        refine aw_aload_n (pc' := 250) (i := 0) hC dL_law_249 rfl rfl rfl ?_
        refine aw_iload_n (pc' := 251) (i := 3) hC dL_law_250 rfl rfl rfl ?_
        refine aw_iconst (pc' := 252) hC dL_law_251 rfl (by decide) ?_
        refine aw_iadd (pc' := 253) hC dL_law_252 rfl  ?_
        refine aw_sld (pc' := 254) hC hxi g65 dL_law_253 rfl ?_
        obtain ⟨g71, h⟩ := gd_s h
        obtain ⟨⟨x72, M73⟩, q70, h⟩ := pb_s h
        replace h := u2_s h
        refine aw_cV (pc' := 257) (k2 := 207) (n2 := 84208) (st := [.inl x68]) (stN := [.inl x72, .inl x68]) hC [.inl (xi (w32 (v3 + 1)))] (mX9_end q70) lk_L_22 g71 dL_law_254 rfl rfl (Nat.le_of_ble_eq_true rfl) (Nat.le_of_ble_eq_true rfl) (Nat.le_of_ble_eq_true rfl) rfl (Nat.le_of_ble_eq_true rfl) rfl rfl rfl ?_
        refine aw_icmp_eq (tgt := 1112) (pc' := 260) hC dL_law_257 (by decide) rfl (fun c74 => ?_) (fun c74 => ?_)
        · replace h := it_p c74 h
          refine aw_sub hC [some (.inr (.inr (-1))), some (.inr (.inr v1)), some (.inr (.inr v2)), some (.inl v3)] ⟨rfl, ⟨rfl, ⟨rfl, ⟨rfl, trivial⟩⟩⟩⟩ (Nat.le_of_ble_eq_true rfl) ?_
          exact w_L_law_J1112_18 (xi := xi) (L := L) hC h hL hX
        · replace h := it_n c74 h
          cases h
      · replace h := it_n c20 h
        by_cases c21 : (an_ (xi v3) 31) = 2
        · replace h := it_p c21 h
          refine aw_tsIn (tgt := 262) (off := 229) hC dL_law_33 ⟨by omega, by omega, by rw [c21]; rfl⟩ (by decide) ?_
          refine aw_aload_n (pc' := 263) (i := 1) hC dL_law_262 rfl rfl rfl ?_
          obtain ⟨g76, h⟩ := gd_s h
          obtain ⟨⟨x77, M78⟩, q75, h⟩ := pb_s h
          replace h := u2_s h
          refine aw_cV (pc' := 266) (k2 := 207) (n2 := 84208) (st := []) (stN := [.inl x77]) hC [] (mX8_society q75) lk_L_23 g76 dL_law_263 rfl rfl (Nat.le_of_ble_eq_true rfl) (Nat.le_of_ble_eq_true rfl) (Nat.le_of_ble_eq_true rfl) rfl (Nat.le_of_ble_eq_true rfl) rfl rfl rfl ?_
          refine aw_aload_n (pc' := 267) (i := 2) hC dL_law_266 rfl rfl rfl ?_
          obtain ⟨g80, h⟩ := gd_s h
          obtain ⟨⟨x81, M82⟩, q79, h⟩ := pb_s h
          replace h := u2_s h
          refine aw_cV (pc' := 270) (k2 := 207) (n2 := 84208) (st := [.inl x77]) (stN := [.inl x81, .inl x77]) hC [] (mX9_society q79) lk_L_27 g80 dL_law_267 rfl rfl (Nat.le_of_ble_eq_true rfl) (Nat.le_of_ble_eq_true rfl) (Nat.le_of_ble_eq_true rfl) rfl (Nat.le_of_ble_eq_true rfl) rfl rfl rfl ?_
          refine aw_icmp_eq (tgt := 1112) (pc' := 273) hC dL_law_270 (by decide) rfl (fun c83 => ?_) (fun c83 => ?_)
          · replace h := it_p c83 h
            refine aw_sub hC [some (.inr (.inr (-1))), some (.inr (.inr v1)), some (.inr (.inr v2)), some (.inl v3)] ⟨rfl, ⟨rfl, ⟨rfl, ⟨rfl, trivial⟩⟩⟩⟩ (Nat.le_of_ble_eq_true rfl) ?_
            exact w_L_law_J1112_18 (xi := xi) (L := L) hC h hL hX
          · replace h := it_n c83 h
            cases h
        · replace h := it_n c21 h
          by_cases c22 : (an_ (xi v3) 31) = 3
          · replace h := it_p c22 h
            refine aw_tsIn (tgt := 275) (off := 242) hC dL_law_33 ⟨by omega, by omega, by rw [c22]; rfl⟩ (by decide) ?_
            refine aw_aload_n (pc' := 276) (i := 1) hC dL_law_275 rfl rfl rfl ?_
            refine aw_aload_n (pc' := 277) (i := 0) hC dL_law_276 rfl rfl rfl ?_
            refine aw_iload_n (pc' := 278) (i := 3) hC dL_law_277 rfl rfl rfl ?_
            refine aw_iconst (pc' := 279) hC dL_law_278 rfl (by decide) ?_
            refine aw_iadd (pc' := 280) hC dL_law_279 rfl  ?_
            obtain ⟨g84, h⟩ := gd_s h
            refine aw_sld (pc' := 281) hC hxi g84 dL_law_280 rfl ?_
            obtain ⟨g86, h⟩ := gd_s h
            obtain ⟨x87, q85, h⟩ := pb_s h
            replace h := u1_s h
            refine aw_cV (pc' := 284) (k2 := 207) (n2 := 84208) (st := []) (stN := [.inl x87]) hC [.inl (xi (w32 (v3 + 1)))] (mX8_fault q85) lk_L_28 g86 dL_law_281 rfl rfl (Nat.le_of_ble_eq_true rfl) (Nat.le_of_ble_eq_true rfl) (Nat.le_of_ble_eq_true rfl) rfl (Nat.le_of_ble_eq_true rfl) rfl rfl rfl ?_
            refine aw_aload_n (pc' := 285) (i := 2) hC dL_law_284 rfl rfl rfl ?_
            refine aw_aload_n (pc' := 286) (i := 0) hC dL_law_285 rfl rfl rfl ?_
            refine aw_iload_n (pc' := 287) (i := 3) hC dL_law_286 rfl rfl rfl ?_
            refine aw_iconst (pc' := 288) hC dL_law_287 rfl (by decide) ?_
            refine aw_iadd (pc' := 289) hC dL_law_288 rfl  ?_
            refine aw_sld (pc' := 290) hC hxi g84 dL_law_289 rfl ?_
            obtain ⟨g89, h⟩ := gd_s h
            obtain ⟨x90, q88, h⟩ := pb_s h
            replace h := u1_s h
            refine aw_cV (pc' := 293) (k2 := 207) (n2 := 84208) (st := [.inl x87]) (stN := [.inl x90, .inl x87]) hC [.inl (xi (w32 (v3 + 1)))] (mX9_fault q88) lk_L_32 g89 dL_law_290 rfl rfl (Nat.le_of_ble_eq_true rfl) (Nat.le_of_ble_eq_true rfl) (Nat.le_of_ble_eq_true rfl) rfl (Nat.le_of_ble_eq_true rfl) rfl rfl rfl ?_
            refine aw_icmp_eq (tgt := 1112) (pc' := 296) hC dL_law_293 (by decide) rfl (fun c91 => ?_) (fun c91 => ?_)
            · replace h := it_p c91 h
              refine aw_sub hC [some (.inr (.inr (-1))), some (.inr (.inr v1)), some (.inr (.inr v2)), some (.inl v3)] ⟨rfl, ⟨rfl, ⟨rfl, ⟨rfl, trivial⟩⟩⟩⟩ (Nat.le_of_ble_eq_true rfl) ?_
              exact w_L_law_J1112_18 (xi := xi) (L := L) hC h hL hX
            · replace h := it_n c91 h
              cases h
          · replace h := it_n c22 h
            by_cases c23 : (an_ (xi v3) 31) = 4
            · replace h := it_p c23 h
              refine aw_tsIn (tgt := 298) (off := 265) hC dL_law_33 ⟨by omega, by omega, by rw [c23]; rfl⟩ (by decide) ?_
              refine aw_aload_n (pc' := 299) (i := 1) hC dL_law_298 rfl rfl rfl ?_
              refine aw_aload_n (pc' := 300) (i := 0) hC dL_law_299 rfl rfl rfl ?_
              refine aw_iload_n (pc' := 301) (i := 3) hC dL_law_300 rfl rfl rfl ?_
              refine aw_iconst (pc' := 302) hC dL_law_301 rfl (by decide) ?_
              refine aw_iadd (pc' := 303) hC dL_law_302 rfl  ?_
              obtain ⟨g92, h⟩ := gd_s h
              refine aw_sld (pc' := 304) hC hxi g92 dL_law_303 rfl ?_
              obtain ⟨g94, h⟩ := gd_s h
              obtain ⟨x95, q93, h⟩ := pb_s h
              replace h := u1_s h
              refine aw_cV (pc' := 307) (k2 := 207) (n2 := 84208) (st := []) (stN := [.inl x95]) hC [.inl (xi (w32 (v3 + 1)))] (mX8_has q93) lk_L_33 g94 dL_law_304 rfl rfl (Nat.le_of_ble_eq_true rfl) (Nat.le_of_ble_eq_true rfl) (Nat.le_of_ble_eq_true rfl) rfl (Nat.le_of_ble_eq_true rfl) rfl rfl rfl ?_
              refine aw_aload_n (pc' := 308) (i := 2) hC dL_law_307 rfl rfl rfl ?_
              refine aw_aload_n (pc' := 309) (i := 0) hC dL_law_308 rfl rfl rfl ?_
              refine aw_iload_n (pc' := 310) (i := 3) hC dL_law_309 rfl rfl rfl ?_
              refine aw_iconst (pc' := 311) hC dL_law_310 rfl (by decide) ?_
              refine aw_iadd (pc' := 312) hC dL_law_311 rfl  ?_
              refine aw_sld (pc' := 313) hC hxi g92 dL_law_312 rfl ?_
              obtain ⟨g97, h⟩ := gd_s h
              obtain ⟨x98, q96, h⟩ := pb_s h
              replace h := u1_s h
              refine aw_cV (pc' := 316) (k2 := 207) (n2 := 84208) (st := [.inl x95]) (stN := [.inl x98, .inl x95]) hC [.inl (xi (w32 (v3 + 1)))] (mX9_has q96) lk_L_36 g97 dL_law_313 rfl rfl (Nat.le_of_ble_eq_true rfl) (Nat.le_of_ble_eq_true rfl) (Nat.le_of_ble_eq_true rfl) rfl (Nat.le_of_ble_eq_true rfl) rfl rfl rfl ?_
              refine aw_icmp_eq (tgt := 1112) (pc' := 319) hC dL_law_316 (by decide) rfl (fun c99 => ?_) (fun c99 => ?_)
              · replace h := it_p c99 h
                refine aw_sub hC [some (.inr (.inr (-1))), some (.inr (.inr v1)), some (.inr (.inr v2)), some (.inl v3)] ⟨rfl, ⟨rfl, ⟨rfl, ⟨rfl, trivial⟩⟩⟩⟩ (Nat.le_of_ble_eq_true rfl) ?_
                exact w_L_law_J1112_18 (xi := xi) (L := L) hC h hL hX
              · replace h := it_n c99 h
                cases h
            · replace h := it_n c23 h
              by_cases c24 : (an_ (xi v3) 31) = 5
              · replace h := it_p c24 h
                refine aw_tsIn (tgt := 321) (off := 288) hC dL_law_33 ⟨by omega, by omega, by rw [c24]; rfl⟩ (by decide) ?_
                refine aw_aload_n (pc' := 322) (i := 1) hC dL_law_321 rfl rfl rfl ?_
                refine aw_aload_n (pc' := 323) (i := 0) hC dL_law_322 rfl rfl rfl ?_
                refine aw_iload_n (pc' := 324) (i := 3) hC dL_law_323 rfl rfl rfl ?_
                refine aw_iconst (pc' := 325) hC dL_law_324 rfl (by decide) ?_
                refine aw_iadd (pc' := 326) hC dL_law_325 rfl  ?_
                obtain ⟨g100, h⟩ := gd_s h
                refine aw_sld (pc' := 327) hC hxi g100 dL_law_326 rfl ?_
                refine aw_aload_n (pc' := 328) (i := 0) hC dL_law_327 rfl rfl rfl ?_
                refine aw_iload_n (pc' := 329) (i := 3) hC dL_law_328 rfl rfl rfl ?_
                refine aw_iconst (pc' := 330) hC dL_law_329 rfl (by decide) ?_
                refine aw_iadd (pc' := 331) hC dL_law_330 rfl  ?_
                obtain ⟨g101, h⟩ := gd_s h
                refine aw_sld (pc' := 332) hC hxi g101 dL_law_331 rfl ?_
                refine aw_aload_n (pc' := 333) (i := 0) hC dL_law_332 rfl rfl rfl ?_
                refine aw_iload_n (pc' := 334) (i := 3) hC dL_law_333 rfl rfl rfl ?_
                refine aw_iconst (pc' := 335) hC dL_law_334 rfl (by decide) ?_
                refine aw_iadd (pc' := 336) hC dL_law_335 rfl  ?_
                obtain ⟨g102, h⟩ := gd_s h
                refine aw_sld (pc' := 337) hC hxi g102 dL_law_336 rfl ?_
                obtain ⟨g104, h⟩ := gd_s h
                obtain ⟨x105, q103, h⟩ := pb_s h
                replace h := u1_s h
                refine aw_cV (pc' := 340) (k2 := 207) (n2 := 84208) (st := []) (stN := [.inl x105]) hC [.inl (xi (w32 (v3 + 1))), .inl (xi (w32 (v3 + 2))), .inl (xi (w32 (v3 + 3)))] (mX8_letter q103) lk_L_37 g104 dL_law_337 rfl rfl (Nat.le_of_ble_eq_true rfl) (Nat.le_of_ble_eq_true rfl) (Nat.le_of_ble_eq_true rfl) rfl (Nat.le_of_ble_eq_true rfl) rfl rfl rfl ?_
                refine aw_aload_n (pc' := 341) (i := 2) hC dL_law_340 rfl rfl rfl ?_
                refine aw_aload_n (pc' := 342) (i := 0) hC dL_law_341 rfl rfl rfl ?_
                refine aw_iload_n (pc' := 343) (i := 3) hC dL_law_342 rfl rfl rfl ?_
                refine aw_iconst (pc' := 344) hC dL_law_343 rfl (by decide) ?_
                refine aw_iadd (pc' := 345) hC dL_law_344 rfl  ?_
                refine aw_sld (pc' := 346) hC hxi g100 dL_law_345 rfl ?_
                refine aw_aload_n (pc' := 347) (i := 0) hC dL_law_346 rfl rfl rfl ?_
                refine aw_iload_n (pc' := 348) (i := 3) hC dL_law_347 rfl rfl rfl ?_
                refine aw_iconst (pc' := 349) hC dL_law_348 rfl (by decide) ?_
                refine aw_iadd (pc' := 350) hC dL_law_349 rfl  ?_
                refine aw_sld (pc' := 351) hC hxi g101 dL_law_350 rfl ?_
                refine aw_aload_n (pc' := 352) (i := 0) hC dL_law_351 rfl rfl rfl ?_
                refine aw_iload_n (pc' := 353) (i := 3) hC dL_law_352 rfl rfl rfl ?_
                refine aw_iconst (pc' := 354) hC dL_law_353 rfl (by decide) ?_
                refine aw_iadd (pc' := 355) hC dL_law_354 rfl  ?_
                refine aw_sld (pc' := 356) hC hxi g102 dL_law_355 rfl ?_
                obtain ⟨g107, h⟩ := gd_s h
                obtain ⟨x108, q106, h⟩ := pb_s h
                replace h := u1_s h
                refine aw_cV (pc' := 359) (k2 := 207) (n2 := 84208) (st := [.inl x105]) (stN := [.inl x108, .inl x105]) hC [.inl (xi (w32 (v3 + 1))), .inl (xi (w32 (v3 + 2))), .inl (xi (w32 (v3 + 3)))] (mX9_letter q106) lk_L_41 g107 dL_law_356 rfl rfl (Nat.le_of_ble_eq_true rfl) (Nat.le_of_ble_eq_true rfl) (Nat.le_of_ble_eq_true rfl) rfl (Nat.le_of_ble_eq_true rfl) rfl rfl rfl ?_
                refine aw_icmp_eq (tgt := 1112) (pc' := 362) hC dL_law_359 (by decide) rfl (fun c109 => ?_) (fun c109 => ?_)
                · replace h := it_p c109 h
                  refine aw_sub hC [some (.inr (.inr (-1))), some (.inr (.inr v1)), some (.inr (.inr v2)), some (.inl v3)] ⟨rfl, ⟨rfl, ⟨rfl, ⟨rfl, trivial⟩⟩⟩⟩ (Nat.le_of_ble_eq_true rfl) ?_
                  exact w_L_law_J1112_18 (xi := xi) (L := L) hC h hL hX
                · replace h := it_n c109 h
                  cases h
              · replace h := it_n c24 h
                by_cases c25 : (an_ (xi v3) 31) = 6
                · replace h := it_p c25 h
                  refine aw_tsIn (tgt := 364) (off := 331) hC dL_law_33 ⟨by omega, by omega, by rw [c25]; rfl⟩ (by decide) ?_
                  refine aw_aload_n (pc' := 365) (i := 1) hC dL_law_364 rfl rfl rfl ?_
                  refine aw_aload_n (pc' := 366) (i := 0) hC dL_law_365 rfl rfl rfl ?_
                  refine aw_iload_n (pc' := 367) (i := 3) hC dL_law_366 rfl rfl rfl ?_
                  refine aw_iconst (pc' := 368) hC dL_law_367 rfl (by decide) ?_
                  refine aw_iadd (pc' := 369) hC dL_law_368 rfl  ?_
                  obtain ⟨g110, h⟩ := gd_s h
                  refine aw_sld (pc' := 370) hC hxi g110 dL_law_369 rfl ?_
                  refine aw_aload_n (pc' := 371) (i := 0) hC dL_law_370 rfl rfl rfl ?_
                  refine aw_iload_n (pc' := 372) (i := 3) hC dL_law_371 rfl rfl rfl ?_
                  refine aw_iconst (pc' := 373) hC dL_law_372 rfl (by decide) ?_
                  refine aw_iadd (pc' := 374) hC dL_law_373 rfl  ?_
                  obtain ⟨g111, h⟩ := gd_s h
                  refine aw_sld (pc' := 375) hC hxi g111 dL_law_374 rfl ?_
                  obtain ⟨g113, h⟩ := gd_s h
                  obtain ⟨x114, q112, h⟩ := pb_s h
                  replace h := u1_s h
                  refine aw_cV (pc' := 378) (k2 := 207) (n2 := 84208) (st := []) (stN := [.inl x114]) hC [.inl (xi (w32 (v3 + 1))), .inl (xi (w32 (v3 + 2)))] (mX8_person q112) lk_L_42 g113 dL_law_375 rfl rfl (Nat.le_of_ble_eq_true rfl) (Nat.le_of_ble_eq_true rfl) (Nat.le_of_ble_eq_true rfl) rfl (Nat.le_of_ble_eq_true rfl) rfl rfl rfl ?_
                  refine aw_aload_n (pc' := 379) (i := 2) hC dL_law_378 rfl rfl rfl ?_
                  refine aw_aload_n (pc' := 380) (i := 0) hC dL_law_379 rfl rfl rfl ?_
                  refine aw_iload_n (pc' := 381) (i := 3) hC dL_law_380 rfl rfl rfl ?_
                  refine aw_iconst (pc' := 382) hC dL_law_381 rfl (by decide) ?_
                  refine aw_iadd (pc' := 383) hC dL_law_382 rfl  ?_
                  refine aw_sld (pc' := 384) hC hxi g110 dL_law_383 rfl ?_
                  refine aw_aload_n (pc' := 385) (i := 0) hC dL_law_384 rfl rfl rfl ?_
                  refine aw_iload_n (pc' := 386) (i := 3) hC dL_law_385 rfl rfl rfl ?_
                  refine aw_iconst (pc' := 387) hC dL_law_386 rfl (by decide) ?_
                  refine aw_iadd (pc' := 388) hC dL_law_387 rfl  ?_
                  refine aw_sld (pc' := 389) hC hxi g111 dL_law_388 rfl ?_
                  obtain ⟨g116, h⟩ := gd_s h
                  obtain ⟨x117, q115, h⟩ := pb_s h
                  replace h := u1_s h
                  refine aw_cV (pc' := 392) (k2 := 207) (n2 := 84208) (st := [.inl x114]) (stN := [.inl x117, .inl x114]) hC [.inl (xi (w32 (v3 + 1))), .inl (xi (w32 (v3 + 2)))] (mX9_person q115) lk_L_46 g116 dL_law_389 rfl rfl (Nat.le_of_ble_eq_true rfl) (Nat.le_of_ble_eq_true rfl) (Nat.le_of_ble_eq_true rfl) rfl (Nat.le_of_ble_eq_true rfl) rfl rfl rfl ?_
                  refine aw_icmp_eq (tgt := 1112) (pc' := 395) hC dL_law_392 (by decide) rfl (fun c118 => ?_) (fun c118 => ?_)
                  · replace h := it_p c118 h
                    refine aw_sub hC [some (.inr (.inr (-1))), some (.inr (.inr v1)), some (.inr (.inr v2)), some (.inl v3)] ⟨rfl, ⟨rfl, ⟨rfl, ⟨rfl, trivial⟩⟩⟩⟩ (Nat.le_of_ble_eq_true rfl) ?_
                    exact w_L_law_J1112_18 (xi := xi) (L := L) hC h hL hX
                  · replace h := it_n c118 h
                    cases h
                · replace h := it_n c25 h
                  by_cases c26 : (an_ (xi v3) 31) = 7
                  · replace h := it_p c26 h
                    refine aw_tsIn (tgt := 397) (off := 364) hC dL_law_33 ⟨by omega, by omega, by rw [c26]; rfl⟩ (by decide) ?_
                    refine aw_aload_n (pc' := 398) (i := 1) hC dL_law_397 rfl rfl rfl ?_
                    refine aw_aload_n (pc' := 399) (i := 0) hC dL_law_398 rfl rfl rfl ?_
                    refine aw_iload_n (pc' := 400) (i := 3) hC dL_law_399 rfl rfl rfl ?_
                    refine aw_iconst (pc' := 401) hC dL_law_400 rfl (by decide) ?_
                    refine aw_iadd (pc' := 402) hC dL_law_401 rfl  ?_
                    obtain ⟨g119, h⟩ := gd_s h
                    refine aw_sld (pc' := 403) hC hxi g119 dL_law_402 rfl ?_
                    refine aw_aload_n (pc' := 404) (i := 0) hC dL_law_403 rfl rfl rfl ?_
                    refine aw_iload_n (pc' := 405) (i := 3) hC dL_law_404 rfl rfl rfl ?_
                    refine aw_iconst (pc' := 406) hC dL_law_405 rfl (by decide) ?_
                    refine aw_iadd (pc' := 407) hC dL_law_406 rfl  ?_
                    obtain ⟨g120, h⟩ := gd_s h
                    refine aw_sld (pc' := 408) hC hxi g120 dL_law_407 rfl ?_
                    obtain ⟨g122, h⟩ := gd_s h
                    obtain ⟨x123, q121, h⟩ := pb_s h
                    replace h := u1_s h
                    refine aw_cV (pc' := 411) (k2 := 207) (n2 := 84208) (st := []) (stN := [.inl x123]) hC [.inl (xi (w32 (v3 + 1))), .inl (xi (w32 (v3 + 2)))] (mX8_coin q121) lk_L_47 g122 dL_law_408 rfl rfl (Nat.le_of_ble_eq_true rfl) (Nat.le_of_ble_eq_true rfl) (Nat.le_of_ble_eq_true rfl) rfl (Nat.le_of_ble_eq_true rfl) rfl rfl rfl ?_
                    refine aw_aload_n (pc' := 412) (i := 2) hC dL_law_411 rfl rfl rfl ?_
                    refine aw_aload_n (pc' := 413) (i := 0) hC dL_law_412 rfl rfl rfl ?_
                    refine aw_iload_n (pc' := 414) (i := 3) hC dL_law_413 rfl rfl rfl ?_
                    refine aw_iconst (pc' := 415) hC dL_law_414 rfl (by decide) ?_
                    refine aw_iadd (pc' := 416) hC dL_law_415 rfl  ?_
                    refine aw_sld (pc' := 417) hC hxi g119 dL_law_416 rfl ?_
                    refine aw_aload_n (pc' := 418) (i := 0) hC dL_law_417 rfl rfl rfl ?_
                    refine aw_iload_n (pc' := 419) (i := 3) hC dL_law_418 rfl rfl rfl ?_
                    refine aw_iconst (pc' := 420) hC dL_law_419 rfl (by decide) ?_
                    refine aw_iadd (pc' := 421) hC dL_law_420 rfl  ?_
                    refine aw_sld (pc' := 422) hC hxi g120 dL_law_421 rfl ?_
                    obtain ⟨g125, h⟩ := gd_s h
                    obtain ⟨x126, q124, h⟩ := pb_s h
                    replace h := u1_s h
                    refine aw_cV (pc' := 425) (k2 := 207) (n2 := 84208) (st := [.inl x123]) (stN := [.inl x126, .inl x123]) hC [.inl (xi (w32 (v3 + 1))), .inl (xi (w32 (v3 + 2)))] (mX9_coin q124) lk_L_50 g125 dL_law_422 rfl rfl (Nat.le_of_ble_eq_true rfl) (Nat.le_of_ble_eq_true rfl) (Nat.le_of_ble_eq_true rfl) rfl (Nat.le_of_ble_eq_true rfl) rfl rfl rfl ?_
                    refine aw_icmp_eq (tgt := 1112) (pc' := 428) hC dL_law_425 (by decide) rfl (fun c127 => ?_) (fun c127 => ?_)
                    · replace h := it_p c127 h
                      refine aw_sub hC [some (.inr (.inr (-1))), some (.inr (.inr v1)), some (.inr (.inr v2)), some (.inl v3)] ⟨rfl, ⟨rfl, ⟨rfl, ⟨rfl, trivial⟩⟩⟩⟩ (Nat.le_of_ble_eq_true rfl) ?_
                      exact w_L_law_J1112_18 (xi := xi) (L := L) hC h hL hX
                    · replace h := it_n c127 h
                      cases h
                  · replace h := it_n c26 h
                    by_cases c27 : (an_ (xi v3) 31) = 8
                    · replace h := it_p c27 h
                      refine aw_tsIn (tgt := 430) (off := 397) hC dL_law_33 ⟨by omega, by omega, by rw [c27]; rfl⟩ (by decide) ?_
                      refine aw_aload_n (pc' := 431) (i := 1) hC dL_law_430 rfl rfl rfl ?_
                      refine aw_aload_n (pc' := 432) (i := 0) hC dL_law_431 rfl rfl rfl ?_
                      refine aw_iload_n (pc' := 433) (i := 3) hC dL_law_432 rfl rfl rfl ?_
                      refine aw_iconst (pc' := 434) hC dL_law_433 rfl (by decide) ?_
                      refine aw_iadd (pc' := 435) hC dL_law_434 rfl  ?_
                      obtain ⟨g128, h⟩ := gd_s h
                      refine aw_sld (pc' := 436) hC hxi g128 dL_law_435 rfl ?_
                      refine aw_aload_n (pc' := 437) (i := 0) hC dL_law_436 rfl rfl rfl ?_
                      refine aw_iload_n (pc' := 438) (i := 3) hC dL_law_437 rfl rfl rfl ?_
                      refine aw_iconst (pc' := 439) hC dL_law_438 rfl (by decide) ?_
                      refine aw_iadd (pc' := 440) hC dL_law_439 rfl  ?_
                      obtain ⟨g129, h⟩ := gd_s h
                      refine aw_sld (pc' := 441) hC hxi g129 dL_law_440 rfl ?_
                      obtain ⟨g131, h⟩ := gd_s h
                      obtain ⟨x132, q130, h⟩ := pb_s h
                      replace h := u1_s h
                      refine aw_cV (pc' := 444) (k2 := 207) (n2 := 84208) (st := []) (stN := [.inl x132]) hC [.inl (xi (w32 (v3 + 1))), .inl (xi (w32 (v3 + 2)))] (mX8_met q130) lk_L_51 g131 dL_law_441 rfl rfl (Nat.le_of_ble_eq_true rfl) (Nat.le_of_ble_eq_true rfl) (Nat.le_of_ble_eq_true rfl) rfl (Nat.le_of_ble_eq_true rfl) rfl rfl rfl ?_
                      refine aw_aload_n (pc' := 445) (i := 2) hC dL_law_444 rfl rfl rfl ?_
                      refine aw_aload_n (pc' := 446) (i := 0) hC dL_law_445 rfl rfl rfl ?_
                      refine aw_iload_n (pc' := 447) (i := 3) hC dL_law_446 rfl rfl rfl ?_
                      refine aw_iconst (pc' := 448) hC dL_law_447 rfl (by decide) ?_
                      refine aw_iadd (pc' := 449) hC dL_law_448 rfl  ?_
                      refine aw_sld (pc' := 450) hC hxi g128 dL_law_449 rfl ?_
                      refine aw_aload_n (pc' := 451) (i := 0) hC dL_law_450 rfl rfl rfl ?_
                      refine aw_iload_n (pc' := 452) (i := 3) hC dL_law_451 rfl rfl rfl ?_
                      refine aw_iconst (pc' := 453) hC dL_law_452 rfl (by decide) ?_
                      refine aw_iadd (pc' := 454) hC dL_law_453 rfl  ?_
                      refine aw_sld (pc' := 455) hC hxi g129 dL_law_454 rfl ?_
                      obtain ⟨g134, h⟩ := gd_s h
                      obtain ⟨x135, q133, h⟩ := pb_s h
                      replace h := u1_s h
                      refine aw_cV (pc' := 458) (k2 := 207) (n2 := 84208) (st := [.inl x132]) (stN := [.inl x135, .inl x132]) hC [.inl (xi (w32 (v3 + 1))), .inl (xi (w32 (v3 + 2)))] (mX9_met q133) lk_L_54 g134 dL_law_455 rfl rfl (Nat.le_of_ble_eq_true rfl) (Nat.le_of_ble_eq_true rfl) (Nat.le_of_ble_eq_true rfl) rfl (Nat.le_of_ble_eq_true rfl) rfl rfl rfl ?_
                      refine aw_icmp_eq (tgt := 1112) (pc' := 461) hC dL_law_458 (by decide) rfl (fun c136 => ?_) (fun c136 => ?_)
                      · replace h := it_p c136 h
                        refine aw_sub hC [some (.inr (.inr (-1))), some (.inr (.inr v1)), some (.inr (.inr v2)), some (.inl v3)] ⟨rfl, ⟨rfl, ⟨rfl, ⟨rfl, trivial⟩⟩⟩⟩ (Nat.le_of_ble_eq_true rfl) ?_
                        exact w_L_law_J1112_18 (xi := xi) (L := L) hC h hL hX
                      · replace h := it_n c136 h
                        cases h
                    · replace h := it_n c27 h
                      by_cases c28 : (an_ (xi v3) 31) = 9
                      · replace h := it_p c28 h
                        refine aw_tsIn (tgt := 463) (off := 430) hC dL_law_33 ⟨by omega, by omega, by rw [c28]; rfl⟩ (by decide) ?_
                        refine aw_aload_n (pc' := 464) (i := 1) hC dL_law_463 rfl rfl rfl ?_
                        refine aw_aload_n (pc' := 465) (i := 0) hC dL_law_464 rfl rfl rfl ?_
                        refine aw_iload_n (pc' := 466) (i := 3) hC dL_law_465 rfl rfl rfl ?_
                        refine aw_iconst (pc' := 467) hC dL_law_466 rfl (by decide) ?_
                        refine aw_iadd (pc' := 468) hC dL_law_467 rfl  ?_
                        obtain ⟨g137, h⟩ := gd_s h
                        refine aw_sld (pc' := 469) hC hxi g137 dL_law_468 rfl ?_
                        refine aw_aload_n (pc' := 470) (i := 0) hC dL_law_469 rfl rfl rfl ?_
                        refine aw_iload_n (pc' := 471) (i := 3) hC dL_law_470 rfl rfl rfl ?_
                        refine aw_iconst (pc' := 472) hC dL_law_471 rfl (by decide) ?_
                        refine aw_iadd (pc' := 473) hC dL_law_472 rfl  ?_
                        obtain ⟨g138, h⟩ := gd_s h
                        refine aw_sld (pc' := 474) hC hxi g138 dL_law_473 rfl ?_
                        obtain ⟨g140, h⟩ := gd_s h
                        obtain ⟨⟨x141, M142⟩, q139, h⟩ := pb_s h
                        replace h := u2_s h
                        refine aw_cV (pc' := 477) (k2 := 207) (n2 := 84208) (st := []) (stN := [.inl x141]) hC [.inl (xi (w32 (v3 + 1))), .inl (xi (w32 (v3 + 2)))] (mX8_may q139) lk_L_55 g140 dL_law_474 rfl rfl (Nat.le_of_ble_eq_true rfl) (Nat.le_of_ble_eq_true rfl) (Nat.le_of_ble_eq_true rfl) rfl (Nat.le_of_ble_eq_true rfl) rfl rfl rfl ?_
                        refine aw_aload_n (pc' := 478) (i := 2) hC dL_law_477 rfl rfl rfl ?_
                        refine aw_aload_n (pc' := 479) (i := 0) hC dL_law_478 rfl rfl rfl ?_
                        refine aw_iload_n (pc' := 480) (i := 3) hC dL_law_479 rfl rfl rfl ?_
                        refine aw_iconst (pc' := 481) hC dL_law_480 rfl (by decide) ?_
                        refine aw_iadd (pc' := 482) hC dL_law_481 rfl  ?_
                        refine aw_sld (pc' := 483) hC hxi g137 dL_law_482 rfl ?_
                        refine aw_aload_n (pc' := 484) (i := 0) hC dL_law_483 rfl rfl rfl ?_
                        refine aw_iload_n (pc' := 485) (i := 3) hC dL_law_484 rfl rfl rfl ?_
                        refine aw_iconst (pc' := 486) hC dL_law_485 rfl (by decide) ?_
                        refine aw_iadd (pc' := 487) hC dL_law_486 rfl  ?_
                        refine aw_sld (pc' := 488) hC hxi g138 dL_law_487 rfl ?_
                        obtain ⟨g144, h⟩ := gd_s h
                        obtain ⟨⟨x145, M146⟩, q143, h⟩ := pb_s h
                        replace h := u2_s h
                        refine aw_cV (pc' := 491) (k2 := 207) (n2 := 84208) (st := [.inl x141]) (stN := [.inl x145, .inl x141]) hC [.inl (xi (w32 (v3 + 1))), .inl (xi (w32 (v3 + 2)))] (mX9_may q143) lk_L_58 g144 dL_law_488 rfl rfl (Nat.le_of_ble_eq_true rfl) (Nat.le_of_ble_eq_true rfl) (Nat.le_of_ble_eq_true rfl) rfl (Nat.le_of_ble_eq_true rfl) rfl rfl rfl ?_
                        refine aw_icmp_eq (tgt := 1112) (pc' := 494) hC dL_law_491 (by decide) rfl (fun c147 => ?_) (fun c147 => ?_)
                        · replace h := it_p c147 h
                          refine aw_sub hC [some (.inr (.inr (-1))), some (.inr (.inr v1)), some (.inr (.inr v2)), some (.inl v3)] ⟨rfl, ⟨rfl, ⟨rfl, ⟨rfl, trivial⟩⟩⟩⟩ (Nat.le_of_ble_eq_true rfl) ?_
                          exact w_L_law_J1112_18 (xi := xi) (L := L) hC h hL hX
                        · replace h := it_n c147 h
                          cases h
                      · replace h := it_n c28 h
                        by_cases c29 : (an_ (xi v3) 31) = 10
                        · replace h := it_p c29 h
                          refine aw_tsIn (tgt := 496) (off := 463) hC dL_law_33 ⟨by omega, by omega, by rw [c29]; rfl⟩ (by decide) ?_
                          refine aw_aload_n (pc' := 497) (i := 1) hC dL_law_496 rfl rfl rfl ?_
                          refine aw_aload_n (pc' := 498) (i := 0) hC dL_law_497 rfl rfl rfl ?_
                          refine aw_iload_n (pc' := 499) (i := 3) hC dL_law_498 rfl rfl rfl ?_
                          refine aw_iconst (pc' := 500) hC dL_law_499 rfl (by decide) ?_
                          refine aw_iadd (pc' := 501) hC dL_law_500 rfl  ?_
                          obtain ⟨g148, h⟩ := gd_s h
                          refine aw_sld (pc' := 502) hC hxi g148 dL_law_501 rfl ?_
                          refine aw_aload_n (pc' := 503) (i := 0) hC dL_law_502 rfl rfl rfl ?_
                          refine aw_iload_n (pc' := 504) (i := 3) hC dL_law_503 rfl rfl rfl ?_
                          refine aw_iconst (pc' := 505) hC dL_law_504 rfl (by decide) ?_
                          refine aw_iadd (pc' := 506) hC dL_law_505 rfl  ?_
                          obtain ⟨g149, h⟩ := gd_s h
                          refine aw_sld (pc' := 507) hC hxi g149 dL_law_506 rfl ?_
                          refine aw_aload_n (pc' := 508) (i := 0) hC dL_law_507 rfl rfl rfl ?_
                          refine aw_iload_n (pc' := 509) (i := 3) hC dL_law_508 rfl rfl rfl ?_
                          refine aw_iconst (pc' := 510) hC dL_law_509 rfl (by decide) ?_
                          refine aw_iadd (pc' := 511) hC dL_law_510 rfl  ?_
                          obtain ⟨g150, h⟩ := gd_s h
                          refine aw_sld (pc' := 512) hC hxi g150 dL_law_511 rfl ?_
                          obtain ⟨g152, h⟩ := gd_s h
                          obtain ⟨⟨x153, M154⟩, q151, h⟩ := pb_s h
                          replace h := u2_s h
                          refine aw_cV (pc' := 515) (k2 := 207) (n2 := 84208) (st := []) (stN := [.inl x153]) hC [.inl (xi (w32 (v3 + 1))), .inl (xi (w32 (v3 + 2))), .inl (xi (w32 (v3 + 3)))] (mX8_goods q151) lk_L_59 g152 dL_law_512 rfl rfl (Nat.le_of_ble_eq_true rfl) (Nat.le_of_ble_eq_true rfl) (Nat.le_of_ble_eq_true rfl) rfl (Nat.le_of_ble_eq_true rfl) rfl rfl rfl ?_
                          refine aw_aload_n (pc' := 516) (i := 2) hC dL_law_515 rfl rfl rfl ?_
                          refine aw_aload_n (pc' := 517) (i := 0) hC dL_law_516 rfl rfl rfl ?_
                          refine aw_iload_n (pc' := 518) (i := 3) hC dL_law_517 rfl rfl rfl ?_
                          refine aw_iconst (pc' := 519) hC dL_law_518 rfl (by decide) ?_
                          refine aw_iadd (pc' := 520) hC dL_law_519 rfl  ?_
                          refine aw_sld (pc' := 521) hC hxi g148 dL_law_520 rfl ?_
                          refine aw_aload_n (pc' := 522) (i := 0) hC dL_law_521 rfl rfl rfl ?_
                          refine aw_iload_n (pc' := 523) (i := 3) hC dL_law_522 rfl rfl rfl ?_
                          refine aw_iconst (pc' := 524) hC dL_law_523 rfl (by decide) ?_
                          refine aw_iadd (pc' := 525) hC dL_law_524 rfl  ?_
                          refine aw_sld (pc' := 526) hC hxi g149 dL_law_525 rfl ?_
                          refine aw_aload_n (pc' := 527) (i := 0) hC dL_law_526 rfl rfl rfl ?_
                          refine aw_iload_n (pc' := 528) (i := 3) hC dL_law_527 rfl rfl rfl ?_
                          refine aw_iconst (pc' := 529) hC dL_law_528 rfl (by decide) ?_
                          refine aw_iadd (pc' := 530) hC dL_law_529 rfl  ?_
                          refine aw_sld (pc' := 531) hC hxi g150 dL_law_530 rfl ?_
                          obtain ⟨g156, h⟩ := gd_s h
                          obtain ⟨⟨x157, M158⟩, q155, h⟩ := pb_s h
                          replace h := u2_s h
                          refine aw_cV (pc' := 534) (k2 := 207) (n2 := 84208) (st := [.inl x153]) (stN := [.inl x157, .inl x153]) hC [.inl (xi (w32 (v3 + 1))), .inl (xi (w32 (v3 + 2))), .inl (xi (w32 (v3 + 3)))] (mX9_goods q155) lk_L_62 g156 dL_law_531 rfl rfl (Nat.le_of_ble_eq_true rfl) (Nat.le_of_ble_eq_true rfl) (Nat.le_of_ble_eq_true rfl) rfl (Nat.le_of_ble_eq_true rfl) rfl rfl rfl ?_
                          refine aw_icmp_eq (tgt := 1112) (pc' := 537) hC dL_law_534 (by decide) rfl (fun c159 => ?_) (fun c159 => ?_)
                          · replace h := it_p c159 h
                            refine aw_sub hC [some (.inr (.inr (-1))), some (.inr (.inr v1)), some (.inr (.inr v2)), some (.inl v3)] ⟨rfl, ⟨rfl, ⟨rfl, ⟨rfl, trivial⟩⟩⟩⟩ (Nat.le_of_ble_eq_true rfl) ?_
                            exact w_L_law_J1112_18 (xi := xi) (L := L) hC h hL hX
                          · replace h := it_n c159 h
                            cases h
                        · replace h := it_n c29 h
                          by_cases c30 : (an_ (xi v3) 31) = 11
                          · replace h := it_p c30 h
                            refine aw_tsIn (tgt := 539) (off := 506) hC dL_law_33 ⟨by omega, by omega, by rw [c30]; rfl⟩ (by decide) ?_
                            refine aw_aload_n (pc' := 540) (i := 1) hC dL_law_539 rfl rfl rfl ?_
                            refine aw_aload_n (pc' := 541) (i := 0) hC dL_law_540 rfl rfl rfl ?_
                            refine aw_iload_n (pc' := 542) (i := 3) hC dL_law_541 rfl rfl rfl ?_
                            refine aw_iconst (pc' := 543) hC dL_law_542 rfl (by decide) ?_
                            refine aw_iadd (pc' := 544) hC dL_law_543 rfl  ?_
                            obtain ⟨g160, h⟩ := gd_s h
                            refine aw_sld (pc' := 545) hC hxi g160 dL_law_544 rfl ?_
                            refine aw_aload_n (pc' := 546) (i := 0) hC dL_law_545 rfl rfl rfl ?_
                            refine aw_iload_n (pc' := 547) (i := 3) hC dL_law_546 rfl rfl rfl ?_
                            refine aw_iconst (pc' := 548) hC dL_law_547 rfl (by decide) ?_
                            refine aw_iadd (pc' := 549) hC dL_law_548 rfl  ?_
                            obtain ⟨g161, h⟩ := gd_s h
                            refine aw_sld (pc' := 550) hC hxi g161 dL_law_549 rfl ?_
                            obtain ⟨g163, h⟩ := gd_s h
                            obtain ⟨x164, q162, h⟩ := pb_s h
                            replace h := u1_s h
                            refine aw_cV (pc' := 553) (k2 := 207) (n2 := 84208) (st := []) (stN := [.inl x164]) hC [.inl (xi (w32 (v3 + 1))), .inl (xi (w32 (v3 + 2)))] (mX8_spend q162) lk_L_63 g163 dL_law_550 rfl rfl (Nat.le_of_ble_eq_true rfl) (Nat.le_of_ble_eq_true rfl) (Nat.le_of_ble_eq_true rfl) rfl (Nat.le_of_ble_eq_true rfl) rfl rfl rfl ?_
                            refine aw_aload_n (pc' := 554) (i := 2) hC dL_law_553 rfl rfl rfl ?_
                            refine aw_aload_n (pc' := 555) (i := 0) hC dL_law_554 rfl rfl rfl ?_
                            refine aw_iload_n (pc' := 556) (i := 3) hC dL_law_555 rfl rfl rfl ?_
                            refine aw_iconst (pc' := 557) hC dL_law_556 rfl (by decide) ?_
                            refine aw_iadd (pc' := 558) hC dL_law_557 rfl  ?_
                            refine aw_sld (pc' := 559) hC hxi g160 dL_law_558 rfl ?_
                            refine aw_aload_n (pc' := 560) (i := 0) hC dL_law_559 rfl rfl rfl ?_
                            refine aw_iload_n (pc' := 561) (i := 3) hC dL_law_560 rfl rfl rfl ?_
                            refine aw_iconst (pc' := 562) hC dL_law_561 rfl (by decide) ?_
                            refine aw_iadd (pc' := 563) hC dL_law_562 rfl  ?_
                            refine aw_sld (pc' := 564) hC hxi g161 dL_law_563 rfl ?_
                            obtain ⟨g166, h⟩ := gd_s h
                            obtain ⟨x167, q165, h⟩ := pb_s h
                            replace h := u1_s h
                            refine aw_cV (pc' := 567) (k2 := 207) (n2 := 84208) (st := [.inl x164]) (stN := [.inl x167, .inl x164]) hC [.inl (xi (w32 (v3 + 1))), .inl (xi (w32 (v3 + 2)))] (mX9_spend q165) lk_L_66 g166 dL_law_564 rfl rfl (Nat.le_of_ble_eq_true rfl) (Nat.le_of_ble_eq_true rfl) (Nat.le_of_ble_eq_true rfl) rfl (Nat.le_of_ble_eq_true rfl) rfl rfl rfl ?_
                            refine aw_icmp_eq (tgt := 1112) (pc' := 570) hC dL_law_567 (by decide) rfl (fun c168 => ?_) (fun c168 => ?_)
                            · replace h := it_p c168 h
                              refine aw_sub hC [some (.inr (.inr (-1))), some (.inr (.inr v1)), some (.inr (.inr v2)), some (.inl v3)] ⟨rfl, ⟨rfl, ⟨rfl, ⟨rfl, trivial⟩⟩⟩⟩ (Nat.le_of_ble_eq_true rfl) ?_
                              exact w_L_law_J1112_18 (xi := xi) (L := L) hC h hL hX
                            · replace h := it_n c168 h
                              cases h
                          · replace h := it_n c30 h
                            by_cases c31 : (an_ (xi v3) 31) = 12
                            · replace h := it_p c31 h
                              refine aw_tsIn (tgt := 572) (off := 539) hC dL_law_33 ⟨by omega, by omega, by rw [c31]; rfl⟩ (by decide) ?_
                              refine aw_aload_n (pc' := 573) (i := 1) hC dL_law_572 rfl rfl rfl ?_
                              refine aw_aload_n (pc' := 574) (i := 0) hC dL_law_573 rfl rfl rfl ?_
                              refine aw_iload_n (pc' := 575) (i := 3) hC dL_law_574 rfl rfl rfl ?_
                              refine aw_iconst (pc' := 576) hC dL_law_575 rfl (by decide) ?_
                              refine aw_iadd (pc' := 577) hC dL_law_576 rfl  ?_
                              obtain ⟨g169, h⟩ := gd_s h
                              refine aw_sld (pc' := 578) hC hxi g169 dL_law_577 rfl ?_
                              refine aw_aload_n (pc' := 579) (i := 0) hC dL_law_578 rfl rfl rfl ?_
                              refine aw_iload_n (pc' := 580) (i := 3) hC dL_law_579 rfl rfl rfl ?_
                              refine aw_iconst (pc' := 581) hC dL_law_580 rfl (by decide) ?_
                              refine aw_iadd (pc' := 582) hC dL_law_581 rfl  ?_
                              obtain ⟨g170, h⟩ := gd_s h
                              refine aw_sld (pc' := 583) hC hxi g170 dL_law_582 rfl ?_
                              obtain ⟨g172, h⟩ := gd_s h
                              obtain ⟨⟨x173, M174⟩, q171, h⟩ := pb_s h
                              replace h := u2_s h
                              refine aw_cV (pc' := 586) (k2 := 207) (n2 := 84208) (st := []) (stN := [.inl x173]) hC [.inl (xi (w32 (v3 + 1))), .inl (xi (w32 (v3 + 2)))] (mX8_present q171) lk_L_67 g172 dL_law_583 rfl rfl (Nat.le_of_ble_eq_true rfl) (Nat.le_of_ble_eq_true rfl) (Nat.le_of_ble_eq_true rfl) rfl (Nat.le_of_ble_eq_true rfl) rfl rfl rfl ?_
                              refine aw_aload_n (pc' := 587) (i := 2) hC dL_law_586 rfl rfl rfl ?_
                              refine aw_aload_n (pc' := 588) (i := 0) hC dL_law_587 rfl rfl rfl ?_
                              refine aw_iload_n (pc' := 589) (i := 3) hC dL_law_588 rfl rfl rfl ?_
                              refine aw_iconst (pc' := 590) hC dL_law_589 rfl (by decide) ?_
                              refine aw_iadd (pc' := 591) hC dL_law_590 rfl  ?_
                              refine aw_sld (pc' := 592) hC hxi g169 dL_law_591 rfl ?_
                              refine aw_aload_n (pc' := 593) (i := 0) hC dL_law_592 rfl rfl rfl ?_
                              refine aw_iload_n (pc' := 594) (i := 3) hC dL_law_593 rfl rfl rfl ?_
                              refine aw_iconst (pc' := 595) hC dL_law_594 rfl (by decide) ?_
                              refine aw_iadd (pc' := 596) hC dL_law_595 rfl  ?_
                              refine aw_sld (pc' := 597) hC hxi g170 dL_law_596 rfl ?_
                              obtain ⟨g176, h⟩ := gd_s h
                              obtain ⟨⟨x177, M178⟩, q175, h⟩ := pb_s h
                              replace h := u2_s h
                              refine aw_cV (pc' := 600) (k2 := 207) (n2 := 84208) (st := [.inl x173]) (stN := [.inl x177, .inl x173]) hC [.inl (xi (w32 (v3 + 1))), .inl (xi (w32 (v3 + 2)))] (mX9_present q175) lk_L_70 g176 dL_law_597 rfl rfl (Nat.le_of_ble_eq_true rfl) (Nat.le_of_ble_eq_true rfl) (Nat.le_of_ble_eq_true rfl) rfl (Nat.le_of_ble_eq_true rfl) rfl rfl rfl ?_
                              refine aw_icmp_eq (tgt := 1112) (pc' := 603) hC dL_law_600 (by decide) rfl (fun c179 => ?_) (fun c179 => ?_)
                              · replace h := it_p c179 h
                                refine aw_sub hC [some (.inr (.inr (-1))), some (.inr (.inr v1)), some (.inr (.inr v2)), some (.inl v3)] ⟨rfl, ⟨rfl, ⟨rfl, ⟨rfl, trivial⟩⟩⟩⟩ (Nat.le_of_ble_eq_true rfl) ?_
                                exact w_L_law_J1112_18 (xi := xi) (L := L) hC h hL hX
                              · replace h := it_n c179 h
                                cases h
                            · replace h := it_n c31 h
                              by_cases c32 : (an_ (xi v3) 31) = 13
                              · replace h := it_p c32 h
                                refine aw_tsIn (tgt := 605) (off := 572) hC dL_law_33 ⟨by omega, by omega, by rw [c32]; rfl⟩ (by decide) ?_
                                refine aw_aload_n (pc' := 606) (i := 1) hC dL_law_605 rfl rfl rfl ?_
                                refine aw_aload_n (pc' := 607) (i := 0) hC dL_law_606 rfl rfl rfl ?_
                                refine aw_iload_n (pc' := 608) (i := 3) hC dL_law_607 rfl rfl rfl ?_
                                refine aw_iconst (pc' := 609) hC dL_law_608 rfl (by decide) ?_
                                refine aw_iadd (pc' := 610) hC dL_law_609 rfl  ?_
                                obtain ⟨g180, h⟩ := gd_s h
                                refine aw_sld (pc' := 611) hC hxi g180 dL_law_610 rfl ?_
                                refine aw_aload_n (pc' := 612) (i := 0) hC dL_law_611 rfl rfl rfl ?_
                                refine aw_iload_n (pc' := 613) (i := 3) hC dL_law_612 rfl rfl rfl ?_
                                refine aw_iconst (pc' := 614) hC dL_law_613 rfl (by decide) ?_
                                refine aw_iadd (pc' := 615) hC dL_law_614 rfl  ?_
                                obtain ⟨g181, h⟩ := gd_s h
                                refine aw_sld (pc' := 616) hC hxi g181 dL_law_615 rfl ?_
                                obtain ⟨g183, h⟩ := gd_s h
                                obtain ⟨⟨x184, M185⟩, q182, h⟩ := pb_s h
                                replace h := u2_s h
                                refine aw_cV (pc' := 619) (k2 := 207) (n2 := 84208) (st := []) (stN := [.inl x184]) hC [.inl (xi (w32 (v3 + 1))), .inl (xi (w32 (v3 + 2)))] (mX8_pay q182) lk_L_71 g183 dL_law_616 rfl rfl (Nat.le_of_ble_eq_true rfl) (Nat.le_of_ble_eq_true rfl) (Nat.le_of_ble_eq_true rfl) rfl (Nat.le_of_ble_eq_true rfl) rfl rfl rfl ?_
                                refine aw_aload_n (pc' := 620) (i := 2) hC dL_law_619 rfl rfl rfl ?_
                                refine aw_aload_n (pc' := 621) (i := 0) hC dL_law_620 rfl rfl rfl ?_
                                refine aw_iload_n (pc' := 622) (i := 3) hC dL_law_621 rfl rfl rfl ?_
                                refine aw_iconst (pc' := 623) hC dL_law_622 rfl (by decide) ?_
                                refine aw_iadd (pc' := 624) hC dL_law_623 rfl  ?_
                                refine aw_sld (pc' := 625) hC hxi g180 dL_law_624 rfl ?_
                                refine aw_aload_n (pc' := 626) (i := 0) hC dL_law_625 rfl rfl rfl ?_
                                refine aw_iload_n (pc' := 627) (i := 3) hC dL_law_626 rfl rfl rfl ?_
                                refine aw_iconst (pc' := 628) hC dL_law_627 rfl (by decide) ?_
                                refine aw_iadd (pc' := 629) hC dL_law_628 rfl  ?_
                                refine aw_sld (pc' := 630) hC hxi g181 dL_law_629 rfl ?_
                                obtain ⟨g187, h⟩ := gd_s h
                                obtain ⟨⟨x188, M189⟩, q186, h⟩ := pb_s h
                                replace h := u2_s h
                                refine aw_cV (pc' := 633) (k2 := 207) (n2 := 84208) (st := [.inl x184]) (stN := [.inl x188, .inl x184]) hC [.inl (xi (w32 (v3 + 1))), .inl (xi (w32 (v3 + 2)))] (mX9_pay q186) lk_L_75 g187 dL_law_630 rfl rfl (Nat.le_of_ble_eq_true rfl) (Nat.le_of_ble_eq_true rfl) (Nat.le_of_ble_eq_true rfl) rfl (Nat.le_of_ble_eq_true rfl) rfl rfl rfl ?_
                                refine aw_icmp_eq (tgt := 1112) (pc' := 636) hC dL_law_633 (by decide) rfl (fun c190 => ?_) (fun c190 => ?_)
                                · replace h := it_p c190 h
                                  refine aw_sub hC [some (.inr (.inr (-1))), some (.inr (.inr v1)), some (.inr (.inr v2)), some (.inl v3)] ⟨rfl, ⟨rfl, ⟨rfl, ⟨rfl, trivial⟩⟩⟩⟩ (Nat.le_of_ble_eq_true rfl) ?_
                                  exact w_L_law_J1112_18 (xi := xi) (L := L) hC h hL hX
                                · replace h := it_n c190 h
                                  cases h
                              · replace h := it_n c32 h
                                by_cases c33 : (an_ (xi v3) 31) = 14
                                · replace h := it_p c33 h
                                  refine aw_tsIn (tgt := 638) (off := 605) hC dL_law_33 ⟨by omega, by omega, by rw [c33]; rfl⟩ (by decide) ?_
                                  refine aw_aload_n (pc' := 639) (i := 1) hC dL_law_638 rfl rfl rfl ?_
                                  refine aw_aload_n (pc' := 640) (i := 0) hC dL_law_639 rfl rfl rfl ?_
                                  refine aw_iload_n (pc' := 641) (i := 3) hC dL_law_640 rfl rfl rfl ?_
                                  refine aw_iconst (pc' := 642) hC dL_law_641 rfl (by decide) ?_
                                  refine aw_iadd (pc' := 643) hC dL_law_642 rfl  ?_
                                  obtain ⟨g191, h⟩ := gd_s h
                                  refine aw_sld (pc' := 644) hC hxi g191 dL_law_643 rfl ?_
                                  refine aw_aload_n (pc' := 645) (i := 0) hC dL_law_644 rfl rfl rfl ?_
                                  refine aw_iload_n (pc' := 646) (i := 3) hC dL_law_645 rfl rfl rfl ?_
                                  refine aw_iconst (pc' := 647) hC dL_law_646 rfl (by decide) ?_
                                  refine aw_iadd (pc' := 648) hC dL_law_647 rfl  ?_
                                  obtain ⟨g192, h⟩ := gd_s h
                                  refine aw_sld (pc' := 649) hC hxi g192 dL_law_648 rfl ?_
                                  refine aw_aload_n (pc' := 650) (i := 0) hC dL_law_649 rfl rfl rfl ?_
                                  refine aw_iload_n (pc' := 651) (i := 3) hC dL_law_650 rfl rfl rfl ?_
                                  refine aw_iconst (pc' := 652) hC dL_law_651 rfl (by decide) ?_
                                  refine aw_iadd (pc' := 653) hC dL_law_652 rfl  ?_
                                  obtain ⟨g193, h⟩ := gd_s h
                                  refine aw_sld (pc' := 654) hC hxi g193 dL_law_653 rfl ?_
                                  obtain ⟨g195, h⟩ := gd_s h
                                  obtain ⟨⟨x196, M197⟩, q194, h⟩ := pb_s h
                                  replace h := u2_s h
                                  refine aw_cV (pc' := 657) (k2 := 207) (n2 := 84208) (st := []) (stN := [.inl x196]) hC [.inl (xi (w32 (v3 + 1))), .inl (xi (w32 (v3 + 2))), .inl (xi (w32 (v3 + 3)))] (mX8_buy q194) lk_L_76 g195 dL_law_654 rfl rfl (Nat.le_of_ble_eq_true rfl) (Nat.le_of_ble_eq_true rfl) (Nat.le_of_ble_eq_true rfl) rfl (Nat.le_of_ble_eq_true rfl) rfl rfl rfl ?_
                                  refine aw_aload_n (pc' := 658) (i := 2) hC dL_law_657 rfl rfl rfl ?_
                                  refine aw_aload_n (pc' := 659) (i := 0) hC dL_law_658 rfl rfl rfl ?_
                                  refine aw_iload_n (pc' := 660) (i := 3) hC dL_law_659 rfl rfl rfl ?_
                                  refine aw_iconst (pc' := 661) hC dL_law_660 rfl (by decide) ?_
                                  refine aw_iadd (pc' := 662) hC dL_law_661 rfl  ?_
                                  refine aw_sld (pc' := 663) hC hxi g191 dL_law_662 rfl ?_
                                  refine aw_aload_n (pc' := 664) (i := 0) hC dL_law_663 rfl rfl rfl ?_
                                  refine aw_iload_n (pc' := 665) (i := 3) hC dL_law_664 rfl rfl rfl ?_
                                  refine aw_iconst (pc' := 666) hC dL_law_665 rfl (by decide) ?_
                                  refine aw_iadd (pc' := 667) hC dL_law_666 rfl  ?_
                                  refine aw_sld (pc' := 668) hC hxi g192 dL_law_667 rfl ?_
                                  refine aw_aload_n (pc' := 669) (i := 0) hC dL_law_668 rfl rfl rfl ?_
                                  refine aw_iload_n (pc' := 670) (i := 3) hC dL_law_669 rfl rfl rfl ?_
                                  refine aw_iconst (pc' := 671) hC dL_law_670 rfl (by decide) ?_
                                  refine aw_iadd (pc' := 672) hC dL_law_671 rfl  ?_
                                  refine aw_sld (pc' := 673) hC hxi g193 dL_law_672 rfl ?_
                                  obtain ⟨g199, h⟩ := gd_s h
                                  obtain ⟨⟨x200, M201⟩, q198, h⟩ := pb_s h
                                  replace h := u2_s h
                                  refine aw_cV (pc' := 676) (k2 := 207) (n2 := 84208) (st := [.inl x196]) (stN := [.inl x200, .inl x196]) hC [.inl (xi (w32 (v3 + 1))), .inl (xi (w32 (v3 + 2))), .inl (xi (w32 (v3 + 3)))] (mX9_buy q198) lk_L_79 g199 dL_law_673 rfl rfl (Nat.le_of_ble_eq_true rfl) (Nat.le_of_ble_eq_true rfl) (Nat.le_of_ble_eq_true rfl) rfl (Nat.le_of_ble_eq_true rfl) rfl rfl rfl ?_
                                  refine aw_icmp_eq (tgt := 1112) (pc' := 679) hC dL_law_676 (by decide) rfl (fun c202 => ?_) (fun c202 => ?_)
                                  · replace h := it_p c202 h
                                    refine aw_sub hC [some (.inr (.inr (-1))), some (.inr (.inr v1)), some (.inr (.inr v2)), some (.inl v3)] ⟨rfl, ⟨rfl, ⟨rfl, ⟨rfl, trivial⟩⟩⟩⟩ (Nat.le_of_ble_eq_true rfl) ?_
                                    exact w_L_law_J1112_18 (xi := xi) (L := L) hC h hL hX
                                  · replace h := it_n c202 h
                                    cases h
                                · replace h := it_n c33 h
                                  by_cases c34 : (an_ (xi v3) 31) = 15
                                  · replace h := it_p c34 h
                                    refine aw_tsIn (tgt := 681) (off := 648) hC dL_law_33 ⟨by omega, by omega, by rw [c34]; rfl⟩ (by decide) ?_
                                    refine aw_aload_n (pc' := 682) (i := 1) hC dL_law_681 rfl rfl rfl ?_
                                    refine aw_aload_n (pc' := 683) (i := 0) hC dL_law_682 rfl rfl rfl ?_
                                    refine aw_iload_n (pc' := 684) (i := 3) hC dL_law_683 rfl rfl rfl ?_
                                    refine aw_iconst (pc' := 685) hC dL_law_684 rfl (by decide) ?_
                                    refine aw_iadd (pc' := 686) hC dL_law_685 rfl  ?_
                                    obtain ⟨g203, h⟩ := gd_s h
                                    refine aw_sld (pc' := 687) hC hxi g203 dL_law_686 rfl ?_
                                    obtain ⟨g205, h⟩ := gd_s h
                                    obtain ⟨⟨x206, M207⟩, q204, h⟩ := pb_s h
                                    replace h := u2_s h
                                    refine aw_cV (pc' := 690) (k2 := 207) (n2 := 84208) (st := []) (stN := [.inl x206]) hC [.inl (xi (w32 (v3 + 1)))] (mX8_tea q204) lk_L_80 g205 dL_law_687 rfl rfl (Nat.le_of_ble_eq_true rfl) (Nat.le_of_ble_eq_true rfl) (Nat.le_of_ble_eq_true rfl) rfl (Nat.le_of_ble_eq_true rfl) rfl rfl rfl ?_
                                    refine aw_aload_n (pc' := 691) (i := 2) hC dL_law_690 rfl rfl rfl ?_
                                    refine aw_aload_n (pc' := 692) (i := 0) hC dL_law_691 rfl rfl rfl ?_
                                    refine aw_iload_n (pc' := 693) (i := 3) hC dL_law_692 rfl rfl rfl ?_
                                    refine aw_iconst (pc' := 694) hC dL_law_693 rfl (by decide) ?_
                                    refine aw_iadd (pc' := 695) hC dL_law_694 rfl  ?_
                                    refine aw_sld (pc' := 696) hC hxi g203 dL_law_695 rfl ?_
                                    obtain ⟨g209, h⟩ := gd_s h
                                    obtain ⟨⟨x210, M211⟩, q208, h⟩ := pb_s h
                                    replace h := u2_s h
                                    refine aw_cV (pc' := 699) (k2 := 207) (n2 := 84208) (st := [.inl x206]) (stN := [.inl x210, .inl x206]) hC [.inl (xi (w32 (v3 + 1)))] (mX9_tea q208) lk_L_83 g209 dL_law_696 rfl rfl (Nat.le_of_ble_eq_true rfl) (Nat.le_of_ble_eq_true rfl) (Nat.le_of_ble_eq_true rfl) rfl (Nat.le_of_ble_eq_true rfl) rfl rfl rfl ?_
                                    refine aw_icmp_eq (tgt := 1112) (pc' := 702) hC dL_law_699 (by decide) rfl (fun c212 => ?_) (fun c212 => ?_)
                                    · replace h := it_p c212 h
                                      refine aw_sub hC [some (.inr (.inr (-1))), some (.inr (.inr v1)), some (.inr (.inr v2)), some (.inl v3)] ⟨rfl, ⟨rfl, ⟨rfl, ⟨rfl, trivial⟩⟩⟩⟩ (Nat.le_of_ble_eq_true rfl) ?_
                                      exact w_L_law_J1112_18 (xi := xi) (L := L) hC h hL hX
                                    · replace h := it_n c212 h
                                      cases h
                                  · replace h := it_n c34 h
                                    by_cases c35 : (an_ (xi v3) 31) = 16
                                    · replace h := it_p c35 h
                                      refine aw_tsIn (tgt := 704) (off := 671) hC dL_law_33 ⟨by omega, by omega, by rw [c35]; rfl⟩ (by decide) ?_
                                      refine aw_aload_n (pc' := 705) (i := 1) hC dL_law_704 rfl rfl rfl ?_
                                      refine aw_aload_n (pc' := 706) (i := 0) hC dL_law_705 rfl rfl rfl ?_
                                      refine aw_iload_n (pc' := 707) (i := 3) hC dL_law_706 rfl rfl rfl ?_
                                      refine aw_iconst (pc' := 708) hC dL_law_707 rfl (by decide) ?_
                                      refine aw_iadd (pc' := 709) hC dL_law_708 rfl  ?_
                                      obtain ⟨g213, h⟩ := gd_s h
                                      refine aw_sld (pc' := 710) hC hxi g213 dL_law_709 rfl ?_
                                      obtain ⟨g215, h⟩ := gd_s h
                                      obtain ⟨⟨x216, M217⟩, q214, h⟩ := pb_s h
                                      replace h := u2_s h
                                      refine aw_cV (pc' := 713) (k2 := 207) (n2 := 84208) (st := []) (stN := [.inl x216]) hC [.inl (xi (w32 (v3 + 1)))] (mX8_days q214) lk_L_84 g215 dL_law_710 rfl rfl (Nat.le_of_ble_eq_true rfl) (Nat.le_of_ble_eq_true rfl) (Nat.le_of_ble_eq_true rfl) rfl (Nat.le_of_ble_eq_true rfl) rfl rfl rfl ?_
                                      refine aw_aload_n (pc' := 714) (i := 2) hC dL_law_713 rfl rfl rfl ?_
                                      refine aw_aload_n (pc' := 715) (i := 0) hC dL_law_714 rfl rfl rfl ?_
                                      refine aw_iload_n (pc' := 716) (i := 3) hC dL_law_715 rfl rfl rfl ?_
                                      refine aw_iconst (pc' := 717) hC dL_law_716 rfl (by decide) ?_
                                      refine aw_iadd (pc' := 718) hC dL_law_717 rfl  ?_
                                      refine aw_sld (pc' := 719) hC hxi g213 dL_law_718 rfl ?_
                                      obtain ⟨g219, h⟩ := gd_s h
                                      obtain ⟨⟨x220, M221⟩, q218, h⟩ := pb_s h
                                      replace h := u2_s h
                                      refine aw_cV (pc' := 722) (k2 := 207) (n2 := 84208) (st := [.inl x216]) (stN := [.inl x220, .inl x216]) hC [.inl (xi (w32 (v3 + 1)))] (mX9_days q218) lk_L_87 g219 dL_law_719 rfl rfl (Nat.le_of_ble_eq_true rfl) (Nat.le_of_ble_eq_true rfl) (Nat.le_of_ble_eq_true rfl) rfl (Nat.le_of_ble_eq_true rfl) rfl rfl rfl ?_
                                      refine aw_icmp_eq (tgt := 1112) (pc' := 725) hC dL_law_722 (by decide) rfl (fun c222 => ?_) (fun c222 => ?_)
                                      · replace h := it_p c222 h
                                        refine aw_sub hC [some (.inr (.inr (-1))), some (.inr (.inr v1)), some (.inr (.inr v2)), some (.inl v3)] ⟨rfl, ⟨rfl, ⟨rfl, ⟨rfl, trivial⟩⟩⟩⟩ (Nat.le_of_ble_eq_true rfl) ?_
                                        exact w_L_law_J1112_18 (xi := xi) (L := L) hC h hL hX
                                      · replace h := it_n c222 h
                                        cases h
                                    · replace h := it_n c35 h
                                      by_cases c36 : (an_ (xi v3) 31) = 17
                                      · replace h := it_p c36 h
                                        refine aw_tsIn (tgt := 727) (off := 694) hC dL_law_33 ⟨by omega, by omega, by rw [c36]; rfl⟩ (by decide) ?_
                                        refine aw_aload_n (pc' := 728) (i := 1) hC dL_law_727 rfl rfl rfl ?_
                                        refine aw_aload_n (pc' := 729) (i := 0) hC dL_law_728 rfl rfl rfl ?_
                                        refine aw_iload_n (pc' := 730) (i := 3) hC dL_law_729 rfl rfl rfl ?_
                                        refine aw_iconst (pc' := 731) hC dL_law_730 rfl (by decide) ?_
                                        refine aw_iadd (pc' := 732) hC dL_law_731 rfl  ?_
                                        obtain ⟨g223, h⟩ := gd_s h
                                        refine aw_sld (pc' := 733) hC hxi g223 dL_law_732 rfl ?_
                                        obtain ⟨g225, h⟩ := gd_s h
                                        obtain ⟨⟨x226, M227⟩, q224, h⟩ := pb_s h
                                        replace h := u2_s h
                                        refine aw_cV (pc' := 736) (k2 := 207) (n2 := 84208) (st := []) (stN := [.inl x226]) hC [.inl (xi (w32 (v3 + 1)))] (mX8_calls q224) lk_L_88 g225 dL_law_733 rfl rfl (Nat.le_of_ble_eq_true rfl) (Nat.le_of_ble_eq_true rfl) (Nat.le_of_ble_eq_true rfl) rfl (Nat.le_of_ble_eq_true rfl) rfl rfl rfl ?_
                                        refine aw_aload_n (pc' := 737) (i := 2) hC dL_law_736 rfl rfl rfl ?_
                                        refine aw_aload_n (pc' := 738) (i := 0) hC dL_law_737 rfl rfl rfl ?_
                                        refine aw_iload_n (pc' := 739) (i := 3) hC dL_law_738 rfl rfl rfl ?_
                                        refine aw_iconst (pc' := 740) hC dL_law_739 rfl (by decide) ?_
                                        refine aw_iadd (pc' := 741) hC dL_law_740 rfl  ?_
                                        refine aw_sld (pc' := 742) hC hxi g223 dL_law_741 rfl ?_
                                        obtain ⟨g229, h⟩ := gd_s h
                                        obtain ⟨⟨x230, M231⟩, q228, h⟩ := pb_s h
                                        replace h := u2_s h
                                        refine aw_cV (pc' := 745) (k2 := 207) (n2 := 84208) (st := [.inl x226]) (stN := [.inl x230, .inl x226]) hC [.inl (xi (w32 (v3 + 1)))] (mX9_calls q228) lk_L_91 g229 dL_law_742 rfl rfl (Nat.le_of_ble_eq_true rfl) (Nat.le_of_ble_eq_true rfl) (Nat.le_of_ble_eq_true rfl) rfl (Nat.le_of_ble_eq_true rfl) rfl rfl rfl ?_
                                        refine aw_icmp_eq (tgt := 1112) (pc' := 748) hC dL_law_745 (by decide) rfl (fun c232 => ?_) (fun c232 => ?_)
                                        · replace h := it_p c232 h
                                          refine aw_sub hC [some (.inr (.inr (-1))), some (.inr (.inr v1)), some (.inr (.inr v2)), some (.inl v3)] ⟨rfl, ⟨rfl, ⟨rfl, ⟨rfl, trivial⟩⟩⟩⟩ (Nat.le_of_ble_eq_true rfl) ?_
                                          exact w_L_law_J1112_18 (xi := xi) (L := L) hC h hL hX
                                        · replace h := it_n c232 h
                                          cases h
                                      · replace h := it_n c36 h
                                        by_cases c37 : (an_ (xi v3) 31) = 18
                                        · replace h := it_p c37 h
                                          refine aw_tsIn (tgt := 750) (off := 717) hC dL_law_33 ⟨by omega, by omega, by rw [c37]; rfl⟩ (by decide) ?_
                                          refine aw_aload_n (pc' := 751) (i := 1) hC dL_law_750 rfl rfl rfl ?_
                                          obtain ⟨g234, h⟩ := gd_s h
                                          obtain ⟨⟨x235, M236⟩, q233, h⟩ := pb_s h
                                          replace h := u2_s h
                                          refine aw_cV (pc' := 754) (k2 := 207) (n2 := 84208) (st := []) (stN := [.inl x235]) hC [] (mX8_undo q233) lk_L_92 g234 dL_law_751 rfl rfl (Nat.le_of_ble_eq_true rfl) (Nat.le_of_ble_eq_true rfl) (Nat.le_of_ble_eq_true rfl) rfl (Nat.le_of_ble_eq_true rfl) rfl rfl rfl ?_
                                          refine aw_aload_n (pc' := 755) (i := 2) hC dL_law_754 rfl rfl rfl ?_
                                          obtain ⟨g238, h⟩ := gd_s h
                                          obtain ⟨⟨x239, M240⟩, q237, h⟩ := pb_s h
                                          replace h := u2_s h
                                          refine aw_cV (pc' := 758) (k2 := 207) (n2 := 84208) (st := [.inl x235]) (stN := [.inl x239, .inl x235]) hC [] (mX9_undo q237) lk_L_96 g238 dL_law_755 rfl rfl (Nat.le_of_ble_eq_true rfl) (Nat.le_of_ble_eq_true rfl) (Nat.le_of_ble_eq_true rfl) rfl (Nat.le_of_ble_eq_true rfl) rfl rfl rfl ?_
                                          refine aw_icmp_eq (tgt := 1112) (pc' := 761) hC dL_law_758 (by decide) rfl (fun c241 => ?_) (fun c241 => ?_)
                                          · replace h := it_p c241 h
                                            refine aw_sub hC [some (.inr (.inr (-1))), some (.inr (.inr v1)), some (.inr (.inr v2)), some (.inl v3)] ⟨rfl, ⟨rfl, ⟨rfl, ⟨rfl, trivial⟩⟩⟩⟩ (Nat.le_of_ble_eq_true rfl) ?_
                                            exact w_L_law_J1112_18 (xi := xi) (L := L) hC h hL hX
                                          · replace h := it_n c241 h
                                            cases h
                                        · replace h := it_n c37 h
                                          by_cases c38 : (an_ (xi v3) 31) = 19
                                          · replace h := it_p c38 h
                                            refine aw_tsIn (tgt := 763) (off := 730) hC dL_law_33 ⟨by omega, by omega, by rw [c38]; rfl⟩ (by decide) ?_
                                            refine aw_aload_n (pc' := 764) (i := 1) hC dL_law_763 rfl rfl rfl ?_
                                            refine aw_aload_n (pc' := 765) (i := 0) hC dL_law_764 rfl rfl rfl ?_
                                            refine aw_iload_n (pc' := 766) (i := 3) hC dL_law_765 rfl rfl rfl ?_
                                            refine aw_iconst (pc' := 767) hC dL_law_766 rfl (by decide) ?_
                                            refine aw_iadd (pc' := 768) hC dL_law_767 rfl  ?_
                                            obtain ⟨g242, h⟩ := gd_s h
                                            refine aw_sld (pc' := 769) hC hxi g242 dL_law_768 rfl ?_
                                            obtain ⟨g244, h⟩ := gd_s h
                                            obtain ⟨⟨x245, M246⟩, q243, h⟩ := pb_s h
                                            replace h := u2_s h
                                            refine aw_cV (pc' := 772) (k2 := 207) (n2 := 84208) (st := []) (stN := [.inl x245]) hC [.inl (xi (w32 (v3 + 1)))] (mX8_seed q243) lk_L_97 g244 dL_law_769 rfl rfl (Nat.le_of_ble_eq_true rfl) (Nat.le_of_ble_eq_true rfl) (Nat.le_of_ble_eq_true rfl) rfl (Nat.le_of_ble_eq_true rfl) rfl rfl rfl ?_
                                            refine aw_aload_n (pc' := 773) (i := 2) hC dL_law_772 rfl rfl rfl ?_
                                            refine aw_aload_n (pc' := 774) (i := 0) hC dL_law_773 rfl rfl rfl ?_
                                            refine aw_iload_n (pc' := 775) (i := 3) hC dL_law_774 rfl rfl rfl ?_
                                            refine aw_iconst (pc' := 776) hC dL_law_775 rfl (by decide) ?_
                                            refine aw_iadd (pc' := 777) hC dL_law_776 rfl  ?_
                                            refine aw_sld (pc' := 778) hC hxi g242 dL_law_777 rfl ?_
                                            obtain ⟨g248, h⟩ := gd_s h
                                            obtain ⟨⟨x249, M250⟩, q247, h⟩ := pb_s h
                                            replace h := u2_s h
                                            refine aw_cV (pc' := 781) (k2 := 207) (n2 := 84208) (st := [.inl x245]) (stN := [.inl x249, .inl x245]) hC [.inl (xi (w32 (v3 + 1)))] (mX9_seed q247) lk_L_100 g248 dL_law_778 rfl rfl (Nat.le_of_ble_eq_true rfl) (Nat.le_of_ble_eq_true rfl) (Nat.le_of_ble_eq_true rfl) rfl (Nat.le_of_ble_eq_true rfl) rfl rfl rfl ?_
                                            refine aw_icmp_eq (tgt := 1112) (pc' := 784) hC dL_law_781 (by decide) rfl (fun c251 => ?_) (fun c251 => ?_)
                                            · replace h := it_p c251 h
                                              refine aw_sub hC [some (.inr (.inr (-1))), some (.inr (.inr v1)), some (.inr (.inr v2)), some (.inl v3)] ⟨rfl, ⟨rfl, ⟨rfl, ⟨rfl, trivial⟩⟩⟩⟩ (Nat.le_of_ble_eq_true rfl) ?_
                                              exact w_L_law_J1112_18 (xi := xi) (L := L) hC h hL hX
                                            · replace h := it_n c251 h
                                              cases h
                                          · replace h := it_n c38 h
                                            by_cases c39 : (an_ (xi v3) 31) = 20
                                            · replace h := it_p c39 h
                                              refine aw_tsIn (tgt := 786) (off := 753) hC dL_law_33 ⟨by omega, by omega, by rw [c39]; rfl⟩ (by decide) ?_
                                              refine aw_aload_n (pc' := 787) (i := 1) hC dL_law_786 rfl rfl rfl ?_
                                              refine aw_aload_n (pc' := 788) (i := 0) hC dL_law_787 rfl rfl rfl ?_
                                              refine aw_iload_n (pc' := 789) (i := 3) hC dL_law_788 rfl rfl rfl ?_
                                              refine aw_iconst (pc' := 790) hC dL_law_789 rfl (by decide) ?_
                                              refine aw_iadd (pc' := 791) hC dL_law_790 rfl  ?_
                                              obtain ⟨g252, h⟩ := gd_s h
                                              refine aw_sld (pc' := 792) hC hxi g252 dL_law_791 rfl ?_
                                              refine aw_aload_n (pc' := 793) (i := 0) hC dL_law_792 rfl rfl rfl ?_
                                              refine aw_iload_n (pc' := 794) (i := 3) hC dL_law_793 rfl rfl rfl ?_
                                              refine aw_iconst (pc' := 795) hC dL_law_794 rfl (by decide) ?_
                                              refine aw_iadd (pc' := 796) hC dL_law_795 rfl  ?_
                                              obtain ⟨g253, h⟩ := gd_s h
                                              refine aw_sld (pc' := 797) hC hxi g253 dL_law_796 rfl ?_
                                              refine aw_aload_n (pc' := 798) (i := 0) hC dL_law_797 rfl rfl rfl ?_
                                              refine aw_iload_n (pc' := 799) (i := 3) hC dL_law_798 rfl rfl rfl ?_
                                              refine aw_iconst (pc' := 800) hC dL_law_799 rfl (by decide) ?_
                                              refine aw_iadd (pc' := 801) hC dL_law_800 rfl  ?_
                                              obtain ⟨g254, h⟩ := gd_s h
                                              refine aw_sld (pc' := 802) hC hxi g254 dL_law_801 rfl ?_
                                              refine aw_aload_n (pc' := 803) (i := 0) hC dL_law_802 rfl rfl rfl ?_
                                              refine aw_iload_n (pc' := 804) (i := 3) hC dL_law_803 rfl rfl rfl ?_
                                              refine aw_iconst (pc' := 805) hC dL_law_804 rfl (by decide) ?_
                                              refine aw_iadd (pc' := 806) hC dL_law_805 rfl  ?_
                                              obtain ⟨g255, h⟩ := gd_s h
                                              refine aw_sld (pc' := 807) hC hxi g255 dL_law_806 rfl ?_
                                              obtain ⟨g257, h⟩ := gd_s h
                                              obtain ⟨⟨x258, M259⟩, q256, h⟩ := pb_s h
                                              replace h := u2_s h
                                              refine aw_cV (pc' := 810) (k2 := 207) (n2 := 84208) (st := []) (stN := [.inl x258]) hC [.inl (xi (w32 (v3 + 1))), .inl (xi (w32 (v3 + 2))), .inl (xi (w32 (v3 + 3))), .inl (xi (w32 (v3 + 4)))] (mX8_introduce q256) lk_L_101 g257 dL_law_807 rfl rfl (Nat.le_of_ble_eq_true rfl) (Nat.le_of_ble_eq_true rfl) (Nat.le_of_ble_eq_true rfl) rfl (Nat.le_of_ble_eq_true rfl) rfl rfl rfl ?_
                                              refine aw_aload_n (pc' := 811) (i := 2) hC dL_law_810 rfl rfl rfl ?_
                                              refine aw_aload_n (pc' := 812) (i := 0) hC dL_law_811 rfl rfl rfl ?_
                                              refine aw_iload_n (pc' := 813) (i := 3) hC dL_law_812 rfl rfl rfl ?_
                                              refine aw_iconst (pc' := 814) hC dL_law_813 rfl (by decide) ?_
                                              refine aw_iadd (pc' := 815) hC dL_law_814 rfl  ?_
                                              refine aw_sld (pc' := 816) hC hxi g252 dL_law_815 rfl ?_
                                              refine aw_aload_n (pc' := 817) (i := 0) hC dL_law_816 rfl rfl rfl ?_
                                              refine aw_iload_n (pc' := 818) (i := 3) hC dL_law_817 rfl rfl rfl ?_
                                              refine aw_iconst (pc' := 819) hC dL_law_818 rfl (by decide) ?_
                                              refine aw_iadd (pc' := 820) hC dL_law_819 rfl  ?_
                                              refine aw_sld (pc' := 821) hC hxi g253 dL_law_820 rfl ?_
                                              refine aw_aload_n (pc' := 822) (i := 0) hC dL_law_821 rfl rfl rfl ?_
                                              refine aw_iload_n (pc' := 823) (i := 3) hC dL_law_822 rfl rfl rfl ?_
                                              refine aw_iconst (pc' := 824) hC dL_law_823 rfl (by decide) ?_
                                              refine aw_iadd (pc' := 825) hC dL_law_824 rfl  ?_
                                              refine aw_sld (pc' := 826) hC hxi g254 dL_law_825 rfl ?_
                                              refine aw_aload_n (pc' := 827) (i := 0) hC dL_law_826 rfl rfl rfl ?_
                                              refine aw_iload_n (pc' := 828) (i := 3) hC dL_law_827 rfl rfl rfl ?_
                                              refine aw_iconst (pc' := 829) hC dL_law_828 rfl (by decide) ?_
                                              refine aw_iadd (pc' := 830) hC dL_law_829 rfl  ?_
                                              refine aw_sld (pc' := 831) hC hxi g255 dL_law_830 rfl ?_
                                              obtain ⟨g261, h⟩ := gd_s h
                                              obtain ⟨⟨x262, M263⟩, q260, h⟩ := pb_s h
                                              replace h := u2_s h
                                              refine aw_cV (pc' := 834) (k2 := 207) (n2 := 84208) (st := [.inl x258]) (stN := [.inl x262, .inl x258]) hC [.inl (xi (w32 (v3 + 1))), .inl (xi (w32 (v3 + 2))), .inl (xi (w32 (v3 + 3))), .inl (xi (w32 (v3 + 4)))] (mX9_introduce q260) lk_L_105 g261 dL_law_831 rfl rfl (Nat.le_of_ble_eq_true rfl) (Nat.le_of_ble_eq_true rfl) (Nat.le_of_ble_eq_true rfl) rfl (Nat.le_of_ble_eq_true rfl) rfl rfl rfl ?_
                                              refine aw_icmp_eq (tgt := 1112) (pc' := 837) hC dL_law_834 (by decide) rfl (fun c264 => ?_) (fun c264 => ?_)
                                              · replace h := it_p c264 h
                                                refine aw_sub hC [some (.inr (.inr (-1))), some (.inr (.inr v1)), some (.inr (.inr v2)), some (.inl v3)] ⟨rfl, ⟨rfl, ⟨rfl, ⟨rfl, trivial⟩⟩⟩⟩ (Nat.le_of_ble_eq_true rfl) ?_
                                                exact w_L_law_J1112_18 (xi := xi) (L := L) hC h hL hX
                                              · replace h := it_n c264 h
                                                cases h
                                            · replace h := it_n c39 h
                                              by_cases c40 : (an_ (xi v3) 31) = 21
                                              · replace h := it_p c40 h
                                                refine aw_tsIn (tgt := 839) (off := 806) hC dL_law_33 ⟨by omega, by omega, by rw [c40]; rfl⟩ (by decide) ?_
                                                refine aw_aload_n (pc' := 840) (i := 1) hC dL_law_839 rfl rfl rfl ?_
                                                refine aw_aload_n (pc' := 841) (i := 0) hC dL_law_840 rfl rfl rfl ?_
                                                refine aw_iload_n (pc' := 842) (i := 3) hC dL_law_841 rfl rfl rfl ?_
                                                refine aw_iconst (pc' := 843) hC dL_law_842 rfl (by decide) ?_
                                                refine aw_iadd (pc' := 844) hC dL_law_843 rfl  ?_
                                                obtain ⟨g265, h⟩ := gd_s h
                                                refine aw_sld (pc' := 845) hC hxi g265 dL_law_844 rfl ?_
                                                refine aw_aload_n (pc' := 846) (i := 0) hC dL_law_845 rfl rfl rfl ?_
                                                refine aw_iload_n (pc' := 847) (i := 3) hC dL_law_846 rfl rfl rfl ?_
                                                refine aw_iconst (pc' := 848) hC dL_law_847 rfl (by decide) ?_
                                                refine aw_iadd (pc' := 849) hC dL_law_848 rfl  ?_
                                                obtain ⟨g266, h⟩ := gd_s h
                                                refine aw_sld (pc' := 850) hC hxi g266 dL_law_849 rfl ?_
                                                refine aw_aload_n (pc' := 851) (i := 0) hC dL_law_850 rfl rfl rfl ?_
                                                refine aw_iload_n (pc' := 852) (i := 3) hC dL_law_851 rfl rfl rfl ?_
                                                refine aw_iconst (pc' := 853) hC dL_law_852 rfl (by decide) ?_
                                                refine aw_iadd (pc' := 854) hC dL_law_853 rfl  ?_
                                                obtain ⟨g267, h⟩ := gd_s h
                                                refine aw_sld (pc' := 855) hC hxi g267 dL_law_854 rfl ?_
                                                obtain ⟨g269, h⟩ := gd_s h
                                                obtain ⟨⟨x270, M271⟩, q268, h⟩ := pb_s h
                                                replace h := u2_s h
                                                refine aw_cV (pc' := 858) (k2 := 207) (n2 := 84208) (st := []) (stN := [.inl x270]) hC [.inl (xi (w32 (v3 + 1))), .inl (xi (w32 (v3 + 2))), .inl (xi (w32 (v3 + 3)))] (mX8_comes q268) lk_L_106 g269 dL_law_855 rfl rfl (Nat.le_of_ble_eq_true rfl) (Nat.le_of_ble_eq_true rfl) (Nat.le_of_ble_eq_true rfl) rfl (Nat.le_of_ble_eq_true rfl) rfl rfl rfl ?_
                                                refine aw_aload_n (pc' := 859) (i := 2) hC dL_law_858 rfl rfl rfl ?_
                                                refine aw_aload_n (pc' := 860) (i := 0) hC dL_law_859 rfl rfl rfl ?_
                                                refine aw_iload_n (pc' := 861) (i := 3) hC dL_law_860 rfl rfl rfl ?_
                                                refine aw_iconst (pc' := 862) hC dL_law_861 rfl (by decide) ?_
                                                refine aw_iadd (pc' := 863) hC dL_law_862 rfl  ?_
                                                refine aw_sld (pc' := 864) hC hxi g265 dL_law_863 rfl ?_
                                                refine aw_aload_n (pc' := 865) (i := 0) hC dL_law_864 rfl rfl rfl ?_
                                                refine aw_iload_n (pc' := 866) (i := 3) hC dL_law_865 rfl rfl rfl ?_
                                                refine aw_iconst (pc' := 867) hC dL_law_866 rfl (by decide) ?_
                                                refine aw_iadd (pc' := 868) hC dL_law_867 rfl  ?_
                                                refine aw_sld (pc' := 869) hC hxi g266 dL_law_868 rfl ?_
                                                refine aw_aload_n (pc' := 870) (i := 0) hC dL_law_869 rfl rfl rfl ?_
                                                refine aw_iload_n (pc' := 871) (i := 3) hC dL_law_870 rfl rfl rfl ?_
                                                refine aw_iconst (pc' := 872) hC dL_law_871 rfl (by decide) ?_
                                                refine aw_iadd (pc' := 873) hC dL_law_872 rfl  ?_
                                                refine aw_sld (pc' := 874) hC hxi g267 dL_law_873 rfl ?_
                                                obtain ⟨g273, h⟩ := gd_s h
                                                obtain ⟨⟨x274, M275⟩, q272, h⟩ := pb_s h
                                                replace h := u2_s h
                                                refine aw_cV (pc' := 877) (k2 := 207) (n2 := 84208) (st := [.inl x270]) (stN := [.inl x274, .inl x270]) hC [.inl (xi (w32 (v3 + 1))), .inl (xi (w32 (v3 + 2))), .inl (xi (w32 (v3 + 3)))] (mX9_comes q272) lk_L_109 g273 dL_law_874 rfl rfl (Nat.le_of_ble_eq_true rfl) (Nat.le_of_ble_eq_true rfl) (Nat.le_of_ble_eq_true rfl) rfl (Nat.le_of_ble_eq_true rfl) rfl rfl rfl ?_
                                                refine aw_icmp_eq (tgt := 1112) (pc' := 880) hC dL_law_877 (by decide) rfl (fun c276 => ?_) (fun c276 => ?_)
                                                · replace h := it_p c276 h
                                                  refine aw_sub hC [some (.inr (.inr (-1))), some (.inr (.inr v1)), some (.inr (.inr v2)), some (.inl v3)] ⟨rfl, ⟨rfl, ⟨rfl, ⟨rfl, trivial⟩⟩⟩⟩ (Nat.le_of_ble_eq_true rfl) ?_
                                                  exact w_L_law_J1112_18 (xi := xi) (L := L) hC h hL hX
                                                · replace h := it_n c276 h
                                                  cases h
                                              · replace h := it_n c40 h
                                                by_cases c41 : (an_ (xi v3) 31) = 22
                                                · replace h := it_p c41 h
                                                  refine aw_tsIn (tgt := 882) (off := 849) hC dL_law_33 ⟨by omega, by omega, by rw [c41]; rfl⟩ (by decide) ?_
                                                  refine aw_aload_n (pc' := 883) (i := 1) hC dL_law_882 rfl rfl rfl ?_
                                                  refine aw_aload_n (pc' := 884) (i := 0) hC dL_law_883 rfl rfl rfl ?_
                                                  refine aw_iload_n (pc' := 885) (i := 3) hC dL_law_884 rfl rfl rfl ?_
                                                  refine aw_iconst (pc' := 886) hC dL_law_885 rfl (by decide) ?_
                                                  refine aw_iadd (pc' := 887) hC dL_law_886 rfl  ?_
                                                  obtain ⟨g277, h⟩ := gd_s h
                                                  refine aw_sld (pc' := 888) hC hxi g277 dL_law_887 rfl ?_
                                                  refine aw_aload_n (pc' := 889) (i := 0) hC dL_law_888 rfl rfl rfl ?_
                                                  refine aw_iload_n (pc' := 890) (i := 3) hC dL_law_889 rfl rfl rfl ?_
                                                  refine aw_iconst (pc' := 891) hC dL_law_890 rfl (by decide) ?_
                                                  refine aw_iadd (pc' := 892) hC dL_law_891 rfl  ?_
                                                  obtain ⟨g278, h⟩ := gd_s h
                                                  refine aw_sld (pc' := 893) hC hxi g278 dL_law_892 rfl ?_
                                                  obtain ⟨g280, h⟩ := gd_s h
                                                  obtain ⟨⟨x281, M282⟩, q279, h⟩ := pb_s h
                                                  replace h := u2_s h
                                                  refine aw_cV (pc' := 896) (k2 := 207) (n2 := 84208) (st := []) (stN := [.inl x281]) hC [.inl (xi (w32 (v3 + 1))), .inl (xi (w32 (v3 + 2)))] (mX8_best q279) lk_L_110 g280 dL_law_893 rfl rfl (Nat.le_of_ble_eq_true rfl) (Nat.le_of_ble_eq_true rfl) (Nat.le_of_ble_eq_true rfl) rfl (Nat.le_of_ble_eq_true rfl) rfl rfl rfl ?_
                                                  refine aw_aload_n (pc' := 897) (i := 2) hC dL_law_896 rfl rfl rfl ?_
                                                  refine aw_aload_n (pc' := 898) (i := 0) hC dL_law_897 rfl rfl rfl ?_
                                                  refine aw_iload_n (pc' := 899) (i := 3) hC dL_law_898 rfl rfl rfl ?_
                                                  refine aw_iconst (pc' := 900) hC dL_law_899 rfl (by decide) ?_
                                                  refine aw_iadd (pc' := 901) hC dL_law_900 rfl  ?_
                                                  refine aw_sld (pc' := 902) hC hxi g277 dL_law_901 rfl ?_
                                                  refine aw_aload_n (pc' := 903) (i := 0) hC dL_law_902 rfl rfl rfl ?_
                                                  refine aw_iload_n (pc' := 904) (i := 3) hC dL_law_903 rfl rfl rfl ?_
                                                  refine aw_iconst (pc' := 905) hC dL_law_904 rfl (by decide) ?_
                                                  refine aw_iadd (pc' := 906) hC dL_law_905 rfl  ?_
                                                  refine aw_sld (pc' := 907) hC hxi g278 dL_law_906 rfl ?_
                                                  obtain ⟨g284, h⟩ := gd_s h
                                                  obtain ⟨⟨x285, M286⟩, q283, h⟩ := pb_s h
                                                  replace h := u2_s h
                                                  refine aw_cV (pc' := 910) (k2 := 207) (n2 := 84208) (st := [.inl x281]) (stN := [.inl x285, .inl x281]) hC [.inl (xi (w32 (v3 + 1))), .inl (xi (w32 (v3 + 2)))] (mX9_best q283) lk_L_113 g284 dL_law_907 rfl rfl (Nat.le_of_ble_eq_true rfl) (Nat.le_of_ble_eq_true rfl) (Nat.le_of_ble_eq_true rfl) rfl (Nat.le_of_ble_eq_true rfl) rfl rfl rfl ?_
                                                  refine aw_icmp_eq (tgt := 1112) (pc' := 913) hC dL_law_910 (by decide) rfl (fun c287 => ?_) (fun c287 => ?_)
                                                  · replace h := it_p c287 h
                                                    refine aw_sub hC [some (.inr (.inr (-1))), some (.inr (.inr v1)), some (.inr (.inr v2)), some (.inl v3)] ⟨rfl, ⟨rfl, ⟨rfl, ⟨rfl, trivial⟩⟩⟩⟩ (Nat.le_of_ble_eq_true rfl) ?_
                                                    exact w_L_law_J1112_18 (xi := xi) (L := L) hC h hL hX
                                                  · replace h := it_n c287 h
                                                    cases h
                                                · replace h := it_n c41 h
                                                  by_cases c42 : (an_ (xi v3) 31) = 23
                                                  · replace h := it_p c42 h
                                                    refine aw_tsIn (tgt := 915) (off := 882) hC dL_law_33 ⟨by omega, by omega, by rw [c42]; rfl⟩ (by decide) ?_
                                                    refine aw_aload_n (pc' := 916) (i := 1) hC dL_law_915 rfl rfl rfl ?_
                                                    obtain ⟨g289, h⟩ := gd_s h
                                                    obtain ⟨⟨x290, M291⟩, q288, h⟩ := pb_s h
                                                    replace h := u2_s h
                                                    refine aw_cV (pc' := 919) (k2 := 207) (n2 := 84208) (st := []) (stN := [.inl x290]) hC [] (mX8_letters q288) lk_L_114 g289 dL_law_916 rfl rfl (Nat.le_of_ble_eq_true rfl) (Nat.le_of_ble_eq_true rfl) (Nat.le_of_ble_eq_true rfl) rfl (Nat.le_of_ble_eq_true rfl) rfl rfl rfl ?_
                                                    refine aw_aload_n (pc' := 920) (i := 2) hC dL_law_919 rfl rfl rfl ?_
                                                    obtain ⟨g293, h⟩ := gd_s h
                                                    obtain ⟨⟨x294, M295⟩, q292, h⟩ := pb_s h
                                                    replace h := u2_s h
                                                    refine aw_cV (pc' := 923) (k2 := 207) (n2 := 84208) (st := [.inl x290]) (stN := [.inl x294, .inl x290]) hC [] (mX9_letters q292) lk_L_117 g293 dL_law_920 rfl rfl (Nat.le_of_ble_eq_true rfl) (Nat.le_of_ble_eq_true rfl) (Nat.le_of_ble_eq_true rfl) rfl (Nat.le_of_ble_eq_true rfl) rfl rfl rfl ?_
                                                    refine aw_icmp_eq (tgt := 1112) (pc' := 926) hC dL_law_923 (by decide) rfl (fun c296 => ?_) (fun c296 => ?_)
                                                    · replace h := it_p c296 h
                                                      refine aw_sub hC [some (.inr (.inr (-1))), some (.inr (.inr v1)), some (.inr (.inr v2)), some (.inl v3)] ⟨rfl, ⟨rfl, ⟨rfl, ⟨rfl, trivial⟩⟩⟩⟩ (Nat.le_of_ble_eq_true rfl) ?_
                                                      exact w_L_law_J1112_18 (xi := xi) (L := L) hC h hL hX
                                                    · replace h := it_n c296 h
                                                      cases h
                                                  · replace h := it_n c42 h
                                                    by_cases c43 : (an_ (xi v3) 31) = 24
                                                    · replace h := it_p c43 h
                                                      refine aw_tsIn (tgt := 928) (off := 895) hC dL_law_33 ⟨by omega, by omega, by rw [c43]; rfl⟩ (by decide) ?_
                                                      refine aw_aload_n (pc' := 929) (i := 1) hC dL_law_928 rfl rfl rfl ?_
                                                      refine aw_aload_n (pc' := 930) (i := 0) hC dL_law_929 rfl rfl rfl ?_
                                                      refine aw_iload_n (pc' := 931) (i := 3) hC dL_law_930 rfl rfl rfl ?_
                                                      refine aw_iconst (pc' := 932) hC dL_law_931 rfl (by decide) ?_
                                                      refine aw_iadd (pc' := 933) hC dL_law_932 rfl  ?_
                                                      obtain ⟨g297, h⟩ := gd_s h
                                                      refine aw_sld (pc' := 934) hC hxi g297 dL_law_933 rfl ?_
                                                      obtain ⟨g299, h⟩ := gd_s h
                                                      obtain ⟨x300, q298, h⟩ := pb_s h
                                                      replace h := u1_s h
                                                      refine aw_cV (pc' := 937) (k2 := 207) (n2 := 84208) (st := []) (stN := [.inl x300]) hC [.inl (xi (w32 (v3 + 1)))] (mX8_letterIs q298) lk_L_118 g299 dL_law_934 rfl rfl (Nat.le_of_ble_eq_true rfl) (Nat.le_of_ble_eq_true rfl) (Nat.le_of_ble_eq_true rfl) rfl (Nat.le_of_ble_eq_true rfl) rfl rfl rfl ?_
                                                      refine aw_aload_n (pc' := 938) (i := 2) hC dL_law_937 rfl rfl rfl ?_
                                                      refine aw_aload_n (pc' := 939) (i := 0) hC dL_law_938 rfl rfl rfl ?_
                                                      refine aw_iload_n (pc' := 940) (i := 3) hC dL_law_939 rfl rfl rfl ?_
                                                      refine aw_iconst (pc' := 941) hC dL_law_940 rfl (by decide) ?_
                                                      refine aw_iadd (pc' := 942) hC dL_law_941 rfl  ?_
                                                      refine aw_sld (pc' := 943) hC hxi g297 dL_law_942 rfl ?_
                                                      obtain ⟨g302, h⟩ := gd_s h
                                                      obtain ⟨x303, q301, h⟩ := pb_s h
                                                      replace h := u1_s h
                                                      refine aw_cV (pc' := 946) (k2 := 207) (n2 := 84208) (st := [.inl x300]) (stN := [.inl x303, .inl x300]) hC [.inl (xi (w32 (v3 + 1)))] (mX9_letterIs q301) lk_L_121 g302 dL_law_943 rfl rfl (Nat.le_of_ble_eq_true rfl) (Nat.le_of_ble_eq_true rfl) (Nat.le_of_ble_eq_true rfl) rfl (Nat.le_of_ble_eq_true rfl) rfl rfl rfl ?_
                                                      refine aw_icmp_eq (tgt := 1112) (pc' := 949) hC dL_law_946 (by decide) rfl (fun c304 => ?_) (fun c304 => ?_)
                                                      · replace h := it_p c304 h
                                                        refine aw_sub hC [some (.inr (.inr (-1))), some (.inr (.inr v1)), some (.inr (.inr v2)), some (.inl v3)] ⟨rfl, ⟨rfl, ⟨rfl, ⟨rfl, trivial⟩⟩⟩⟩ (Nat.le_of_ble_eq_true rfl) ?_
                                                        exact w_L_law_J1112_18 (xi := xi) (L := L) hC h hL hX
                                                      · replace h := it_n c304 h
                                                        cases h
                                                    · replace h := it_n c43 h
                                                      by_cases c44 : (an_ (xi v3) 31) = 25
                                                      · replace h := it_p c44 h
                                                        refine aw_tsIn (tgt := 951) (off := 918) hC dL_law_33 ⟨by omega, by omega, by rw [c44]; rfl⟩ (by decide) ?_
                                                        refine aw_aload_n (pc' := 952) (i := 1) hC dL_law_951 rfl rfl rfl ?_
                                                        refine aw_aload_n (pc' := 953) (i := 0) hC dL_law_952 rfl rfl rfl ?_
                                                        refine aw_iload_n (pc' := 954) (i := 3) hC dL_law_953 rfl rfl rfl ?_
                                                        refine aw_iconst (pc' := 955) hC dL_law_954 rfl (by decide) ?_
                                                        refine aw_iadd (pc' := 956) hC dL_law_955 rfl  ?_
                                                        obtain ⟨g305, h⟩ := gd_s h
                                                        refine aw_sld (pc' := 957) hC hxi g305 dL_law_956 rfl ?_
                                                        refine aw_aload_n (pc' := 958) (i := 0) hC dL_law_957 rfl rfl rfl ?_
                                                        refine aw_iload_n (pc' := 959) (i := 3) hC dL_law_958 rfl rfl rfl ?_
                                                        refine aw_iconst (pc' := 960) hC dL_law_959 rfl (by decide) ?_
                                                        refine aw_iadd (pc' := 961) hC dL_law_960 rfl  ?_
                                                        obtain ⟨g306, h⟩ := gd_s h
                                                        refine aw_sld (pc' := 962) hC hxi g306 dL_law_961 rfl ?_
                                                        obtain ⟨g308, h⟩ := gd_s h
                                                        obtain ⟨x309, q307, h⟩ := pb_s h
                                                        replace h := u1_s h
                                                        refine aw_cV (pc' := 965) (k2 := 207) (n2 := 84208) (st := []) (stN := [.inl x309]) hC [.inl (xi (w32 (v3 + 1))), .inl (xi (w32 (v3 + 2)))] (mX8_fair q307) lk_L_122 g308 dL_law_962 rfl rfl (Nat.le_of_ble_eq_true rfl) (Nat.le_of_ble_eq_true rfl) (Nat.le_of_ble_eq_true rfl) rfl (Nat.le_of_ble_eq_true rfl) rfl rfl rfl ?_
                                                        refine aw_aload_n (pc' := 966) (i := 2) hC dL_law_965 rfl rfl rfl ?_
                                                        refine aw_aload_n (pc' := 967) (i := 0) hC dL_law_966 rfl rfl rfl ?_
                                                        refine aw_iload_n (pc' := 968) (i := 3) hC dL_law_967 rfl rfl rfl ?_
                                                        refine aw_iconst (pc' := 969) hC dL_law_968 rfl (by decide) ?_
                                                        refine aw_iadd (pc' := 970) hC dL_law_969 rfl  ?_
                                                        refine aw_sld (pc' := 971) hC hxi g305 dL_law_970 rfl ?_
                                                        refine aw_aload_n (pc' := 972) (i := 0) hC dL_law_971 rfl rfl rfl ?_
                                                        refine aw_iload_n (pc' := 973) (i := 3) hC dL_law_972 rfl rfl rfl ?_
                                                        refine aw_iconst (pc' := 974) hC dL_law_973 rfl (by decide) ?_
                                                        refine aw_iadd (pc' := 975) hC dL_law_974 rfl  ?_
                                                        refine aw_sld (pc' := 976) hC hxi g306 dL_law_975 rfl ?_
                                                        obtain ⟨g311, h⟩ := gd_s h
                                                        obtain ⟨x312, q310, h⟩ := pb_s h
                                                        replace h := u1_s h
                                                        refine aw_cV (pc' := 979) (k2 := 207) (n2 := 84208) (st := [.inl x309]) (stN := [.inl x312, .inl x309]) hC [.inl (xi (w32 (v3 + 1))), .inl (xi (w32 (v3 + 2)))] (mX9_fair q310) lk_L_125 g311 dL_law_976 rfl rfl (Nat.le_of_ble_eq_true rfl) (Nat.le_of_ble_eq_true rfl) (Nat.le_of_ble_eq_true rfl) rfl (Nat.le_of_ble_eq_true rfl) rfl rfl rfl ?_
                                                        refine aw_icmp_eq (tgt := 1112) (pc' := 982) hC dL_law_979 (by decide) rfl (fun c313 => ?_) (fun c313 => ?_)
                                                        · replace h := it_p c313 h
                                                          refine aw_sub hC [some (.inr (.inr (-1))), some (.inr (.inr v1)), some (.inr (.inr v2)), some (.inl v3)] ⟨rfl, ⟨rfl, ⟨rfl, ⟨rfl, trivial⟩⟩⟩⟩ (Nat.le_of_ble_eq_true rfl) ?_
                                                          exact w_L_law_J1112_18 (xi := xi) (L := L) hC h hL hX
                                                        · replace h := it_n c313 h
                                                          cases h
                                                      · replace h := it_n c44 h
                                                        by_cases c45 : (an_ (xi v3) 31) = 26
                                                        · replace h := it_p c45 h
                                                          refine aw_tsIn (tgt := 984) (off := 951) hC dL_law_33 ⟨by omega, by omega, by rw [c45]; rfl⟩ (by decide) ?_
                                                          refine aw_aload_n (pc' := 985) (i := 1) hC dL_law_984 rfl rfl rfl ?_
                                                          refine aw_aload_n (pc' := 986) (i := 0) hC dL_law_985 rfl rfl rfl ?_
                                                          refine aw_iload_n (pc' := 987) (i := 3) hC dL_law_986 rfl rfl rfl ?_
                                                          refine aw_iconst (pc' := 988) hC dL_law_987 rfl (by decide) ?_
                                                          refine aw_iadd (pc' := 989) hC dL_law_988 rfl  ?_
                                                          obtain ⟨g314, h⟩ := gd_s h
                                                          refine aw_sld (pc' := 990) hC hxi g314 dL_law_989 rfl ?_
                                                          refine aw_aload_n (pc' := 991) (i := 0) hC dL_law_990 rfl rfl rfl ?_
                                                          refine aw_iload_n (pc' := 992) (i := 3) hC dL_law_991 rfl rfl rfl ?_
                                                          refine aw_iconst (pc' := 993) hC dL_law_992 rfl (by decide) ?_
                                                          refine aw_iadd (pc' := 994) hC dL_law_993 rfl  ?_
                                                          obtain ⟨g315, h⟩ := gd_s h
                                                          refine aw_sld (pc' := 995) hC hxi g315 dL_law_994 rfl ?_
                                                          obtain ⟨g317, h⟩ := gd_s h
                                                          obtain ⟨⟨x318, M319⟩, q316, h⟩ := pb_s h
                                                          replace h := u2_s h
                                                          refine aw_cV (pc' := 998) (k2 := 207) (n2 := 84208) (st := []) (stN := [.inl x318]) hC [.inl (xi (w32 (v3 + 1))), .inl (xi (w32 (v3 + 2)))] (mX8_later q316) lk_L_126 g317 dL_law_995 rfl rfl (Nat.le_of_ble_eq_true rfl) (Nat.le_of_ble_eq_true rfl) (Nat.le_of_ble_eq_true rfl) rfl (Nat.le_of_ble_eq_true rfl) rfl rfl rfl ?_
                                                          refine aw_aload_n (pc' := 999) (i := 2) hC dL_law_998 rfl rfl rfl ?_
                                                          refine aw_aload_n (pc' := 1000) (i := 0) hC dL_law_999 rfl rfl rfl ?_
                                                          refine aw_iload_n (pc' := 1001) (i := 3) hC dL_law_1000 rfl rfl rfl ?_
                                                          refine aw_iconst (pc' := 1002) hC dL_law_1001 rfl (by decide) ?_
                                                          refine aw_iadd (pc' := 1003) hC dL_law_1002 rfl  ?_
                                                          refine aw_sld (pc' := 1004) hC hxi g314 dL_law_1003 rfl ?_
                                                          refine aw_aload_n (pc' := 1005) (i := 0) hC dL_law_1004 rfl rfl rfl ?_
                                                          refine aw_iload_n (pc' := 1006) (i := 3) hC dL_law_1005 rfl rfl rfl ?_
                                                          refine aw_iconst (pc' := 1007) hC dL_law_1006 rfl (by decide) ?_
                                                          refine aw_iadd (pc' := 1008) hC dL_law_1007 rfl  ?_
                                                          refine aw_sld (pc' := 1009) hC hxi g315 dL_law_1008 rfl ?_
                                                          obtain ⟨g321, h⟩ := gd_s h
                                                          obtain ⟨⟨x322, M323⟩, q320, h⟩ := pb_s h
                                                          replace h := u2_s h
                                                          refine aw_cV (pc' := 1012) (k2 := 207) (n2 := 84208) (st := [.inl x318]) (stN := [.inl x322, .inl x318]) hC [.inl (xi (w32 (v3 + 1))), .inl (xi (w32 (v3 + 2)))] (mX9_later q320) lk_L_129 g321 dL_law_1009 rfl rfl (Nat.le_of_ble_eq_true rfl) (Nat.le_of_ble_eq_true rfl) (Nat.le_of_ble_eq_true rfl) rfl (Nat.le_of_ble_eq_true rfl) rfl rfl rfl ?_
                                                          refine aw_icmp_eq (tgt := 1112) (pc' := 1015) hC dL_law_1012 (by decide) rfl (fun c324 => ?_) (fun c324 => ?_)
                                                          · replace h := it_p c324 h
                                                            refine aw_sub hC [some (.inr (.inr (-1))), some (.inr (.inr v1)), some (.inr (.inr v2)), some (.inl v3)] ⟨rfl, ⟨rfl, ⟨rfl, ⟨rfl, trivial⟩⟩⟩⟩ (Nat.le_of_ble_eq_true rfl) ?_
                                                            exact w_L_law_J1112_18 (xi := xi) (L := L) hC h hL hX
                                                          · replace h := it_n c324 h
                                                            cases h
                                                        · replace h := it_n c45 h
                                                          by_cases c46 : (an_ (xi v3) 31) = 27
                                                          · replace h := it_p c46 h
                                                            refine aw_tsIn (tgt := 1017) (off := 984) hC dL_law_33 ⟨by omega, by omega, by rw [c46]; rfl⟩ (by decide) ?_
                                                            refine aw_aload_n (pc' := 1018) (i := 1) hC dL_law_1017 rfl rfl rfl ?_
                                                            refine aw_aload_n (pc' := 1019) (i := 0) hC dL_law_1018 rfl rfl rfl ?_
                                                            refine aw_iload_n (pc' := 1020) (i := 3) hC dL_law_1019 rfl rfl rfl ?_
                                                            refine aw_iconst (pc' := 1021) hC dL_law_1020 rfl (by decide) ?_
                                                            refine aw_iadd (pc' := 1022) hC dL_law_1021 rfl  ?_
                                                            obtain ⟨g325, h⟩ := gd_s h
                                                            refine aw_sld (pc' := 1023) hC hxi g325 dL_law_1022 rfl ?_
                                                            obtain ⟨g327, h⟩ := gd_s h
                                                            obtain ⟨⟨x328, M329⟩, q326, h⟩ := pb_s h
                                                            replace h := u2_s h
                                                            refine aw_cV (pc' := 1026) (k2 := 207) (n2 := 84208) (st := []) (stN := [.inl x328]) hC [.inl (xi (w32 (v3 + 1)))] (mX8_useless q326) lk_L_130 g327 dL_law_1023 rfl rfl (Nat.le_of_ble_eq_true rfl) (Nat.le_of_ble_eq_true rfl) (Nat.le_of_ble_eq_true rfl) rfl (Nat.le_of_ble_eq_true rfl) rfl rfl rfl ?_
                                                            refine aw_aload_n (pc' := 1027) (i := 2) hC dL_law_1026 rfl rfl rfl ?_
                                                            refine aw_aload_n (pc' := 1028) (i := 0) hC dL_law_1027 rfl rfl rfl ?_
                                                            refine aw_iload_n (pc' := 1029) (i := 3) hC dL_law_1028 rfl rfl rfl ?_
                                                            refine aw_iconst (pc' := 1030) hC dL_law_1029 rfl (by decide) ?_
                                                            refine aw_iadd (pc' := 1031) hC dL_law_1030 rfl  ?_
                                                            refine aw_sld (pc' := 1032) hC hxi g325 dL_law_1031 rfl ?_
                                                            obtain ⟨g331, h⟩ := gd_s h
                                                            obtain ⟨⟨x332, M333⟩, q330, h⟩ := pb_s h
                                                            replace h := u2_s h
                                                            refine aw_cV (pc' := 1035) (k2 := 207) (n2 := 84208) (st := [.inl x328]) (stN := [.inl x332, .inl x328]) hC [.inl (xi (w32 (v3 + 1)))] (mX9_useless q330) lk_L_133 g331 dL_law_1032 rfl rfl (Nat.le_of_ble_eq_true rfl) (Nat.le_of_ble_eq_true rfl) (Nat.le_of_ble_eq_true rfl) rfl (Nat.le_of_ble_eq_true rfl) rfl rfl rfl ?_
                                                            refine aw_icmp_eq (tgt := 1112) (pc' := 1038) hC dL_law_1035 (by decide) rfl (fun c334 => ?_) (fun c334 => ?_)
                                                            · replace h := it_p c334 h
                                                              refine aw_sub hC [some (.inr (.inr (-1))), some (.inr (.inr v1)), some (.inr (.inr v2)), some (.inl v3)] ⟨rfl, ⟨rfl, ⟨rfl, ⟨rfl, trivial⟩⟩⟩⟩ (Nat.le_of_ble_eq_true rfl) ?_
                                                              exact w_L_law_J1112_18 (xi := xi) (L := L) hC h hL hX
                                                            · replace h := it_n c334 h
                                                              cases h
                                                          · replace h := it_n c46 h
                                                            by_cases c47 : (an_ (xi v3) 31) = 28
                                                            · replace h := it_p c47 h
                                                              refine aw_tsIn (tgt := 1040) (off := 1007) hC dL_law_33 ⟨by omega, by omega, by rw [c47]; rfl⟩ (by decide) ?_
                                                              refine aw_aload_n (pc' := 1041) (i := 1) hC dL_law_1040 rfl rfl rfl ?_
                                                              obtain ⟨g336, h⟩ := gd_s h
                                                              obtain ⟨⟨x337, M338⟩, q335, h⟩ := pb_s h
                                                              replace h := u2_s h
                                                              refine aw_cV (pc' := 1044) (k2 := 207) (n2 := 84208) (st := []) (stN := [.inl x337]) hC [] (mX8_image q335) lk_L_134 g336 dL_law_1041 rfl rfl (Nat.le_of_ble_eq_true rfl) (Nat.le_of_ble_eq_true rfl) (Nat.le_of_ble_eq_true rfl) rfl (Nat.le_of_ble_eq_true rfl) rfl rfl rfl ?_
                                                              refine aw_aload_n (pc' := 1045) (i := 2) hC dL_law_1044 rfl rfl rfl ?_
                                                              obtain ⟨g340, h⟩ := gd_s h
                                                              obtain ⟨⟨x341, M342⟩, q339, h⟩ := pb_s h
                                                              replace h := u2_s h
                                                              refine aw_cV (pc' := 1048) (k2 := 207) (n2 := 84208) (st := [.inl x337]) (stN := [.inl x341, .inl x337]) hC [] (mX9_image q339) lk_L_137 g340 dL_law_1045 rfl rfl (Nat.le_of_ble_eq_true rfl) (Nat.le_of_ble_eq_true rfl) (Nat.le_of_ble_eq_true rfl) rfl (Nat.le_of_ble_eq_true rfl) rfl rfl rfl ?_
                                                              refine aw_icmp_eq (tgt := 1112) (pc' := 1051) hC dL_law_1048 (by decide) rfl (fun c343 => ?_) (fun c343 => ?_)
                                                              · replace h := it_p c343 h
                                                                refine aw_sub hC [some (.inr (.inr (-1))), some (.inr (.inr v1)), some (.inr (.inr v2)), some (.inl v3)] ⟨rfl, ⟨rfl, ⟨rfl, ⟨rfl, trivial⟩⟩⟩⟩ (Nat.le_of_ble_eq_true rfl) ?_
                                                                exact w_L_law_J1112_18 (xi := xi) (L := L) hC h hL hX
                                                              · replace h := it_n c343 h
                                                                cases h
                                                            · replace h := it_n c47 h
                                                              by_cases c48 : (an_ (xi v3) 31) = 29
                                                              · replace h := it_p c48 h
                                                                refine aw_tsIn (tgt := 1053) (off := 1020) hC dL_law_33 ⟨by omega, by omega, by rw [c48]; rfl⟩ (by decide) ?_
                                                                refine aw_aload_n (pc' := 1054) (i := 1) hC dL_law_1053 rfl rfl rfl ?_
                                                                refine aw_aload_n (pc' := 1055) (i := 0) hC dL_law_1054 rfl rfl rfl ?_
                                                                refine aw_iload_n (pc' := 1056) (i := 3) hC dL_law_1055 rfl rfl rfl ?_
                                                                refine aw_iconst (pc' := 1057) hC dL_law_1056 rfl (by decide) ?_
                                                                refine aw_iadd (pc' := 1058) hC dL_law_1057 rfl  ?_
                                                                obtain ⟨g344, h⟩ := gd_s h
                                                                refine aw_sld (pc' := 1059) hC hxi g344 dL_law_1058 rfl ?_
                                                                obtain ⟨g346, h⟩ := gd_s h
                                                                obtain ⟨x347, q345, h⟩ := pb_s h
                                                                replace h := u1_s h
                                                                refine aw_cV (pc' := 1062) (k2 := 207) (n2 := 84208) (st := []) (stN := [.inl x347]) hC [.inl (xi (w32 (v3 + 1)))] (mX8_octet q345) lk_L_138 g346 dL_law_1059 rfl rfl (Nat.le_of_ble_eq_true rfl) (Nat.le_of_ble_eq_true rfl) (Nat.le_of_ble_eq_true rfl) rfl (Nat.le_of_ble_eq_true rfl) rfl rfl rfl ?_
                                                                refine aw_aload_n (pc' := 1063) (i := 2) hC dL_law_1062 rfl rfl rfl ?_
                                                                refine aw_aload_n (pc' := 1064) (i := 0) hC dL_law_1063 rfl rfl rfl ?_
                                                                refine aw_iload_n (pc' := 1065) (i := 3) hC dL_law_1064 rfl rfl rfl ?_
                                                                refine aw_iconst (pc' := 1066) hC dL_law_1065 rfl (by decide) ?_
                                                                refine aw_iadd (pc' := 1067) hC dL_law_1066 rfl  ?_
                                                                refine aw_sld (pc' := 1068) hC hxi g344 dL_law_1067 rfl ?_
                                                                obtain ⟨g349, h⟩ := gd_s h
                                                                obtain ⟨x350, q348, h⟩ := pb_s h
                                                                replace h := u1_s h
                                                                refine aw_cV (pc' := 1071) (k2 := 207) (n2 := 84208) (st := [.inl x347]) (stN := [.inl x350, .inl x347]) hC [.inl (xi (w32 (v3 + 1)))] (mX9_octet q348) lk_L_141 g349 dL_law_1068 rfl rfl (Nat.le_of_ble_eq_true rfl) (Nat.le_of_ble_eq_true rfl) (Nat.le_of_ble_eq_true rfl) rfl (Nat.le_of_ble_eq_true rfl) rfl rfl rfl ?_
                                                                refine aw_icmp_eq (tgt := 1112) (pc' := 1074) hC dL_law_1071 (by decide) rfl (fun c351 => ?_) (fun c351 => ?_)
                                                                · replace h := it_p c351 h
                                                                  refine aw_sub hC [some (.inr (.inr (-1))), some (.inr (.inr v1)), some (.inr (.inr v2)), some (.inl v3)] ⟨rfl, ⟨rfl, ⟨rfl, ⟨rfl, trivial⟩⟩⟩⟩ (Nat.le_of_ble_eq_true rfl) ?_
                                                                  exact w_L_law_J1112_18 (xi := xi) (L := L) hC h hL hX
                                                                · replace h := it_n c351 h
                                                                  cases h
                                                              · replace h := it_n c48 h
                                                                by_cases c49 : (an_ (xi v3) 31) = 30
                                                                · replace h := it_p c49 h
                                                                  refine aw_tsIn (tgt := 1076) (off := 1043) hC dL_law_33 ⟨by omega, by omega, by rw [c49]; rfl⟩ (by decide) ?_
                                                                  refine aw_aload_n (pc' := 1077) (i := 1) hC dL_law_1076 rfl rfl rfl ?_
                                                                  obtain ⟨g353, h⟩ := gd_s h
                                                                  obtain ⟨⟨x354, M355⟩, q352, h⟩ := pb_s h
                                                                  replace h := u2_s h
                                                                  refine aw_cV (pc' := 1080) (k2 := 207) (n2 := 84208) (st := []) (stN := [.inl x354]) hC [] (mX8_on q352) lk_L_142 g353 dL_law_1077 rfl rfl (Nat.le_of_ble_eq_true rfl) (Nat.le_of_ble_eq_true rfl) (Nat.le_of_ble_eq_true rfl) rfl (Nat.le_of_ble_eq_true rfl) rfl rfl rfl ?_
                                                                  refine aw_aload_n (pc' := 1081) (i := 2) hC dL_law_1080 rfl rfl rfl ?_
                                                                  obtain ⟨g357, h⟩ := gd_s h
                                                                  obtain ⟨⟨x358, M359⟩, q356, h⟩ := pb_s h
                                                                  replace h := u2_s h
                                                                  refine aw_cV (pc' := 1084) (k2 := 207) (n2 := 84208) (st := [.inl x354]) (stN := [.inl x358, .inl x354]) hC [] (mX9_on q356) lk_L_145 g357 dL_law_1081 rfl rfl (Nat.le_of_ble_eq_true rfl) (Nat.le_of_ble_eq_true rfl) (Nat.le_of_ble_eq_true rfl) rfl (Nat.le_of_ble_eq_true rfl) rfl rfl rfl ?_
                                                                  refine aw_icmp_eq (tgt := 1112) (pc' := 1087) hC dL_law_1084 (by decide) rfl (fun c360 => ?_) (fun c360 => ?_)
                                                                  · replace h := it_p c360 h
                                                                    refine aw_sub hC [some (.inr (.inr (-1))), some (.inr (.inr v1)), some (.inr (.inr v2)), some (.inl v3)] ⟨rfl, ⟨rfl, ⟨rfl, ⟨rfl, trivial⟩⟩⟩⟩ (Nat.le_of_ble_eq_true rfl) ?_
                                                                    exact w_L_law_J1112_18 (xi := xi) (L := L) hC h hL hX
                                                                  · replace h := it_n c360 h
                                                                    cases h
                                                                · replace h := it_n c49 h
                                                                  by_cases c50 : (an_ (xi v3) 31) = 31
                                                                  · replace h := it_p c50 h
                                                                    refine aw_tsIn (tgt := 1089) (off := 1056) hC dL_law_33 ⟨by omega, by omega, by rw [c50]; rfl⟩ (by decide) ?_
                                                                    refine aw_aload_n (pc' := 1090) (i := 1) hC dL_law_1089 rfl rfl rfl ?_
                                                                    refine aw_aload_n (pc' := 1091) (i := 0) hC dL_law_1090 rfl rfl rfl ?_
                                                                    refine aw_iload_n (pc' := 1092) (i := 3) hC dL_law_1091 rfl rfl rfl ?_
                                                                    refine aw_iconst (pc' := 1093) hC dL_law_1092 rfl (by decide) ?_
                                                                    refine aw_iadd (pc' := 1094) hC dL_law_1093 rfl  ?_
                                                                    obtain ⟨g361, h⟩ := gd_s h
                                                                    refine aw_sld (pc' := 1095) hC hxi g361 dL_law_1094 rfl ?_
                                                                    obtain ⟨g363, h⟩ := gd_s h
                                                                    obtain ⟨x364, q362, h⟩ := pb_s h
                                                                    replace h := u1_s h
                                                                    refine aw_cV (pc' := 1098) (k2 := 207) (n2 := 84208) (st := []) (stN := [.inl x364]) hC [.inl (xi (w32 (v3 + 1)))] (mX8_status q362) lk_L_146 g363 dL_law_1095 rfl rfl (Nat.le_of_ble_eq_true rfl) (Nat.le_of_ble_eq_true rfl) (Nat.le_of_ble_eq_true rfl) rfl (Nat.le_of_ble_eq_true rfl) rfl rfl rfl ?_
                                                                    refine aw_aload_n (pc' := 1099) (i := 2) hC dL_law_1098 rfl rfl rfl ?_
                                                                    refine aw_aload_n (pc' := 1100) (i := 0) hC dL_law_1099 rfl rfl rfl ?_
                                                                    refine aw_iload_n (pc' := 1101) (i := 3) hC dL_law_1100 rfl rfl rfl ?_
                                                                    refine aw_iconst (pc' := 1102) hC dL_law_1101 rfl (by decide) ?_
                                                                    refine aw_iadd (pc' := 1103) hC dL_law_1102 rfl  ?_
                                                                    refine aw_sld (pc' := 1104) hC hxi g361 dL_law_1103 rfl ?_
                                                                    obtain ⟨g366, h⟩ := gd_s h
                                                                    obtain ⟨x367, q365, h⟩ := pb_s h
                                                                    replace h := u1_s h
                                                                    refine aw_cV (pc' := 1107) (k2 := 207) (n2 := 84208) (st := [.inl x364]) (stN := [.inl x367, .inl x364]) hC [.inl (xi (w32 (v3 + 1)))] (mX9_status q365) lk_L_149 g366 dL_law_1104 rfl rfl (Nat.le_of_ble_eq_true rfl) (Nat.le_of_ble_eq_true rfl) (Nat.le_of_ble_eq_true rfl) rfl (Nat.le_of_ble_eq_true rfl) rfl rfl rfl ?_
                                                                    refine aw_icmp_eq (tgt := 1112) (pc' := 1110) hC dL_law_1107 (by decide) rfl (fun c368 => ?_) (fun c368 => ?_)
                                                                    · replace h := it_p c368 h
                                                                      refine aw_sub hC [some (.inr (.inr (-1))), some (.inr (.inr v1)), some (.inr (.inr v2)), some (.inl v3)] ⟨rfl, ⟨rfl, ⟨rfl, ⟨rfl, trivial⟩⟩⟩⟩ (Nat.le_of_ble_eq_true rfl) ?_
                                                                      exact w_L_law_J1112_18 (xi := xi) (L := L) hC h hL hX
                                                                    · replace h := it_n c368 h
                                                                      cases h
                                                                  · replace h := it_n c50 h
                                                                    refine aw_tsOut (tgt := 1112) hC dL_law_33 (by omega) (by decide) ?_
                                                                    refine aw_sub hC [some (.inr (.inr (-1))), some (.inr (.inr v1)), some (.inr (.inr v2)), some (.inl v3)] ⟨rfl, ⟨rfl, ⟨rfl, ⟨rfl, trivial⟩⟩⟩⟩ (Nat.le_of_ble_eq_true rfl) ?_
                                                                    exact w_L_law_J1112_18 (xi := xi) (L := L) hC h hL hX
set_option maxRecDepth 100000 in
set_option maxHeartbeats 4000000 in
theorem mL_law {Γ : AwC} {nm : String} {xi : Int → Int} {L : Int} (hC : AOK Γ RL cL_law 4 167 600000 7302250 nm ret) (hR : Γ.1.2.2.2 = room_1) (hs1 : Γ.2.2.2.2.1 + 1 = Γ.2.1.1.heap.size) (harg : ∃ b : Nat, Γ.2.1.2.2.1 = #[Value.ref b]) (hxi : SC_ Γ xi L) {sh : AwS} {M : AwM} (h : fL_law xi L sh M = some 1) : AW Γ sh M 0 0 0 [some (.inr (.inr (-1))), none, none, none] [] (lw_Z Γ.2.1.2.2.2 Γ.2.1.2.2.1 Γ.2.1.1) := by
  unfold fL_law at h
  obtain ⟨p1, e2, h⟩ := bd_s h
  obtain ⟨sh3, e4, h⟩ := bd_s h
  refine aw_nw (pc' := 3) (k2 := 1) (n2 := 14) hC dL_law_0 rfl nw_L_7 rfl rfl (Nat.le_of_ble_eq_true rfl) (Nat.le_of_ble_eq_true rfl) e2 e4 ?_
  refine aw_dup (pc' := 4) hC dL_law_3 rfl rfl ?_
  obtain ⟨g6, h⟩ := gd_s h
  obtain ⟨⟨sh7, M8⟩, q5, h⟩ := pb_s h
  replace h := u2_s h
  refine aw_cI (pc' := 7) (k2 := 166) (n2 := 40249) (st := [.inr (.inr p1)]) (stN := [.inr (.inr p1)]) hC [] (mX8_init q5) lk_L_9 g6 dL_law_4 rfl rfl (Nat.le_of_ble_eq_true rfl) (Nat.le_of_ble_eq_true rfl) (Nat.le_of_ble_eq_true rfl) rfl (Nat.le_of_ble_eq_true rfl) rfl rfl rfl ?_
  refine aw_astore_n (pc' := 8) (i := 1) (ls' := [some (.inr (.inr (-1))), some (.inr (.inr p1)), none, none]) hC dL_law_7 rfl rfl (Nat.le_of_ble_eq_true rfl) rfl rfl ?_
  obtain ⟨p9, e10, h⟩ := bd_s h
  obtain ⟨sh11, e12, h⟩ := bd_s h
  refine aw_nw (pc' := 11) (k2 := 167) (n2 := 40320) hC dL_law_8 rfl nw_L_10 rfl rfl (Nat.le_of_ble_eq_true rfl) (Nat.le_of_ble_eq_true rfl) e10 e12 ?_
  refine aw_dup (pc' := 12) hC dL_law_11 rfl rfl ?_
  obtain ⟨g14, h⟩ := gd_s h
  obtain ⟨⟨sh15, M16⟩, q13, h⟩ := pb_s h
  replace h := u2_s h
  refine aw_cI (pc' := 15) (k2 := 207) (n2 := 84208) (st := [.inr (.inr p9)]) (stN := [.inr (.inr p9)]) hC [] (mX9_init q13) lk_L_12 g14 dL_law_12 rfl rfl (Nat.le_of_ble_eq_true rfl) (Nat.le_of_ble_eq_true rfl) (Nat.le_of_ble_eq_true rfl) rfl (Nat.le_of_ble_eq_true rfl) rfl rfl rfl ?_
  refine aw_astore_n (pc' := 16) (i := 2) (ls' := [some (.inr (.inr (-1))), some (.inr (.inr p1)), some (.inr (.inr p9)), none]) hC dL_law_15 rfl rfl (Nat.le_of_ble_eq_true rfl) rfl rfl ?_
  refine aw_iconst (pc' := 17) hC dL_law_16 rfl (by decide) ?_
  refine aw_istore_n (pc' := 18) (i := 3) (ls' := [some (.inr (.inr (-1))), some (.inr (.inr p1)), some (.inr (.inr p9)), some (.inl 0)]) hC dL_law_17 rfl rfl (Nat.le_of_ble_eq_true rfl) rfl rfl ?_
  obtain ⟨tq369, q369, h⟩ := pb_s h
  refine aw_sub hC [some (.inr (.inr (-1))), some (.inr (.inr p1)), some (.inr (.inr p9)), some (.inl 0)] ⟨rfl, ⟨rfl, ⟨rfl, ⟨rfl, trivial⟩⟩⟩⟩ (Nat.le_of_ble_eq_true rfl) ?_
  refine (lp_aw (p_L_law_L18 Γ xi L sh15 (-1) p1 p9 (lw_Z Γ.2.1.2.2.2 Γ.2.1.2.2.1 Γ.2.1.1)) (x_L_law_L18 Γ xi L sh15 (-1) p1 p9 (lw_Z Γ.2.1.2.2.2 Γ.2.1.2.2.1 Γ.2.1.1)) (w_L_law_L18 hC hxi) FU _ _ q369 ?_ : p_L_law_L18 Γ xi L sh15 (-1) p1 p9 (lw_Z Γ.2.1.2.2.2 Γ.2.1.2.2.1 Γ.2.1.1) (0, M16))
  replace h := u1_s h
  show AW Γ sh15 tq369 207 84208 1118 [none, none, none, none] [] _
  refine aw_iconst (pc' := 1119) hC dL_law_1118 rfl (by decide) ?_
  exact aw_lawret hC hR hs1 harg dL_law_1119 (by omega) (by omega)
