-- CoinCircleModel.isTest(I)Z
def fX9_isTest (sh : AwS) (M : AwM) (v0 : Int) : Option Int :=
  (if v0 = 1 then some 1 else (if v0 = 5 then some 1 else some 0))
set_option maxRecDepth 100000 in
set_option maxHeartbeats 4000000 in
theorem mX9_isTest {sh : AwS} {M : AwM} {v0 : Int} {r : Int} (h : fX9_isTest sh M v0 = some r) : AMet yX9_isTest cX9_isTest 1 (some .boolean) 1 0 0 [.inl v0] sh M (some (.inl r)) sh M := by
  refine amet_of (by decide +kernel) (Nat.le_of_ble_eq_true rfl) (fun Γ hC => ?_)
  replace hC : AOK Γ RX9 cX9_isTest 1 1 0 0 "isTest" (some .boolean) := hC
  unfold fX9_isTest at h
  refine aw_sub hC [some (.inl v0)] ⟨rfl, trivial⟩ (Nat.le_of_ble_eq_true rfl) ?_
  refine aw_iload_n (pc' := 1) (i := 0) hC dX9_isTest_0 rfl rfl rfl ?_
  refine aw_iconst (pc' := 2) hC dX9_isTest_1 rfl (by decide) ?_
  refine aw_icmp_eq (tgt := 10) (pc' := 5) hC dX9_isTest_2 (by decide) rfl (fun c1 => ?_) (fun c1 => ?_)
  · replace h := it_p c1 h
    refine aw_iconst (pc' := 11) hC dX9_isTest_10 rfl (by decide) ?_
    refine aw_goto (tgt := 15) hC dX9_isTest_11 (by decide) ?_
    cases h
    exact aw_zret hC (Or.inr rfl) dX9_isTest_15 (Nat.le_of_ble_eq_true rfl) (Nat.le_of_ble_eq_true rfl)
  · replace h := it_n c1 h
    refine aw_iload_n (pc' := 6) (i := 0) hC dX9_isTest_5 rfl rfl rfl ?_
    refine aw_iconst (pc' := 7) hC dX9_isTest_6 rfl (by decide) ?_
    refine aw_icmp_ne (tgt := 14) (pc' := 10) hC dX9_isTest_7 (by decide) rfl (fun c2 => ?_) (fun c2 => ?_)
    · replace h := it_n c2 h
      refine aw_iconst (pc' := 15) hC dX9_isTest_14 rfl (by decide) ?_
      cases h
      exact aw_zret hC (Or.inl rfl) dX9_isTest_15 (Nat.le_of_ble_eq_true rfl) (Nat.le_of_ble_eq_true rfl)
    · replace h := it_p c2 h
      refine aw_iconst (pc' := 11) hC dX9_isTest_10 rfl (by decide) ?_
      refine aw_goto (tgt := 15) hC dX9_isTest_11 (by decide) ?_
      cases h
      exact aw_zret hC (Or.inr rfl) dX9_isTest_15 (Nat.le_of_ble_eq_true rfl) (Nat.le_of_ble_eq_true rfl)
-- CoinCircleModel.operand()Z
def fX9_operand_J251 (sh : AwS) (M : AwM) (v0 : Int) (v3 : Int) : Option (Int × AwM) :=
  gd_ (kd_ sh v0 = (0, 9)) (pb (fX9_opens sh M v0 3) <| u1 fun (M37 : AwM) => ((if (M37 v0 8) = 0 then gd_ ((kd_ sh (M37 v0 40)).1 = 1 ∧ (0 : Int) ≤ (w32 ((M37 v0 42) - 1)) ∧ (w32 ((M37 v0 42) - 1)) < ((kd_ sh (M37 v0 40)).2 : Int)) (bd_ (up_ M37 (M37 v0 40) (w32 ((M37 v0 42) - 1)) v3) fun (M40 : AwM) => (some (0, M40))) else some (0, M37))))
def fX9_operand_J224 (sh : AwS) (M : AwM) (v0 : Int) (s0 : Int) : Option (Int × AwM) :=
  gd_ (kd_ sh v0 = (0, 9)) (pb (fX9_ahead sh M v0) <| u1 fun (M29 : AwM) => (pb (fX9_lex sh M29 v0) <| u1 fun (M31 : AwM) => (pb (fX9_isSign sh M31 v0 40) <| u1 fun (x33 : Int) => ((if x33 = 0 then pb (fX9_blame sh M31 v0 1 (M31 v0 4)) <| u1 fun (M43 : AwM) => (fX9_operand_J251 sh M43 v0 s0) else fX9_operand_J251 sh M31 v0 s0)))))
def fX9_operand_J207 (sh : AwS) (M : AwM) (v0 : Int) : Option (Int × AwM) :=
  gd_ (kd_ sh v0 = (0, 9)) (pb (fX9_isWord sh M v0 7170414) <| u1 fun (x25 : Int) => ((if x25 = 0 then fX9_operand_J224 sh M v0 16 else fX9_operand_J224 sh M v0 15)))
def fX9_operand_J375 (sh : AwS) (M : AwM) (v0 : Int) (s0 : Int) : Option (Int × AwM) :=
  (if s0 = (-1) then gd_ (kd_ sh v0 = (0, 9)) (pb (fX9_blame sh M v0 1 (M v0 4)) <| u1 fun (M75 : AwM) => ((if 0 < (M75 v0 8) then some (1, M75) else pb (fX9_add sh M75 v0 s0 (M75 v0 6)) <| u1 fun (M78 : AwM) => (pb (fX9_ahead sh M78 v0) <| u1 fun (M80 : AwM) => (some (1, M80)))))) else gd_ (kd_ sh v0 = (0, 9)) ((if 0 < (M v0 8) then some (1, M) else pb (fX9_add sh M v0 s0 (M v0 6)) <| u1 fun (M70 : AwM) => (pb (fX9_ahead sh M70 v0) <| u1 fun (M72 : AwM) => (some (1, M72))))))
def fX9_operand_J171 (sh : AwS) (M : AwM) (v0 : Int) : Option (Int × AwM) :=
  gd_ (kd_ sh v0 = (0, 9)) (pb (fX9_isSign sh M v0 40) <| u1 fun (x18 : Int) => ((if x18 = 0 then pb (fX9_isWord sh M v0 7170414) <| u1 fun (x21 : Int) => ((if x21 = 0 then pb (fX9_isWord sh M v0 7168376) <| u1 fun (x45 : Int) => ((if x45 = 0 then (if (M v0 3) = 2 then fX9_operand_J375 sh M v0 0 else pb (fX9_isWord sh M v0 512970880104) <| u1 fun (x49 : Int) => ((if x49 = 0 then pb (fX9_isWord sh M v0 1918987883) <| u1 fun (x52 : Int) => ((if x52 = 0 then pb (fX9_isWord sh M v0 478694368626) <| u1 fun (x55 : Int) => ((if x55 = 0 then pb (fX9_isWord sh M v0 109304541834341) <| u1 fun (x58 : Int) => ((if x58 = 0 then pb (fX9_isWord sh M v0 6578553) <| u1 fun (x61 : Int) => ((if x61 = 0 then pb (fX9_isWord sh M v0 448545973363) <| u1 fun (x64 : Int) => ((if x64 = 0 then fX9_operand_J375 sh M v0 (-1) else fX9_operand_J375 sh M v0 6)) else fX9_operand_J375 sh M v0 5)) else fX9_operand_J375 sh M v0 4)) else fX9_operand_J375 sh M v0 3)) else fX9_operand_J375 sh M v0 2)) else fX9_operand_J375 sh M v0 1))) else fX9_operand_J207 sh M v0)) else fX9_operand_J207 sh M v0)) else pb (fX9_opens sh M v0 2) <| u1 fun (M82 : AwM) => (some (0, M82)))))
def fX9_operand_J137 (sh : AwS) (M : AwM) (v0 : Int) (v1 : Int) (v2 : Int) : Option (Int × AwM) :=
  (if v2 = 0 then fX9_operand_J171 sh M v0 else gd_ (kd_ sh v0 = (0, 9)) (pb (fX9_isWord sh M v0 6384748) <| u1 fun (x85 : Int) => ((if x85 = 0 then fX9_operand_J171 sh M v0 else pb (fX9_add sh M v0 9 0) <| u1 fun (M88 : AwM) => (gd_ ((kd_ sh (M88 v0 38)).1 = 1 ∧ (0 : Int) ≤ v1 ∧ v1 < ((kd_ sh (M88 v0 38)).2 : Int)) (bd_ (up_ M88 (M88 v0 38) v1 2) fun (M90 : AwM) => (pb (fX9_ahead sh M90 v0) <| u1 fun (M93 : AwM) => (some (1, M93)))))))))
def fX9_operand_J110 (sh : AwS) (M : AwM) (v0 : Int) (v1 : Int) (v2 : Int) : Option (Int × AwM) :=
  gd_ (kd_ sh v0 = (0, 9)) (gd_ ((kd_ sh (M v0 39)).1 = 4 ∧ (0 : Int) ≤ v1 ∧ v1 < ((kd_ sh (M v0 39)).2 : Int)) (bd_ (up_ M (M v0 39) v1 0) fun (M12 : AwM) => ((if v2 = 0 then fX9_operand_J137 sh M12 v0 v1 v2 else pb (fX9_isSign sh M12 v0 91) <| u1 fun (x95 : Int) => ((if x95 = 0 then fX9_operand_J137 sh M12 v0 v1 v2 else pb (fX9_opens sh M12 v0 5) <| u1 fun (M98 : AwM) => (some (0, M98))))))))
def fX9_operand_J79 (sh : AwS) (M : AwM) (v0 : Int) : Option (Int × AwM) :=
  gd_ (kd_ sh v0 = (0, 9)) ((if 0 < (M v0 8) then some (1, M) else bd_ (up_ M v0 43 (w32 ((M v0 43) + 1))) fun (M106 : AwM) => (pb (fX9_holdsBack sh M106 v0 22) <| u1 fun (M109 : AwM) => (pb (fX9_ahead sh M109 v0) <| u1 fun (M111 : AwM) => (some (0, M111))))))
def fX9_operand_J46 (sh : AwS) (M : AwM) (v0 : Int) (v1 : Int) (s0 : Int) : Option (Int × AwM) :=
  (if s0 = 0 then fX9_operand_J110 sh M v0 v1 s0 else gd_ (kd_ sh v0 = (0, 9)) (pb (fX9_isWord sh M v0 7237492) <| u1 fun (x101 : Int) => ((if x101 = 0 then fX9_operand_J110 sh M v0 v1 s0 else (if (M v0 43) = 7 then pb (fX9_blame sh M v0 5 (M v0 4)) <| u1 fun (M113 : AwM) => (fX9_operand_J79 sh M113 v0) else fX9_operand_J79 sh M v0)))))
def fX9_operand_J45 (sh : AwS) (M : AwM) (v0 : Int) (v1 : Int) : Option (Int × AwM) :=
  fX9_operand_J46 sh M v0 v1 0
def fX9_operand (sh : AwS) (M : AwM) (v0 : Int) : Option (Int × AwM) :=
  gd_ (kd_ sh v0 = (0, 9)) (pb (fX9_lex sh M v0) <| u1 fun (M3 : AwM) => ((if 0 < (M3 v0 8) then some (1, M3) else gd_ ((kd_ sh (M3 v0 37)).1 = 1 ∧ (0 : Int) ≤ (w32 ((M3 v0 42) - 1)) ∧ (w32 ((M3 v0 42) - 1)) < ((kd_ sh (M3 v0 37)).2 : Int)) (pb (fX9_isTest sh M3 (M3 (M3 v0 37) (w32 ((M3 v0 42) - 1)))) <| u1 fun (x7 : Int) => ((if x7 = 0 then fX9_operand_J45 sh M3 v0 (w32 ((M3 v0 42) - 1)) else gd_ ((kd_ sh (M3 v0 39)).1 = 4 ∧ (0 : Int) ≤ (w32 ((M3 v0 42) - 1)) ∧ (w32 ((M3 v0 42) - 1)) < ((kd_ sh (M3 v0 39)).2 : Int)) ((if (M3 (M3 v0 39) (w32 ((M3 v0 42) - 1))) = 0 then fX9_operand_J45 sh M3 v0 (w32 ((M3 v0 42) - 1)) else fX9_operand_J46 sh M3 v0 (w32 ((M3 v0 42) - 1)) 1))))))))
set_option maxRecDepth 100000 in
set_option maxHeartbeats 4000000 in
theorem w_X9_operand_J251 {Γ : AwC} (hC : AOK Γ RX9 cX9_operand 4 4 0 0 "operand" (some .boolean)) {sh : AwS} {M : AwM} {v0 : Int} {v3 : Int} {r : Int} {M' : AwM} (h : fX9_operand_J251 sh M v0 v3 = some (r, M')) {Q : State → Prop} (hQ : Q = (fin_ Γ 0 0 (some (.inl r)) sh M')) : AW Γ sh M 0 0 251 [some (.inr (.inr v0)), none, none, some (.inl v3)] [] Q := by
  unfold fX9_operand_J251 at h
  refine aw_aload_n (pc' := 252) (i := 0) hC dX9_operand_251 rfl rfl rfl ?_
  refine aw_iconst (pc' := 253) hC dX9_operand_252 rfl (by decide) ?_
  obtain ⟨g36, h⟩ := gd_s h
  obtain ⟨M37, q35, h⟩ := pb_s h
  replace h := u1_s h
  refine aw_cV (pc' := 256) (k2 := 0) (n2 := 0) (st := []) (stN := []) hC [.inl 3] (mX9_opens q35) lk_X9_336 g36 dX9_operand_253 rfl rfl (Nat.le_of_ble_eq_true rfl) (Nat.le_of_ble_eq_true rfl) (Nat.le_of_ble_eq_true rfl) rfl (Nat.le_of_ble_eq_true rfl) rfl rfl rfl ?_
  refine aw_aload_n (pc' := 257) (i := 0) hC dX9_operand_256 rfl rfl rfl ?_
  refine aw_getfield (pc' := 260) (v := (.inl (M37 v0 8))) hC dX9_operand_257 rfl fl_X9_36 g36 rfl ?_
  refine aw_if_ne (tgt := 275) (pc' := 263) hC dX9_operand_260 (by decide) rfl (fun c38 => ?_) (fun c38 => ?_)
  · replace h := it_n c38 h
    refine aw_iconst (pc' := 276) hC dX9_operand_275 rfl (by decide) ?_
    cases h
    subst hQ
    exact aw_zret hC (Or.inl rfl) dX9_operand_276 (Nat.le_of_ble_eq_true rfl) (Nat.le_of_ble_eq_true rfl)
  · replace h := it_p c38 h
    refine aw_aload_n (pc' := 264) (i := 0) hC dX9_operand_263 rfl rfl rfl ?_
    refine aw_getfield (pc' := 267) (v := (.inr (.inr (M37 v0 40)))) hC dX9_operand_264 rfl fl_X9_134 g36 rfl ?_
    refine aw_aload_n (pc' := 268) (i := 0) hC dX9_operand_267 rfl rfl rfl ?_
    refine aw_getfield (pc' := 271) (v := (.inl (M37 v0 42))) hC dX9_operand_268 rfl fl_X9_140 g36 rfl ?_
    refine aw_iconst (pc' := 272) hC dX9_operand_271 rfl (by decide) ?_
    refine aw_isub (pc' := 273) hC dX9_operand_272 rfl  ?_
    refine aw_iload_n (pc' := 274) (i := 3) hC dX9_operand_273 rfl rfl rfl ?_
    obtain ⟨g39, h⟩ := gd_s h
    obtain ⟨M40, e41, h⟩ := bd_s h
    refine aw_ias (pc' := 275) hC dX9_operand_274 rfl g39 e41 ?_
    refine aw_iconst (pc' := 276) hC dX9_operand_275 rfl (by decide) ?_
    cases h
    subst hQ
    exact aw_zret hC (Or.inl rfl) dX9_operand_276 (Nat.le_of_ble_eq_true rfl) (Nat.le_of_ble_eq_true rfl)
set_option maxRecDepth 100000 in
set_option maxHeartbeats 4000000 in
theorem w_X9_operand_J224 {Γ : AwC} (hC : AOK Γ RX9 cX9_operand 4 4 0 0 "operand" (some .boolean)) {sh : AwS} {M : AwM} {v0 : Int} {s0 : Int} {r : Int} {M' : AwM} (h : fX9_operand_J224 sh M v0 s0 = some (r, M')) {Q : State → Prop} (hQ : Q = (fin_ Γ 0 0 (some (.inl r)) sh M')) : AW Γ sh M 0 0 224 [some (.inr (.inr v0)), none, none, none] [.inl s0] Q := by
  unfold fX9_operand_J224 at h
  refine aw_istore_n (pc' := 225) (i := 3) (ls' := [some (.inr (.inr v0)), none, none, some (.inl s0)]) hC dX9_operand_224 rfl rfl (Nat.le_of_ble_eq_true rfl) rfl rfl ?_
  refine aw_aload_n (pc' := 226) (i := 0) hC dX9_operand_225 rfl rfl rfl ?_
  obtain ⟨g28, h⟩ := gd_s h
  obtain ⟨M29, q27, h⟩ := pb_s h
  replace h := u1_s h
  refine aw_cV (pc' := 229) (k2 := 0) (n2 := 0) (st := []) (stN := []) hC [] (mX9_ahead q27) lk_X9_257 g28 dX9_operand_226 rfl rfl (Nat.le_of_ble_eq_true rfl) (Nat.le_of_ble_eq_true rfl) (Nat.le_of_ble_eq_true rfl) rfl (Nat.le_of_ble_eq_true rfl) rfl rfl rfl ?_
  refine aw_aload_n (pc' := 230) (i := 0) hC dX9_operand_229 rfl rfl rfl ?_
  obtain ⟨M31, q30, h⟩ := pb_s h
  replace h := u1_s h
  refine aw_cV (pc' := 233) (k2 := 0) (n2 := 0) (st := []) (stN := []) hC [] (mX9_lex q30) lk_X9_251 g28 dX9_operand_230 rfl rfl (Nat.le_of_ble_eq_true rfl) (Nat.le_of_ble_eq_true rfl) (Nat.le_of_ble_eq_true rfl) rfl (Nat.le_of_ble_eq_true rfl) rfl rfl rfl ?_
  refine aw_aload_n (pc' := 234) (i := 0) hC dX9_operand_233 rfl rfl rfl ?_
  refine aw_bipush (pc' := 236) hC dX9_operand_234 rfl (by decide) ?_
  obtain ⟨x33, q32, h⟩ := pb_s h
  replace h := u1_s h
  refine aw_cV (pc' := 239) (k2 := 0) (n2 := 0) (st := []) (stN := [.inl x33]) hC [.inl 40] (mX9_isSign q32) lk_X9_254 g28 dX9_operand_236 rfl rfl (Nat.le_of_ble_eq_true rfl) (Nat.le_of_ble_eq_true rfl) (Nat.le_of_ble_eq_true rfl) rfl (Nat.le_of_ble_eq_true rfl) rfl rfl rfl ?_
  refine aw_if_ne (tgt := 251) (pc' := 242) hC dX9_operand_239 (by decide) rfl (fun c34 => ?_) (fun c34 => ?_)
  · replace h := it_n c34 h
    refine aw_sub hC [some (.inr (.inr v0)), none, none, some (.inl s0)] ⟨rfl, ⟨rfl, trivial⟩⟩ (Nat.le_of_ble_eq_true rfl) ?_
    exact w_X9_operand_J251 hC h hQ
  · replace h := it_p c34 h
    refine aw_aload_n (pc' := 243) (i := 0) hC dX9_operand_242 rfl rfl rfl ?_
    refine aw_iconst (pc' := 244) hC dX9_operand_243 rfl (by decide) ?_
    refine aw_aload_n (pc' := 245) (i := 0) hC dX9_operand_244 rfl rfl rfl ?_
    refine aw_getfield (pc' := 248) (v := (.inl (M31 v0 4))) hC dX9_operand_245 rfl fl_X9_23 g28 rfl ?_
    obtain ⟨M43, q42, h⟩ := pb_s h
    replace h := u1_s h
    refine aw_cV (pc' := 251) (k2 := 0) (n2 := 0) (st := []) (stN := []) hC [.inl 1, .inl (M31 v0 4)] (mX9_blame q42) lk_X9_236 g28 dX9_operand_248 rfl rfl (Nat.le_of_ble_eq_true rfl) (Nat.le_of_ble_eq_true rfl) (Nat.le_of_ble_eq_true rfl) rfl (Nat.le_of_ble_eq_true rfl) rfl rfl rfl ?_
    refine aw_sub hC [some (.inr (.inr v0)), none, none, some (.inl s0)] ⟨rfl, ⟨rfl, trivial⟩⟩ (Nat.le_of_ble_eq_true rfl) ?_
    exact w_X9_operand_J251 hC h hQ
set_option maxRecDepth 100000 in
set_option maxHeartbeats 4000000 in
theorem w_X9_operand_J207 {Γ : AwC} (hC : AOK Γ RX9 cX9_operand 4 4 0 0 "operand" (some .boolean)) {sh : AwS} {M : AwM} {v0 : Int} {r : Int} {M' : AwM} (h : fX9_operand_J207 sh M v0 = some (r, M')) {Q : State → Prop} (hQ : Q = (fin_ Γ 0 0 (some (.inl r)) sh M')) : AW Γ sh M 0 0 207 [some (.inr (.inr v0)), none, none, none] [] Q := by
  unfold fX9_operand_J207 at h
  refine aw_aload_n (pc' := 208) (i := 0) hC dX9_operand_207 rfl rfl rfl ?_
  refine aw_ldc2 (pc' := 211) (v := 7170414) hC dX9_operand_208 rfl ck_X9_302 (by unfold I64; omega) ?_
  obtain ⟨g24, h⟩ := gd_s h
  obtain ⟨x25, q23, h⟩ := pb_s h
  replace h := u1_s h
  refine aw_cV (pc' := 214) (k2 := 0) (n2 := 0) (st := []) (stN := [.inl x25]) hC [.inr (.inl 7170414)] (mX9_isWord q23) lk_X9_330 g24 dX9_operand_211 rfl rfl (Nat.le_of_ble_eq_true rfl) (Nat.le_of_ble_eq_true rfl) (Nat.le_of_ble_eq_true rfl) rfl (Nat.le_of_ble_eq_true rfl) rfl rfl rfl ?_
  refine aw_if_eq (tgt := 222) (pc' := 217) hC dX9_operand_214 (by decide) rfl (fun c26 => ?_) (fun c26 => ?_)
  · replace h := it_p c26 h
    refine aw_bipush (pc' := 224) hC dX9_operand_222 rfl (by decide) ?_
    refine aw_sub hC [some (.inr (.inr v0)), none, none, none] ⟨rfl, trivial⟩ (Nat.le_of_ble_eq_true rfl) ?_
    exact w_X9_operand_J224 hC h hQ
  · replace h := it_n c26 h
    refine aw_bipush (pc' := 219) hC dX9_operand_217 rfl (by decide) ?_
    refine aw_goto (tgt := 224) hC dX9_operand_219 (by decide) ?_
    refine aw_sub hC [some (.inr (.inr v0)), none, none, none] ⟨rfl, trivial⟩ (Nat.le_of_ble_eq_true rfl) ?_
    exact w_X9_operand_J224 hC h hQ
set_option maxRecDepth 100000 in
set_option maxHeartbeats 4000000 in
theorem w_X9_operand_J375 {Γ : AwC} (hC : AOK Γ RX9 cX9_operand 4 4 0 0 "operand" (some .boolean)) {sh : AwS} {M : AwM} {v0 : Int} {s0 : Int} {r : Int} {M' : AwM} (h : fX9_operand_J375 sh M v0 s0 = some (r, M')) {Q : State → Prop} (hQ : Q = (fin_ Γ 0 0 (some (.inl r)) sh M')) : AW Γ sh M 0 0 375 [some (.inr (.inr v0)), none, none, none] [.inl s0] Q := by
  unfold fX9_operand_J375 at h
  refine aw_istore_n (pc' := 376) (i := 3) (ls' := [some (.inr (.inr v0)), none, none, some (.inl s0)]) hC dX9_operand_375 rfl rfl (Nat.le_of_ble_eq_true rfl) rfl rfl ?_
  refine aw_iload_n (pc' := 377) (i := 3) hC dX9_operand_376 rfl rfl rfl ?_
  refine aw_iconst (pc' := 378) hC dX9_operand_377 rfl (by decide) ?_
  refine aw_icmp_ne (tgt := 390) (pc' := 381) hC dX9_operand_378 (by decide) rfl (fun c66 => ?_) (fun c66 => ?_)
  · replace h := it_n c66 h
    refine aw_aload_n (pc' := 391) (i := 0) hC dX9_operand_390 rfl rfl rfl ?_
    obtain ⟨g67, h⟩ := gd_s h
    refine aw_getfield (pc' := 394) (v := (.inl (M v0 8))) hC dX9_operand_391 rfl fl_X9_36 g67 rfl ?_
    refine aw_if_le (tgt := 399) (pc' := 397) hC dX9_operand_394 (by decide) rfl (fun c68 => ?_) (fun c68 => ?_)
    · replace h := it_n c68 h
      refine aw_aload_n (pc' := 400) (i := 0) hC dX9_operand_399 rfl rfl rfl ?_
      refine aw_iload_n (pc' := 401) (i := 3) hC dX9_operand_400 rfl rfl rfl ?_
      refine aw_aload_n (pc' := 402) (i := 0) hC dX9_operand_401 rfl rfl rfl ?_
      refine aw_getfield (pc' := 405) (v := (.inl (M v0 6))) hC dX9_operand_402 rfl fl_X9_29 g67 rfl ?_
      obtain ⟨M70, q69, h⟩ := pb_s h
      replace h := u1_s h
      refine aw_cV (pc' := 408) (k2 := 0) (n2 := 0) (st := []) (stN := []) hC [.inl s0, .inl (M v0 6)] (mX9_add q69) lk_X9_321 g67 dX9_operand_405 rfl rfl (Nat.le_of_ble_eq_true rfl) (Nat.le_of_ble_eq_true rfl) (Nat.le_of_ble_eq_true rfl) rfl (Nat.le_of_ble_eq_true rfl) rfl rfl rfl ?_
      refine aw_aload_n (pc' := 409) (i := 0) hC dX9_operand_408 rfl rfl rfl ?_
      obtain ⟨M72, q71, h⟩ := pb_s h
      replace h := u1_s h
      refine aw_cV (pc' := 412) (k2 := 0) (n2 := 0) (st := []) (stN := []) hC [] (mX9_ahead q71) lk_X9_257 g67 dX9_operand_409 rfl rfl (Nat.le_of_ble_eq_true rfl) (Nat.le_of_ble_eq_true rfl) (Nat.le_of_ble_eq_true rfl) rfl (Nat.le_of_ble_eq_true rfl) rfl rfl rfl ?_
      refine aw_iconst (pc' := 413) hC dX9_operand_412 rfl (by decide) ?_
      cases h
      subst hQ
      exact aw_zret hC (Or.inr rfl) dX9_operand_413 (Nat.le_of_ble_eq_true rfl) (Nat.le_of_ble_eq_true rfl)
    · replace h := it_p c68 h
      refine aw_iconst (pc' := 398) hC dX9_operand_397 rfl (by decide) ?_
      cases h
      subst hQ
      exact aw_zret hC (Or.inr rfl) dX9_operand_398 (Nat.le_of_ble_eq_true rfl) (Nat.le_of_ble_eq_true rfl)
  · replace h := it_p c66 h
    refine aw_aload_n (pc' := 382) (i := 0) hC dX9_operand_381 rfl rfl rfl ?_
    refine aw_iconst (pc' := 383) hC dX9_operand_382 rfl (by decide) ?_
    refine aw_aload_n (pc' := 384) (i := 0) hC dX9_operand_383 rfl rfl rfl ?_
    obtain ⟨g73, h⟩ := gd_s h
    refine aw_getfield (pc' := 387) (v := (.inl (M v0 4))) hC dX9_operand_384 rfl fl_X9_23 g73 rfl ?_
    obtain ⟨M75, q74, h⟩ := pb_s h
    replace h := u1_s h
    refine aw_cV (pc' := 390) (k2 := 0) (n2 := 0) (st := []) (stN := []) hC [.inl 1, .inl (M v0 4)] (mX9_blame q74) lk_X9_236 g73 dX9_operand_387 rfl rfl (Nat.le_of_ble_eq_true rfl) (Nat.le_of_ble_eq_true rfl) (Nat.le_of_ble_eq_true rfl) rfl (Nat.le_of_ble_eq_true rfl) rfl rfl rfl ?_
    refine aw_aload_n (pc' := 391) (i := 0) hC dX9_operand_390 rfl rfl rfl ?_
    refine aw_getfield (pc' := 394) (v := (.inl (M75 v0 8))) hC dX9_operand_391 rfl fl_X9_36 g73 rfl ?_
    refine aw_if_le (tgt := 399) (pc' := 397) hC dX9_operand_394 (by decide) rfl (fun c76 => ?_) (fun c76 => ?_)
    · replace h := it_n c76 h
      refine aw_aload_n (pc' := 400) (i := 0) hC dX9_operand_399 rfl rfl rfl ?_
      refine aw_iload_n (pc' := 401) (i := 3) hC dX9_operand_400 rfl rfl rfl ?_
      refine aw_aload_n (pc' := 402) (i := 0) hC dX9_operand_401 rfl rfl rfl ?_
      refine aw_getfield (pc' := 405) (v := (.inl (M75 v0 6))) hC dX9_operand_402 rfl fl_X9_29 g73 rfl ?_
      obtain ⟨M78, q77, h⟩ := pb_s h
      replace h := u1_s h
      refine aw_cV (pc' := 408) (k2 := 0) (n2 := 0) (st := []) (stN := []) hC [.inl s0, .inl (M75 v0 6)] (mX9_add q77) lk_X9_321 g73 dX9_operand_405 rfl rfl (Nat.le_of_ble_eq_true rfl) (Nat.le_of_ble_eq_true rfl) (Nat.le_of_ble_eq_true rfl) rfl (Nat.le_of_ble_eq_true rfl) rfl rfl rfl ?_
      refine aw_aload_n (pc' := 409) (i := 0) hC dX9_operand_408 rfl rfl rfl ?_
      obtain ⟨M80, q79, h⟩ := pb_s h
      replace h := u1_s h
      refine aw_cV (pc' := 412) (k2 := 0) (n2 := 0) (st := []) (stN := []) hC [] (mX9_ahead q79) lk_X9_257 g73 dX9_operand_409 rfl rfl (Nat.le_of_ble_eq_true rfl) (Nat.le_of_ble_eq_true rfl) (Nat.le_of_ble_eq_true rfl) rfl (Nat.le_of_ble_eq_true rfl) rfl rfl rfl ?_
      refine aw_iconst (pc' := 413) hC dX9_operand_412 rfl (by decide) ?_
      cases h
      subst hQ
      exact aw_zret hC (Or.inr rfl) dX9_operand_413 (Nat.le_of_ble_eq_true rfl) (Nat.le_of_ble_eq_true rfl)
    · replace h := it_p c76 h
      refine aw_iconst (pc' := 398) hC dX9_operand_397 rfl (by decide) ?_
      cases h
      subst hQ
      exact aw_zret hC (Or.inr rfl) dX9_operand_398 (Nat.le_of_ble_eq_true rfl) (Nat.le_of_ble_eq_true rfl)
set_option maxRecDepth 100000 in
set_option maxHeartbeats 4000000 in
theorem w_X9_operand_J171 {Γ : AwC} (hC : AOK Γ RX9 cX9_operand 4 4 0 0 "operand" (some .boolean)) {sh : AwS} {M : AwM} {v0 : Int} {r : Int} {M' : AwM} (h : fX9_operand_J171 sh M v0 = some (r, M')) {Q : State → Prop} (hQ : Q = (fin_ Γ 0 0 (some (.inl r)) sh M')) : AW Γ sh M 0 0 171 [some (.inr (.inr v0)), none, none, none] [] Q := by
  unfold fX9_operand_J171 at h
  refine aw_aload_n (pc' := 172) (i := 0) hC dX9_operand_171 rfl rfl rfl ?_
  refine aw_bipush (pc' := 174) hC dX9_operand_172 rfl (by decide) ?_
  obtain ⟨g17, h⟩ := gd_s h
  obtain ⟨x18, q16, h⟩ := pb_s h
  replace h := u1_s h
  refine aw_cV (pc' := 177) (k2 := 0) (n2 := 0) (st := []) (stN := [.inl x18]) hC [.inl 40] (mX9_isSign q16) lk_X9_254 g17 dX9_operand_174 rfl rfl (Nat.le_of_ble_eq_true rfl) (Nat.le_of_ble_eq_true rfl) (Nat.le_of_ble_eq_true rfl) rfl (Nat.le_of_ble_eq_true rfl) rfl rfl rfl ?_
  refine aw_if_eq (tgt := 187) (pc' := 180) hC dX9_operand_177 (by decide) rfl (fun c19 => ?_) (fun c19 => ?_)
  · replace h := it_p c19 h
    refine aw_aload_n (pc' := 188) (i := 0) hC dX9_operand_187 rfl rfl rfl ?_
    refine aw_ldc2 (pc' := 191) (v := 7170414) hC dX9_operand_188 rfl ck_X9_302 (by unfold I64; omega) ?_
    obtain ⟨x21, q20, h⟩ := pb_s h
    replace h := u1_s h
    refine aw_cV (pc' := 194) (k2 := 0) (n2 := 0) (st := []) (stN := [.inl x21]) hC [.inr (.inl 7170414)] (mX9_isWord q20) lk_X9_330 g17 dX9_operand_191 rfl rfl (Nat.le_of_ble_eq_true rfl) (Nat.le_of_ble_eq_true rfl) (Nat.le_of_ble_eq_true rfl) rfl (Nat.le_of_ble_eq_true rfl) rfl rfl rfl ?_
    refine aw_if_ne (tgt := 207) (pc' := 197) hC dX9_operand_194 (by decide) rfl (fun c22 => ?_) (fun c22 => ?_)
    · replace h := it_n c22 h
      refine aw_sub hC [some (.inr (.inr v0)), none, none, none] ⟨rfl, trivial⟩ (Nat.le_of_ble_eq_true rfl) ?_
      exact w_X9_operand_J207 hC h hQ
    · replace h := it_p c22 h
      refine aw_aload_n (pc' := 198) (i := 0) hC dX9_operand_197 rfl rfl rfl ?_
      refine aw_ldc2 (pc' := 201) (v := 7168376) hC dX9_operand_198 rfl ck_X9_304 (by unfold I64; omega) ?_
      obtain ⟨x45, q44, h⟩ := pb_s h
      replace h := u1_s h
      refine aw_cV (pc' := 204) (k2 := 0) (n2 := 0) (st := []) (stN := [.inl x45]) hC [.inr (.inl 7168376)] (mX9_isWord q44) lk_X9_330 g17 dX9_operand_201 rfl rfl (Nat.le_of_ble_eq_true rfl) (Nat.le_of_ble_eq_true rfl) (Nat.le_of_ble_eq_true rfl) rfl (Nat.le_of_ble_eq_true rfl) rfl rfl rfl ?_
      refine aw_if_eq (tgt := 277) (pc' := 207) hC dX9_operand_204 (by decide) rfl (fun c46 => ?_) (fun c46 => ?_)
      · replace h := it_p c46 h
        refine aw_aload_n (pc' := 278) (i := 0) hC dX9_operand_277 rfl rfl rfl ?_
        refine aw_getfield (pc' := 281) (v := (.inl (M v0 3))) hC dX9_operand_278 rfl fl_X9_20 g17 rfl ?_
        refine aw_iconst (pc' := 282) hC dX9_operand_281 rfl (by decide) ?_
        refine aw_icmp_ne (tgt := 289) (pc' := 285) hC dX9_operand_282 (by decide) rfl (fun c47 => ?_) (fun c47 => ?_)
        · replace h := it_n c47 h
          refine aw_aload_n (pc' := 290) (i := 0) hC dX9_operand_289 rfl rfl rfl ?_
          refine aw_ldc2 (pc' := 293) (v := 512970880104) hC dX9_operand_290 rfl ck_X9_266 (by unfold I64; omega) ?_
          obtain ⟨x49, q48, h⟩ := pb_s h
          replace h := u1_s h
          refine aw_cV (pc' := 296) (k2 := 0) (n2 := 0) (st := []) (stN := [.inl x49]) hC [.inr (.inl 512970880104)] (mX9_isWord q48) lk_X9_330 g17 dX9_operand_293 rfl rfl (Nat.le_of_ble_eq_true rfl) (Nat.le_of_ble_eq_true rfl) (Nat.le_of_ble_eq_true rfl) rfl (Nat.le_of_ble_eq_true rfl) rfl rfl rfl ?_
          refine aw_if_eq (tgt := 303) (pc' := 299) hC dX9_operand_296 (by decide) rfl (fun c50 => ?_) (fun c50 => ?_)
          · replace h := it_p c50 h
            refine aw_aload_n (pc' := 304) (i := 0) hC dX9_operand_303 rfl rfl rfl ?_
            refine aw_ldc2 (pc' := 307) (v := 1918987883) hC dX9_operand_304 rfl ck_X9_262 (by unfold I64; omega) ?_
            obtain ⟨x52, q51, h⟩ := pb_s h
            replace h := u1_s h
            refine aw_cV (pc' := 310) (k2 := 0) (n2 := 0) (st := []) (stN := [.inl x52]) hC [.inr (.inl 1918987883)] (mX9_isWord q51) lk_X9_330 g17 dX9_operand_307 rfl rfl (Nat.le_of_ble_eq_true rfl) (Nat.le_of_ble_eq_true rfl) (Nat.le_of_ble_eq_true rfl) rfl (Nat.le_of_ble_eq_true rfl) rfl rfl rfl ?_
            refine aw_if_eq (tgt := 317) (pc' := 313) hC dX9_operand_310 (by decide) rfl (fun c53 => ?_) (fun c53 => ?_)
            · replace h := it_p c53 h
              refine aw_aload_n (pc' := 318) (i := 0) hC dX9_operand_317 rfl rfl rfl ?_
              refine aw_ldc2 (pc' := 321) (v := 478694368626) hC dX9_operand_318 rfl ck_X9_286 (by unfold I64; omega) ?_
              obtain ⟨x55, q54, h⟩ := pb_s h
              replace h := u1_s h
              refine aw_cV (pc' := 324) (k2 := 0) (n2 := 0) (st := []) (stN := [.inl x55]) hC [.inr (.inl 478694368626)] (mX9_isWord q54) lk_X9_330 g17 dX9_operand_321 rfl rfl (Nat.le_of_ble_eq_true rfl) (Nat.le_of_ble_eq_true rfl) (Nat.le_of_ble_eq_true rfl) rfl (Nat.le_of_ble_eq_true rfl) rfl rfl rfl ?_
              refine aw_if_eq (tgt := 331) (pc' := 327) hC dX9_operand_324 (by decide) rfl (fun c56 => ?_) (fun c56 => ?_)
              · replace h := it_p c56 h
                refine aw_aload_n (pc' := 332) (i := 0) hC dX9_operand_331 rfl rfl rfl ?_
                refine aw_ldc2 (pc' := 335) (v := 109304541834341) hC dX9_operand_332 rfl ck_X9_288 (by unfold I64; omega) ?_
                obtain ⟨x58, q57, h⟩ := pb_s h
                replace h := u1_s h
                refine aw_cV (pc' := 338) (k2 := 0) (n2 := 0) (st := []) (stN := [.inl x58]) hC [.inr (.inl 109304541834341)] (mX9_isWord q57) lk_X9_330 g17 dX9_operand_335 rfl rfl (Nat.le_of_ble_eq_true rfl) (Nat.le_of_ble_eq_true rfl) (Nat.le_of_ble_eq_true rfl) rfl (Nat.le_of_ble_eq_true rfl) rfl rfl rfl ?_
                refine aw_if_eq (tgt := 345) (pc' := 341) hC dX9_operand_338 (by decide) rfl (fun c59 => ?_) (fun c59 => ?_)
                · replace h := it_p c59 h
                  refine aw_aload_n (pc' := 346) (i := 0) hC dX9_operand_345 rfl rfl rfl ?_
                  refine aw_ldc2 (pc' := 349) (v := 6578553) hC dX9_operand_346 rfl ck_X9_290 (by unfold I64; omega) ?_
                  obtain ⟨x61, q60, h⟩ := pb_s h
                  replace h := u1_s h
                  refine aw_cV (pc' := 352) (k2 := 0) (n2 := 0) (st := []) (stN := [.inl x61]) hC [.inr (.inl 6578553)] (mX9_isWord q60) lk_X9_330 g17 dX9_operand_349 rfl rfl (Nat.le_of_ble_eq_true rfl) (Nat.le_of_ble_eq_true rfl) (Nat.le_of_ble_eq_true rfl) rfl (Nat.le_of_ble_eq_true rfl) rfl rfl rfl ?_
                  refine aw_if_eq (tgt := 359) (pc' := 355) hC dX9_operand_352 (by decide) rfl (fun c62 => ?_) (fun c62 => ?_)
                  · replace h := it_p c62 h
                    refine aw_aload_n (pc' := 360) (i := 0) hC dX9_operand_359 rfl rfl rfl ?_
                    refine aw_ldc2 (pc' := 363) (v := 448545973363) hC dX9_operand_360 rfl ck_X9_292 (by unfold I64; omega) ?_
                    obtain ⟨x64, q63, h⟩ := pb_s h
                    replace h := u1_s h
                    refine aw_cV (pc' := 366) (k2 := 0) (n2 := 0) (st := []) (stN := [.inl x64]) hC [.inr (.inl 448545973363)] (mX9_isWord q63) lk_X9_330 g17 dX9_operand_363 rfl rfl (Nat.le_of_ble_eq_true rfl) (Nat.le_of_ble_eq_true rfl) (Nat.le_of_ble_eq_true rfl) rfl (Nat.le_of_ble_eq_true rfl) rfl rfl rfl ?_
                    refine aw_if_eq (tgt := 374) (pc' := 369) hC dX9_operand_366 (by decide) rfl (fun c65 => ?_) (fun c65 => ?_)
                    · replace h := it_p c65 h
                      refine aw_iconst (pc' := 375) hC dX9_operand_374 rfl (by decide) ?_
                      refine aw_sub hC [some (.inr (.inr v0)), none, none, none] ⟨rfl, trivial⟩ (Nat.le_of_ble_eq_true rfl) ?_
                      exact w_X9_operand_J375 hC h hQ
                    · replace h := it_n c65 h
                      refine aw_bipush (pc' := 371) hC dX9_operand_369 rfl (by decide) ?_
                      refine aw_goto (tgt := 375) hC dX9_operand_371 (by decide) ?_
                      refine aw_sub hC [some (.inr (.inr v0)), none, none, none] ⟨rfl, trivial⟩ (Nat.le_of_ble_eq_true rfl) ?_
                      exact w_X9_operand_J375 hC h hQ
                  · replace h := it_n c62 h
                    refine aw_iconst (pc' := 356) hC dX9_operand_355 rfl (by decide) ?_
                    refine aw_goto (tgt := 375) hC dX9_operand_356 (by decide) ?_
                    refine aw_sub hC [some (.inr (.inr v0)), none, none, none] ⟨rfl, trivial⟩ (Nat.le_of_ble_eq_true rfl) ?_
                    exact w_X9_operand_J375 hC h hQ
                · replace h := it_n c59 h
                  refine aw_iconst (pc' := 342) hC dX9_operand_341 rfl (by decide) ?_
                  refine aw_goto (tgt := 375) hC dX9_operand_342 (by decide) ?_
                  refine aw_sub hC [some (.inr (.inr v0)), none, none, none] ⟨rfl, trivial⟩ (Nat.le_of_ble_eq_true rfl) ?_
                  exact w_X9_operand_J375 hC h hQ
              · replace h := it_n c56 h
                refine aw_iconst (pc' := 328) hC dX9_operand_327 rfl (by decide) ?_
                refine aw_goto (tgt := 375) hC dX9_operand_328 (by decide) ?_
                refine aw_sub hC [some (.inr (.inr v0)), none, none, none] ⟨rfl, trivial⟩ (Nat.le_of_ble_eq_true rfl) ?_
                exact w_X9_operand_J375 hC h hQ
            · replace h := it_n c53 h
              refine aw_iconst (pc' := 314) hC dX9_operand_313 rfl (by decide) ?_
              refine aw_goto (tgt := 375) hC dX9_operand_314 (by decide) ?_
              refine aw_sub hC [some (.inr (.inr v0)), none, none, none] ⟨rfl, trivial⟩ (Nat.le_of_ble_eq_true rfl) ?_
              exact w_X9_operand_J375 hC h hQ
          · replace h := it_n c50 h
            refine aw_iconst (pc' := 300) hC dX9_operand_299 rfl (by decide) ?_
            refine aw_goto (tgt := 375) hC dX9_operand_300 (by decide) ?_
            refine aw_sub hC [some (.inr (.inr v0)), none, none, none] ⟨rfl, trivial⟩ (Nat.le_of_ble_eq_true rfl) ?_
            exact w_X9_operand_J375 hC h hQ
        · replace h := it_p c47 h
          refine aw_iconst (pc' := 286) hC dX9_operand_285 rfl (by decide) ?_
          refine aw_goto (tgt := 375) hC dX9_operand_286 (by decide) ?_
          refine aw_sub hC [some (.inr (.inr v0)), none, none, none] ⟨rfl, trivial⟩ (Nat.le_of_ble_eq_true rfl) ?_
          exact w_X9_operand_J375 hC h hQ
      · replace h := it_n c46 h
        refine aw_sub hC [some (.inr (.inr v0)), none, none, none] ⟨rfl, trivial⟩ (Nat.le_of_ble_eq_true rfl) ?_
        exact w_X9_operand_J207 hC h hQ
  · replace h := it_n c19 h
    refine aw_aload_n (pc' := 181) (i := 0) hC dX9_operand_180 rfl rfl rfl ?_
    refine aw_iconst (pc' := 182) hC dX9_operand_181 rfl (by decide) ?_
    obtain ⟨M82, q81, h⟩ := pb_s h
    replace h := u1_s h
    refine aw_cV (pc' := 185) (k2 := 0) (n2 := 0) (st := []) (stN := []) hC [.inl 2] (mX9_opens q81) lk_X9_336 g17 dX9_operand_182 rfl rfl (Nat.le_of_ble_eq_true rfl) (Nat.le_of_ble_eq_true rfl) (Nat.le_of_ble_eq_true rfl) rfl (Nat.le_of_ble_eq_true rfl) rfl rfl rfl ?_
    refine aw_iconst (pc' := 186) hC dX9_operand_185 rfl (by decide) ?_
    cases h
    subst hQ
    exact aw_zret hC (Or.inl rfl) dX9_operand_186 (Nat.le_of_ble_eq_true rfl) (Nat.le_of_ble_eq_true rfl)
set_option maxRecDepth 100000 in
set_option maxHeartbeats 4000000 in
theorem w_X9_operand_J137 {Γ : AwC} (hC : AOK Γ RX9 cX9_operand 4 4 0 0 "operand" (some .boolean)) {sh : AwS} {M : AwM} {v0 : Int} {v1 : Int} {v2 : Int} {r : Int} {M' : AwM} (h : fX9_operand_J137 sh M v0 v1 v2 = some (r, M')) {Q : State → Prop} (hQ : Q = (fin_ Γ 0 0 (some (.inl r)) sh M')) : AW Γ sh M 0 0 137 [some (.inr (.inr v0)), some (.inl v1), some (.inl v2), none] [] Q := by
  unfold fX9_operand_J137 at h
  refine aw_iload_n (pc' := 138) (i := 2) hC dX9_operand_137 rfl rfl rfl ?_
  refine aw_if_eq (tgt := 171) (pc' := 141) hC dX9_operand_138 (by decide) rfl (fun c15 => ?_) (fun c15 => ?_)
  · replace h := it_p c15 h
    refine aw_sub hC [some (.inr (.inr v0)), none, none, none] ⟨rfl, trivial⟩ (Nat.le_of_ble_eq_true rfl) ?_
    exact w_X9_operand_J171 hC h hQ
  · replace h := it_n c15 h
    refine aw_aload_n (pc' := 142) (i := 0) hC dX9_operand_141 rfl rfl rfl ?_
    refine aw_ldc2 (pc' := 145) (v := 6384748) hC dX9_operand_142 rfl ck_X9_300 (by unfold I64; omega) ?_
    obtain ⟨g84, h⟩ := gd_s h
    obtain ⟨x85, q83, h⟩ := pb_s h
    replace h := u1_s h
    refine aw_cV (pc' := 148) (k2 := 0) (n2 := 0) (st := []) (stN := [.inl x85]) hC [.inr (.inl 6384748)] (mX9_isWord q83) lk_X9_330 g84 dX9_operand_145 rfl rfl (Nat.le_of_ble_eq_true rfl) (Nat.le_of_ble_eq_true rfl) (Nat.le_of_ble_eq_true rfl) rfl (Nat.le_of_ble_eq_true rfl) rfl rfl rfl ?_
    refine aw_if_eq (tgt := 171) (pc' := 151) hC dX9_operand_148 (by decide) rfl (fun c86 => ?_) (fun c86 => ?_)
    · replace h := it_p c86 h
      refine aw_sub hC [some (.inr (.inr v0)), none, none, none] ⟨rfl, trivial⟩ (Nat.le_of_ble_eq_true rfl) ?_
      exact w_X9_operand_J171 hC h hQ
    · replace h := it_n c86 h
      refine aw_aload_n (pc' := 152) (i := 0) hC dX9_operand_151 rfl rfl rfl ?_
      refine aw_bipush (pc' := 154) hC dX9_operand_152 rfl (by decide) ?_
      refine aw_iconst (pc' := 155) hC dX9_operand_154 rfl (by decide) ?_
      obtain ⟨M88, q87, h⟩ := pb_s h
      replace h := u1_s h
      refine aw_cV (pc' := 158) (k2 := 0) (n2 := 0) (st := []) (stN := []) hC [.inl 9, .inl 0] (mX9_add q87) lk_X9_321 g84 dX9_operand_155 rfl rfl (Nat.le_of_ble_eq_true rfl) (Nat.le_of_ble_eq_true rfl) (Nat.le_of_ble_eq_true rfl) rfl (Nat.le_of_ble_eq_true rfl) rfl rfl rfl ?_
      refine aw_aload_n (pc' := 159) (i := 0) hC dX9_operand_158 rfl rfl rfl ?_
      refine aw_getfield (pc' := 162) (v := (.inr (.inr (M88 v0 38)))) hC dX9_operand_159 rfl fl_X9_127 g84 rfl ?_
      refine aw_iload_n (pc' := 163) (i := 1) hC dX9_operand_162 rfl rfl rfl ?_
      refine aw_iconst (pc' := 164) hC dX9_operand_163 rfl (by decide) ?_
      obtain ⟨g89, h⟩ := gd_s h
      obtain ⟨M90, e91, h⟩ := bd_s h
      refine aw_ias (pc' := 165) hC dX9_operand_164 rfl g89 e91 ?_
      refine aw_aload_n (pc' := 166) (i := 0) hC dX9_operand_165 rfl rfl rfl ?_
      obtain ⟨M93, q92, h⟩ := pb_s h
      replace h := u1_s h
      refine aw_cV (pc' := 169) (k2 := 0) (n2 := 0) (st := []) (stN := []) hC [] (mX9_ahead q92) lk_X9_257 g84 dX9_operand_166 rfl rfl (Nat.le_of_ble_eq_true rfl) (Nat.le_of_ble_eq_true rfl) (Nat.le_of_ble_eq_true rfl) rfl (Nat.le_of_ble_eq_true rfl) rfl rfl rfl ?_
      refine aw_iconst (pc' := 170) hC dX9_operand_169 rfl (by decide) ?_
      cases h
      subst hQ
      exact aw_zret hC (Or.inr rfl) dX9_operand_170 (Nat.le_of_ble_eq_true rfl) (Nat.le_of_ble_eq_true rfl)
set_option maxRecDepth 100000 in
set_option maxHeartbeats 4000000 in
theorem w_X9_operand_J110 {Γ : AwC} (hC : AOK Γ RX9 cX9_operand 4 4 0 0 "operand" (some .boolean)) {sh : AwS} {M : AwM} {v0 : Int} {v1 : Int} {v2 : Int} {r : Int} {M' : AwM} (h : fX9_operand_J110 sh M v0 v1 v2 = some (r, M')) {Q : State → Prop} (hQ : Q = (fin_ Γ 0 0 (some (.inl r)) sh M')) : AW Γ sh M 0 0 110 [some (.inr (.inr v0)), some (.inl v1), some (.inl v2), none] [] Q := by
  unfold fX9_operand_J110 at h
  refine aw_aload_n (pc' := 111) (i := 0) hC dX9_operand_110 rfl rfl rfl ?_
  obtain ⟨g10, h⟩ := gd_s h
  refine aw_getfield (pc' := 114) (v := (.inr (.inr (M v0 39)))) hC dX9_operand_111 rfl fl_X9_130 g10 rfl ?_
  refine aw_iload_n (pc' := 115) (i := 1) hC dX9_operand_114 rfl rfl rfl ?_
  refine aw_iconst (pc' := 116) hC dX9_operand_115 rfl (by decide) ?_
  obtain ⟨g11, h⟩ := gd_s h
  obtain ⟨M12, e13, h⟩ := bd_s h
  refine aw_zas (pc' := 117) hC dX9_operand_116 rfl g11 (Or.inl rfl) e13 ?_
  refine aw_iload_n (pc' := 118) (i := 2) hC dX9_operand_117 rfl rfl rfl ?_
  refine aw_if_eq (tgt := 137) (pc' := 121) hC dX9_operand_118 (by decide) rfl (fun c14 => ?_) (fun c14 => ?_)
  · replace h := it_p c14 h
    refine aw_sub hC [some (.inr (.inr v0)), some (.inl v1), some (.inl v2), none] ⟨rfl, ⟨rfl, ⟨rfl, trivial⟩⟩⟩ (Nat.le_of_ble_eq_true rfl) ?_
    exact w_X9_operand_J137 hC h hQ
  · replace h := it_n c14 h
    refine aw_aload_n (pc' := 122) (i := 0) hC dX9_operand_121 rfl rfl rfl ?_
    refine aw_bipush (pc' := 124) hC dX9_operand_122 rfl (by decide) ?_
    obtain ⟨x95, q94, h⟩ := pb_s h
    replace h := u1_s h
    refine aw_cV (pc' := 127) (k2 := 0) (n2 := 0) (st := []) (stN := [.inl x95]) hC [.inl 91] (mX9_isSign q94) lk_X9_254 g10 dX9_operand_124 rfl rfl (Nat.le_of_ble_eq_true rfl) (Nat.le_of_ble_eq_true rfl) (Nat.le_of_ble_eq_true rfl) rfl (Nat.le_of_ble_eq_true rfl) rfl rfl rfl ?_
    refine aw_if_eq (tgt := 137) (pc' := 130) hC dX9_operand_127 (by decide) rfl (fun c96 => ?_) (fun c96 => ?_)
    · replace h := it_p c96 h
      refine aw_sub hC [some (.inr (.inr v0)), some (.inl v1), some (.inl v2), none] ⟨rfl, ⟨rfl, ⟨rfl, trivial⟩⟩⟩ (Nat.le_of_ble_eq_true rfl) ?_
      exact w_X9_operand_J137 hC h hQ
    · replace h := it_n c96 h
      refine aw_aload_n (pc' := 131) (i := 0) hC dX9_operand_130 rfl rfl rfl ?_
      refine aw_iconst (pc' := 132) hC dX9_operand_131 rfl (by decide) ?_
      obtain ⟨M98, q97, h⟩ := pb_s h
      replace h := u1_s h
      refine aw_cV (pc' := 135) (k2 := 0) (n2 := 0) (st := []) (stN := []) hC [.inl 5] (mX9_opens q97) lk_X9_336 g10 dX9_operand_132 rfl rfl (Nat.le_of_ble_eq_true rfl) (Nat.le_of_ble_eq_true rfl) (Nat.le_of_ble_eq_true rfl) rfl (Nat.le_of_ble_eq_true rfl) rfl rfl rfl ?_
      refine aw_iconst (pc' := 136) hC dX9_operand_135 rfl (by decide) ?_
      cases h
      subst hQ
      exact aw_zret hC (Or.inl rfl) dX9_operand_136 (Nat.le_of_ble_eq_true rfl) (Nat.le_of_ble_eq_true rfl)
set_option maxRecDepth 100000 in
set_option maxHeartbeats 4000000 in
theorem w_X9_operand_J79 {Γ : AwC} (hC : AOK Γ RX9 cX9_operand 4 4 0 0 "operand" (some .boolean)) {sh : AwS} {M : AwM} {v0 : Int} {r : Int} {M' : AwM} (h : fX9_operand_J79 sh M v0 = some (r, M')) {Q : State → Prop} (hQ : Q = (fin_ Γ 0 0 (some (.inl r)) sh M')) : AW Γ sh M 0 0 79 [some (.inr (.inr v0)), none, none, none] [] Q := by
  unfold fX9_operand_J79 at h
  refine aw_aload_n (pc' := 80) (i := 0) hC dX9_operand_79 rfl rfl rfl ?_
  obtain ⟨g104, h⟩ := gd_s h
  refine aw_getfield (pc' := 83) (v := (.inl (M v0 8))) hC dX9_operand_80 rfl fl_X9_36 g104 rfl ?_
  refine aw_if_le (tgt := 88) (pc' := 86) hC dX9_operand_83 (by decide) rfl (fun c105 => ?_) (fun c105 => ?_)
  · replace h := it_n c105 h
    refine aw_aload_n (pc' := 89) (i := 0) hC dX9_operand_88 rfl rfl rfl ?_
    refine aw_dup (pc' := 90) hC dX9_operand_89 rfl rfl ?_
    refine aw_getfield (pc' := 93) (v := (.inl (M v0 43))) hC dX9_operand_90 rfl fl_X9_143 g104 rfl ?_
    refine aw_iconst (pc' := 94) hC dX9_operand_93 rfl (by decide) ?_
    refine aw_iadd (pc' := 95) hC dX9_operand_94 rfl  ?_
    obtain ⟨M106, e107, h⟩ := bd_s h
    refine aw_pf (pc' := 98) hC dX9_operand_95 rfl fp_X9_143 g104 rfl trivial e107 ?_
    refine aw_aload_n (pc' := 99) (i := 0) hC dX9_operand_98 rfl rfl rfl ?_
    refine aw_bipush (pc' := 101) hC dX9_operand_99 rfl (by decide) ?_
    obtain ⟨M109, q108, h⟩ := pb_s h
    replace h := u1_s h
    refine aw_cV (pc' := 104) (k2 := 0) (n2 := 0) (st := []) (stN := []) hC [.inl 22] (mX9_holdsBack q108) lk_X9_333 g104 dX9_operand_101 rfl rfl (Nat.le_of_ble_eq_true rfl) (Nat.le_of_ble_eq_true rfl) (Nat.le_of_ble_eq_true rfl) rfl (Nat.le_of_ble_eq_true rfl) rfl rfl rfl ?_
    refine aw_aload_n (pc' := 105) (i := 0) hC dX9_operand_104 rfl rfl rfl ?_
    obtain ⟨M111, q110, h⟩ := pb_s h
    replace h := u1_s h
    refine aw_cV (pc' := 108) (k2 := 0) (n2 := 0) (st := []) (stN := []) hC [] (mX9_ahead q110) lk_X9_257 g104 dX9_operand_105 rfl rfl (Nat.le_of_ble_eq_true rfl) (Nat.le_of_ble_eq_true rfl) (Nat.le_of_ble_eq_true rfl) rfl (Nat.le_of_ble_eq_true rfl) rfl rfl rfl ?_
    refine aw_iconst (pc' := 109) hC dX9_operand_108 rfl (by decide) ?_
    cases h
    subst hQ
    exact aw_zret hC (Or.inl rfl) dX9_operand_109 (Nat.le_of_ble_eq_true rfl) (Nat.le_of_ble_eq_true rfl)
  · replace h := it_p c105 h
    refine aw_iconst (pc' := 87) hC dX9_operand_86 rfl (by decide) ?_
    cases h
    subst hQ
    exact aw_zret hC (Or.inr rfl) dX9_operand_87 (Nat.le_of_ble_eq_true rfl) (Nat.le_of_ble_eq_true rfl)
set_option maxRecDepth 100000 in
set_option maxHeartbeats 4000000 in
theorem w_X9_operand_J46 {Γ : AwC} (hC : AOK Γ RX9 cX9_operand 4 4 0 0 "operand" (some .boolean)) {sh : AwS} {M : AwM} {v0 : Int} {v1 : Int} {s0 : Int} {r : Int} {M' : AwM} (h : fX9_operand_J46 sh M v0 v1 s0 = some (r, M')) {Q : State → Prop} (hQ : Q = (fin_ Γ 0 0 (some (.inl r)) sh M')) : AW Γ sh M 0 0 46 [some (.inr (.inr v0)), some (.inl v1), none, none] [.inl s0] Q := by
  unfold fX9_operand_J46 at h
  refine aw_istore_n (pc' := 47) (i := 2) (ls' := [some (.inr (.inr v0)), some (.inl v1), some (.inl s0), none]) hC dX9_operand_46 rfl rfl (Nat.le_of_ble_eq_true rfl) rfl rfl ?_
  refine aw_iload_n (pc' := 48) (i := 2) hC dX9_operand_47 rfl rfl rfl ?_
  refine aw_if_eq (tgt := 110) (pc' := 51) hC dX9_operand_48 (by decide) rfl (fun c9 => ?_) (fun c9 => ?_)
  · replace h := it_p c9 h
    refine aw_sub hC [some (.inr (.inr v0)), some (.inl v1), some (.inl s0), none] ⟨rfl, ⟨rfl, ⟨rfl, trivial⟩⟩⟩ (Nat.le_of_ble_eq_true rfl) ?_
    exact w_X9_operand_J110 hC h hQ
  · replace h := it_n c9 h
    refine aw_aload_n (pc' := 52) (i := 0) hC dX9_operand_51 rfl rfl rfl ?_
    refine aw_ldc2 (pc' := 55) (v := 7237492) hC dX9_operand_52 rfl ck_X9_298 (by unfold I64; omega) ?_
    obtain ⟨g100, h⟩ := gd_s h
    obtain ⟨x101, q99, h⟩ := pb_s h
    replace h := u1_s h
    refine aw_cV (pc' := 58) (k2 := 0) (n2 := 0) (st := []) (stN := [.inl x101]) hC [.inr (.inl 7237492)] (mX9_isWord q99) lk_X9_330 g100 dX9_operand_55 rfl rfl (Nat.le_of_ble_eq_true rfl) (Nat.le_of_ble_eq_true rfl) (Nat.le_of_ble_eq_true rfl) rfl (Nat.le_of_ble_eq_true rfl) rfl rfl rfl ?_
    refine aw_if_eq (tgt := 110) (pc' := 61) hC dX9_operand_58 (by decide) rfl (fun c102 => ?_) (fun c102 => ?_)
    · replace h := it_p c102 h
      refine aw_sub hC [some (.inr (.inr v0)), some (.inl v1), some (.inl s0), none] ⟨rfl, ⟨rfl, ⟨rfl, trivial⟩⟩⟩ (Nat.le_of_ble_eq_true rfl) ?_
      exact w_X9_operand_J110 hC h hQ
    · replace h := it_n c102 h
      refine aw_aload_n (pc' := 62) (i := 0) hC dX9_operand_61 rfl rfl rfl ?_
      refine aw_getfield (pc' := 65) (v := (.inl (M v0 43))) hC dX9_operand_62 rfl fl_X9_143 g100 rfl ?_
      refine aw_bipush (pc' := 67) hC dX9_operand_65 rfl (by decide) ?_
      refine aw_icmp_ne (tgt := 79) (pc' := 70) hC dX9_operand_67 (by decide) rfl (fun c103 => ?_) (fun c103 => ?_)
      · replace h := it_n c103 h
        refine aw_sub hC [some (.inr (.inr v0)), none, none, none] ⟨rfl, trivial⟩ (Nat.le_of_ble_eq_true rfl) ?_
        exact w_X9_operand_J79 hC h hQ
      · replace h := it_p c103 h
        refine aw_aload_n (pc' := 71) (i := 0) hC dX9_operand_70 rfl rfl rfl ?_
        refine aw_iconst (pc' := 72) hC dX9_operand_71 rfl (by decide) ?_
        refine aw_aload_n (pc' := 73) (i := 0) hC dX9_operand_72 rfl rfl rfl ?_
        refine aw_getfield (pc' := 76) (v := (.inl (M v0 4))) hC dX9_operand_73 rfl fl_X9_23 g100 rfl ?_
        obtain ⟨M113, q112, h⟩ := pb_s h
        replace h := u1_s h
        refine aw_cV (pc' := 79) (k2 := 0) (n2 := 0) (st := []) (stN := []) hC [.inl 5, .inl (M v0 4)] (mX9_blame q112) lk_X9_236 g100 dX9_operand_76 rfl rfl (Nat.le_of_ble_eq_true rfl) (Nat.le_of_ble_eq_true rfl) (Nat.le_of_ble_eq_true rfl) rfl (Nat.le_of_ble_eq_true rfl) rfl rfl rfl ?_
        refine aw_sub hC [some (.inr (.inr v0)), none, none, none] ⟨rfl, trivial⟩ (Nat.le_of_ble_eq_true rfl) ?_
        exact w_X9_operand_J79 hC h hQ
set_option maxRecDepth 100000 in
set_option maxHeartbeats 4000000 in
theorem w_X9_operand_J45 {Γ : AwC} (hC : AOK Γ RX9 cX9_operand 4 4 0 0 "operand" (some .boolean)) {sh : AwS} {M : AwM} {v0 : Int} {v1 : Int} {r : Int} {M' : AwM} (h : fX9_operand_J45 sh M v0 v1 = some (r, M')) {Q : State → Prop} (hQ : Q = (fin_ Γ 0 0 (some (.inl r)) sh M')) : AW Γ sh M 0 0 45 [some (.inr (.inr v0)), some (.inl v1), none, none] [] Q := by
  unfold fX9_operand_J45 at h
  refine aw_iconst (pc' := 46) hC dX9_operand_45 rfl (by decide) ?_
  refine aw_sub hC [some (.inr (.inr v0)), some (.inl v1), none, none] ⟨rfl, ⟨rfl, trivial⟩⟩ (Nat.le_of_ble_eq_true rfl) ?_
  exact w_X9_operand_J46 hC h hQ
set_option maxRecDepth 100000 in
set_option maxHeartbeats 4000000 in
theorem mX9_operand {sh : AwS} {M : AwM} {v0 : Int} {r : Int} {M' : AwM} (h : fX9_operand sh M v0 = some (r, M')) : AMet yX9_operand cX9_operand 4 (some .boolean) 4 0 0 [.inr (.inr v0)] sh M (some (.inl r)) sh M' := by
  refine amet_of (by decide +kernel) (Nat.le_of_ble_eq_true rfl) (fun Γ hC => ?_)
  replace hC : AOK Γ RX9 cX9_operand 4 4 0 0 "operand" (some .boolean) := hC
  unfold fX9_operand at h
  refine aw_sub hC [some (.inr (.inr v0)), none, none, none] ⟨rfl, trivial⟩ (Nat.le_of_ble_eq_true rfl) ?_
  refine aw_aload_n (pc' := 1) (i := 0) hC dX9_operand_0 rfl rfl rfl ?_
  obtain ⟨g2, h⟩ := gd_s h
  obtain ⟨M3, q1, h⟩ := pb_s h
  replace h := u1_s h
  refine aw_cV (pc' := 4) (k2 := 0) (n2 := 0) (st := []) (stN := []) hC [] (mX9_lex q1) lk_X9_251 g2 dX9_operand_1 rfl rfl (Nat.le_of_ble_eq_true rfl) (Nat.le_of_ble_eq_true rfl) (Nat.le_of_ble_eq_true rfl) rfl (Nat.le_of_ble_eq_true rfl) rfl rfl rfl ?_
  refine aw_aload_n (pc' := 5) (i := 0) hC dX9_operand_4 rfl rfl rfl ?_
  refine aw_getfield (pc' := 8) (v := (.inl (M3 v0 8))) hC dX9_operand_5 rfl fl_X9_36 g2 rfl ?_
  refine aw_if_le (tgt := 13) (pc' := 11) hC dX9_operand_8 (by decide) rfl (fun c4 => ?_) (fun c4 => ?_)
  · replace h := it_n c4 h
    refine aw_aload_n (pc' := 14) (i := 0) hC dX9_operand_13 rfl rfl rfl ?_
    refine aw_getfield (pc' := 17) (v := (.inl (M3 v0 42))) hC dX9_operand_14 rfl fl_X9_140 g2 rfl ?_
    refine aw_iconst (pc' := 18) hC dX9_operand_17 rfl (by decide) ?_
    refine aw_isub (pc' := 19) hC dX9_operand_18 rfl  ?_
    refine aw_istore_n (pc' := 20) (i := 1) (ls' := [some (.inr (.inr v0)), some (.inl (w32 ((M3 v0 42) - 1))), none, none]) hC dX9_operand_19 rfl rfl (Nat.le_of_ble_eq_true rfl) rfl rfl ?_
    refine aw_aload_n (pc' := 21) (i := 0) hC dX9_operand_20 rfl rfl rfl ?_
    refine aw_getfield (pc' := 24) (v := (.inr (.inr (M3 v0 37)))) hC dX9_operand_21 rfl fl_X9_124 g2 rfl ?_
    refine aw_iload_n (pc' := 25) (i := 1) hC dX9_operand_24 rfl rfl rfl ?_
    obtain ⟨g5, h⟩ := gd_s h
    refine aw_iaload (pc' := 26) hC dX9_operand_25 rfl g5 ?_
    obtain ⟨x7, q6, h⟩ := pb_s h
    replace h := u1_s h
    refine aw_cS (pc' := 29) (k2 := 0) (n2 := 0) (st := []) (stN := [.inl x7]) hC [.inl (M3 (M3 v0 37) (w32 ((M3 v0 42) - 1)))] (mX9_isTest q6) lk_X9_327 dX9_operand_26 rfl rfl (Nat.le_of_ble_eq_true rfl) (Nat.le_of_ble_eq_true rfl) (Nat.le_of_ble_eq_true rfl) rfl (Nat.le_of_ble_eq_true rfl) rfl rfl rfl ?_
    refine aw_if_eq (tgt := 45) (pc' := 32) hC dX9_operand_29 (by decide) rfl (fun c8 => ?_) (fun c8 => ?_)
    · replace h := it_p c8 h
      refine aw_sub hC [some (.inr (.inr v0)), some (.inl (w32 ((M3 v0 42) - 1))), none, none] ⟨rfl, ⟨rfl, trivial⟩⟩ (Nat.le_of_ble_eq_true rfl) ?_
      exact w_X9_operand_J45 hC h rfl
    · replace h := it_n c8 h
      refine aw_aload_n (pc' := 33) (i := 0) hC dX9_operand_32 rfl rfl rfl ?_
      refine aw_getfield (pc' := 36) (v := (.inr (.inr (M3 v0 39)))) hC dX9_operand_33 rfl fl_X9_130 g2 rfl ?_
      refine aw_iload_n (pc' := 37) (i := 1) hC dX9_operand_36 rfl rfl rfl ?_
      obtain ⟨g114, h⟩ := gd_s h
      refine aw_zaload (pc' := 38) hC dX9_operand_37 rfl g114 ?_
      refine aw_if_eq (tgt := 45) (pc' := 41) hC dX9_operand_38 (by decide) rfl (fun c115 => ?_) (fun c115 => ?_)
      · replace h := it_p c115 h
        refine aw_sub hC [some (.inr (.inr v0)), some (.inl (w32 ((M3 v0 42) - 1))), none, none] ⟨rfl, ⟨rfl, trivial⟩⟩ (Nat.le_of_ble_eq_true rfl) ?_
        exact w_X9_operand_J45 hC h rfl
      · replace h := it_n c115 h
        refine aw_iconst (pc' := 42) hC dX9_operand_41 rfl (by decide) ?_
        refine aw_goto (tgt := 46) hC dX9_operand_42 (by decide) ?_
        refine aw_sub hC [some (.inr (.inr v0)), some (.inl (w32 ((M3 v0 42) - 1))), none, none] ⟨rfl, ⟨rfl, trivial⟩⟩ (Nat.le_of_ble_eq_true rfl) ?_
        exact w_X9_operand_J46 hC h rfl
  · replace h := it_p c4 h
    refine aw_iconst (pc' := 12) hC dX9_operand_11 rfl (by decide) ?_
    cases h
    exact aw_zret hC (Or.inr rfl) dX9_operand_12 (Nat.le_of_ble_eq_true rfl) (Nat.le_of_ble_eq_true rfl)
-- CoinCircleModel.goesOn()Z
def fX9_goesOn_J574 (sh : AwS) (M : AwM) (v0 : Int) (v2 : Int) : Option (Int × AwM) :=
  (if v2 = 5 then gd_ (kd_ sh v0 = (0, 9)) (gd_ ((kd_ sh (M v0 38)).1 = 1 ∧ (0 : Int) ≤ (w32 ((M v0 42) - 1)) ∧ (w32 ((M v0 42) - 1)) < ((kd_ sh (M v0 38)).2 : Int)) (bd_ (up_ M (M v0 38) (w32 ((M v0 42) - 1)) 2) fun (M35 : AwM) => (pb (fX9_ahead sh M35 v0) <| u1 fun (M38 : AwM) => (some (1, M38))))) else gd_ (kd_ sh v0 = (0, 9)) (pb (fX9_ahead sh M v0) <| u1 fun (M32 : AwM) => (some (1, M32))))
def fX9_goesOn_J524 (sh : AwS) (M : AwM) (v0 : Int) (v1 : Int) (v2 : Int) : Option (Int × AwM) :=
  gd_ (kd_ sh v0 = (0, 9)) ((if 0 < (M v0 8) then some (0, M) else pb (fX9_joins sh M v0 1) <| u1 fun (M23 : AwM) => (bd_ (up_ M23 v0 42 (w32 ((M23 v0 42) - 1))) fun (M24 : AwM) => (bd_ (up_ M24 v0 43 (w32 ((M24 v0 43) - 1))) fun (M26 : AwM) => ((if v2 = 4 then gd_ ((kd_ sh (M26 v0 40)).1 = 1 ∧ (0 : Int) ≤ v1 ∧ v1 < ((kd_ sh (M26 v0 40)).2 : Int)) (pb (fX9_add sh M26 v0 (M26 (M26 v0 40) v1) 0) <| u1 fun (M41 : AwM) => (fX9_goesOn_J574 sh M41 v0 v2)) else fX9_goesOn_J574 sh M26 v0 v2))))))
def fX9_goesOn_J509 (sh : AwS) (M : AwM) (v0 : Int) (v1 : Int) (v2 : Int) (s0 : Int) (s1 : Int) : Option (Int × AwM) :=
  gd_ (kd_ sh s0 = (0, 9)) (pb (fX9_isSign sh M s0 s1) <| u1 fun (x18 : Int) => ((if x18 = 0 then gd_ (kd_ sh v0 = (0, 9)) (pb (fX9_blame sh M v0 1 (M v0 4)) <| u1 fun (M44 : AwM) => (fX9_goesOn_J524 sh M44 v0 v1 v2)) else fX9_goesOn_J524 sh M v0 v1 v2)))
def fX9_goesOn_J464 (sh : AwS) (M : AwM) (v0 : Int) (v1 : Int) : Option (Int × AwM) :=
  gd_ (kd_ sh v0 = (0, 9)) ((if 0 < (M v0 8) then some (0, M) else pb (fX9_joins sh M v0 1) <| u1 fun (M52 : AwM) => (gd_ ((kd_ sh (M52 v0 37)).1 = 1 ∧ (0 : Int) ≤ v1 ∧ v1 < ((kd_ sh (M52 v0 37)).2 : Int)) (bd_ (up_ M52 (M52 v0 37) v1 4) fun (M54 : AwM) => (pb (fX9_ahead sh M54 v0) <| u1 fun (M57 : AwM) => (bd_ (up_ M57 v0 46 0) fun (M58 : AwM) => (some (1, M58))))))))
def fX9_goesOn_J422 (sh : AwS) (M : AwM) (v0 : Int) (v1 : Int) (v2 : Int) : Option (Int × AwM) :=
  (if v2 < 2 then gd_ (kd_ sh v0 = (0, 9)) ((if (M v0 8) = 0 then pb (fX9_joins sh M v0 1) <| u1 fun (M65 : AwM) => (some (0, M65)) else some (0, M))) else (if v2 = 3 then gd_ (kd_ sh v0 = (0, 9)) (pb (fX9_isSign sh M v0 44) <| u1 fun (x47 : Int) => ((if x47 = 0 then pb (fX9_blame sh M v0 1 (M v0 4)) <| u1 fun (M61 : AwM) => (fX9_goesOn_J464 sh M61 v0 v1) else fX9_goesOn_J464 sh M v0 v1))) else (if v2 = 5 then fX9_goesOn_J509 sh M v0 v1 v2 v0 93 else fX9_goesOn_J509 sh M v0 v1 v2 v0 41)))
def fX9_goesOn_J400 (sh : AwS) (M : AwM) (v0 : Int) (v1 : Int) (v2 : Int) (v3 : Int) : Option (Int × AwM) :=
  (if v3 = 0 then fX9_goesOn_J422 sh M v0 v1 v2 else gd_ (kd_ sh v0 = (0, 9)) (gd_ ((kd_ sh (M v0 38)).1 = 1 ∧ (0 : Int) ≤ v1 ∧ v1 < ((kd_ sh (M v0 38)).2 : Int)) ((if (M (M v0 38) v1) = 0 then pb (fX9_blame sh M v0 1 (M v0 4)) <| u1 fun (M70 : AwM) => (fX9_goesOn_J422 sh M70 v0 v1 v2) else fX9_goesOn_J422 sh M v0 v1 v2))))
def fX9_goesOn_J372 (sh : AwS) (M : AwM) (v0 : Int) (v1 : Int) (s0 : Int) (s1 : Int) : Option (Int × AwM) :=
  gd_ (kd_ sh s0 = (0, 9)) (pb (fX9_holdsBack sh M s0 s1) <| u1 fun (M89 : AwM) => (gd_ (kd_ sh v0 = (0, 9)) (gd_ ((kd_ sh (M89 v0 38)).1 = 1 ∧ (0 : Int) ≤ v1 ∧ v1 < ((kd_ sh (M89 v0 38)).2 : Int)) (bd_ (up_ M89 (M89 v0 38) v1 0) fun (M92 : AwM) => (gd_ ((kd_ sh (M92 v0 39)).1 = 4 ∧ (0 : Int) ≤ v1 ∧ v1 < ((kd_ sh (M92 v0 39)).2 : Int)) (bd_ (up_ M92 (M92 v0 39) v1 1) fun (M95 : AwM) => (pb (fX9_ahead sh M95 v0) <| u1 fun (M98 : AwM) => (bd_ (up_ M98 v0 46 0) fun (M99 : AwM) => (some (1, M99))))))))))
def fX9_goesOn_J356 (sh : AwS) (M : AwM) (v0 : Int) (v1 : Int) (v4 : Int) (s0 : Int) (s1 : Int) : Option (Int × AwM) :=
  gd_ (kd_ sh s0 = (0, 9)) (pb (fX9_joins sh M s0 s1) <| u1 fun (M85 : AwM) => ((if v4 = 0 then fX9_goesOn_J372 sh M85 v0 v1 v0 21 else fX9_goesOn_J372 sh M85 v0 v1 v0 20)))
def fX9_goesOn_J327 (sh : AwS) (M : AwM) (v0 : Int) (v1 : Int) : Option (Int × AwM) :=
  gd_ (kd_ sh v0 = (0, 9)) ((if 0 < (M v0 8) then some (0, M) else pb (fX9_isWord sh M v0 6385252) <| u1 fun (x81 : Int) => ((if x81 = 0 then fX9_goesOn_J356 sh M v0 v1 x81 v0 1 else fX9_goesOn_J356 sh M v0 v1 x81 v0 2))))
def fX9_goesOn_J309 (sh : AwS) (M : AwM) (v0 : Int) (v1 : Int) : Option (Int × AwM) :=
  gd_ (kd_ sh v0 = (0, 9)) (gd_ ((kd_ sh (M v0 38)).1 = 1 ∧ (0 : Int) ≤ v1 ∧ v1 < ((kd_ sh (M v0 38)).2 : Int)) ((if (M (M v0 38) v1) = 0 then pb (fX9_blame sh M v0 1 (M v0 4)) <| u1 fun (M102 : AwM) => (fX9_goesOn_J327 sh M102 v0 v1) else fX9_goesOn_J327 sh M v0 v1)))
def fX9_goesOn_J285 (sh : AwS) (M : AwM) (v0 : Int) (v1 : Int) (v2 : Int) (v3 : Int) : Option (Int × AwM) :=
  (if v3 = 0 then fX9_goesOn_J400 sh M v0 v1 v2 v3 else gd_ (kd_ sh v0 = (0, 9)) (pb (fX9_isWord sh M v0 6385252) <| u1 fun (x73 : Int) => ((if x73 = 0 then pb (fX9_isWord sh M v0 28530) <| u1 fun (x104 : Int) => ((if x104 = 0 then fX9_goesOn_J400 sh M v0 v1 v2 v3 else fX9_goesOn_J309 sh M v0 v1)) else fX9_goesOn_J309 sh M v0 v1))))
def fX9_goesOn_J264 (sh : AwS) (M : AwM) (v0 : Int) (v1 : Int) (s0 : Int) (s1 : Int) : Option (Int × AwM) :=
  gd_ (kd_ sh s0 = (0, 9)) (pb (fX9_holdsBack sh M s0 s1) <| u1 fun (M123 : AwM) => (gd_ (kd_ sh v0 = (0, 9)) (gd_ ((kd_ sh (M123 v0 38)).1 = 1 ∧ (0 : Int) ≤ v1 ∧ v1 < ((kd_ sh (M123 v0 38)).2 : Int)) (bd_ (up_ M123 (M123 v0 38) v1 1) fun (M126 : AwM) => (pb (fX9_ahead sh M126 v0) <| u1 fun (M129 : AwM) => (bd_ (up_ M129 v0 46 0) fun (M130 : AwM) => (some (1, M130))))))))
def fX9_goesOn_J228 (sh : AwS) (M : AwM) (v0 : Int) (v1 : Int) : Option (Int × AwM) :=
  gd_ (kd_ sh v0 = (0, 9)) (pb (fX9_joins sh M v0 5) <| u1 fun (M114 : AwM) => (pb (fX9_isSign sh M114 v0 60) <| u1 fun (x116 : Int) => ((if x116 = 0 then pb (fX9_isSign sh M114 v0 62) <| u1 fun (x119 : Int) => ((if x119 = 0 then fX9_goesOn_J264 sh M114 v0 v1 v0 19 else fX9_goesOn_J264 sh M114 v0 v1 v0 18)) else fX9_goesOn_J264 sh M114 v0 v1 v0 17))))
def fX9_goesOn_J188 (sh : AwS) (M : AwM) (v0 : Int) (v1 : Int) (v2 : Int) (v3 : Int) : Option (Int × AwM) :=
  (if v3 = 0 then fX9_goesOn_J285 sh M v0 v1 v2 v3 else gd_ (kd_ sh v0 = (0, 9)) (gd_ ((kd_ sh (M v0 38)).1 = 1 ∧ (0 : Int) ≤ v1 ∧ v1 < ((kd_ sh (M v0 38)).2 : Int)) ((if (M (M v0 38) v1) = 0 then pb (fX9_isSign sh M v0 60) <| u1 fun (x110 : Int) => ((if x110 = 0 then pb (fX9_isSign sh M v0 62) <| u1 fun (x133 : Int) => ((if x133 = 0 then pb (fX9_isSign sh M v0 61) <| u1 fun (x136 : Int) => ((if x136 = 0 then fX9_goesOn_J285 sh M v0 v1 v2 v3 else fX9_goesOn_J228 sh M v0 v1)) else fX9_goesOn_J228 sh M v0 v1)) else fX9_goesOn_J228 sh M v0 v1)) else fX9_goesOn_J285 sh M v0 v1 v2 v3))))
def fX9_goesOn_J174 (sh : AwS) (M : AwM) (v0 : Int) (s0 : Int) (s1 : Int) : Option (Int × AwM) :=
  gd_ (kd_ sh s0 = (0, 9)) (pb (fX9_holdsBack sh M s0 s1) <| u1 fun (M163 : AwM) => (gd_ (kd_ sh v0 = (0, 9)) (pb (fX9_ahead sh M163 v0) <| u1 fun (M166 : AwM) => (bd_ (up_ M166 v0 46 0) fun (M167 : AwM) => (some (1, M167))))))
def fX9_goesOn_J112 (sh : AwS) (M : AwM) (v0 : Int) (s0 : Int) (s1 : Int) : Option (Int × AwM) :=
  gd_ (kd_ sh s0 = (0, 9)) (pb (fX9_joins sh M s0 s1) <| u1 fun (M147 : AwM) => (gd_ (kd_ sh v0 = (0, 9)) (pb (fX9_isSign sh M147 v0 43) <| u1 fun (x150 : Int) => ((if x150 = 0 then pb (fX9_isSign sh M147 v0 45) <| u1 fun (x153 : Int) => ((if x153 = 0 then pb (fX9_isSign sh M147 v0 42) <| u1 fun (x156 : Int) => ((if x156 = 0 then pb (fX9_isSign sh M147 v0 47) <| u1 fun (x159 : Int) => ((if x159 = 0 then fX9_goesOn_J174 sh M147 v0 v0 14 else fX9_goesOn_J174 sh M147 v0 v0 13)) else fX9_goesOn_J174 sh M147 v0 v0 12)) else fX9_goesOn_J174 sh M147 v0 v0 11)) else fX9_goesOn_J174 sh M147 v0 v0 10)))))
def fX9_goesOn_J106 (sh : AwS) (M : AwM) (v0 : Int) (s0 : Int) : Option (Int × AwM) :=
  fX9_goesOn_J112 sh M v0 s0 5
def fX9_goesOn_J87 (sh : AwS) (M : AwM) (v0 : Int) : Option (Int × AwM) :=
  gd_ (kd_ sh v0 = (0, 9)) (pb (fX9_isSign sh M v0 43) <| u1 fun (x143 : Int) => ((if x143 = 0 then pb (fX9_isSign sh M v0 45) <| u1 fun (x170 : Int) => ((if x170 = 0 then fX9_goesOn_J112 sh M v0 v0 6 else fX9_goesOn_J106 sh M v0 v0)) else fX9_goesOn_J106 sh M v0 v0)))
def fX9_goesOn (sh : AwS) (M : AwM) (v0 : Int) : Option (Int × AwM) :=
  gd_ (kd_ sh v0 = (0, 9)) (pb (fX9_lex sh M v0) <| u1 fun (M3 : AwM) => ((if 0 < (M3 v0 8) then some (0, M3) else gd_ ((kd_ sh (M3 v0 37)).1 = 1 ∧ (0 : Int) ≤ (w32 ((M3 v0 42) - 1)) ∧ (w32 ((M3 v0 42) - 1)) < ((kd_ sh (M3 v0 37)).2 : Int)) (pb (fX9_isTest sh M3 (M3 (M3 v0 37) (w32 ((M3 v0 42) - 1)))) <| u1 fun (x7 : Int) => (gd_ ((kd_ sh (M3 v0 38)).1 = 1 ∧ (0 : Int) ≤ (w32 ((M3 v0 42) - 1)) ∧ (w32 ((M3 v0 42) - 1)) < ((kd_ sh (M3 v0 38)).2 : Int)) ((if (M3 (M3 v0 38) (w32 ((M3 v0 42) - 1))) < 2 then pb (fX9_isSign sh M3 v0 43) <| u1 fun (x139 : Int) => ((if x139 = 0 then pb (fX9_isSign sh M3 v0 45) <| u1 fun (x173 : Int) => ((if x173 = 0 then pb (fX9_isSign sh M3 v0 42) <| u1 fun (x176 : Int) => ((if x176 = 0 then pb (fX9_isSign sh M3 v0 47) <| u1 fun (x179 : Int) => ((if x179 = 0 then pb (fX9_isSign sh M3 v0 37) <| u1 fun (x182 : Int) => ((if x182 = 0 then fX9_goesOn_J188 sh M3 v0 (w32 ((M3 v0 42) - 1)) (M3 (M3 v0 37) (w32 ((M3 v0 42) - 1))) x7 else fX9_goesOn_J87 sh M3 v0)) else fX9_goesOn_J87 sh M3 v0)) else fX9_goesOn_J87 sh M3 v0)) else fX9_goesOn_J87 sh M3 v0)) else fX9_goesOn_J87 sh M3 v0)) else fX9_goesOn_J188 sh M3 v0 (w32 ((M3 v0 42) - 1)) (M3 (M3 v0 37) (w32 ((M3 v0 42) - 1))) x7)))))))
set_option maxRecDepth 100000 in
set_option maxHeartbeats 4000000 in
theorem w_X9_goesOn_J574 {Γ : AwC} (hC : AOK Γ RX9 cX9_goesOn 5 3 0 0 "goesOn" (some .boolean)) {sh : AwS} {M : AwM} {v0 : Int} {v2 : Int} {r : Int} {M' : AwM} (h : fX9_goesOn_J574 sh M v0 v2 = some (r, M')) {Q : State → Prop} (hQ : Q = (fin_ Γ 0 0 (some (.inl r)) sh M')) : AW Γ sh M 0 0 574 [some (.inr (.inr v0)), none, some (.inl v2), none, none] [] Q := by
  unfold fX9_goesOn_J574 at h
  refine aw_iload_n (pc' := 575) (i := 2) hC dX9_goesOn_574 rfl rfl rfl ?_
  refine aw_iconst (pc' := 576) hC dX9_goesOn_575 rfl (by decide) ?_
  refine aw_icmp_ne (tgt := 591) (pc' := 579) hC dX9_goesOn_576 (by decide) rfl (fun c29 => ?_) (fun c29 => ?_)
  · replace h := it_n c29 h
    refine aw_aload_n (pc' := 592) (i := 0) hC dX9_goesOn_591 rfl rfl rfl ?_
    obtain ⟨g31, h⟩ := gd_s h
    obtain ⟨M32, q30, h⟩ := pb_s h
    replace h := u1_s h
    refine aw_cV (pc' := 595) (k2 := 0) (n2 := 0) (st := []) (stN := []) hC [] (mX9_ahead q30) lk_X9_257 g31 dX9_goesOn_592 rfl rfl (Nat.le_of_ble_eq_true rfl) (Nat.le_of_ble_eq_true rfl) (Nat.le_of_ble_eq_true rfl) rfl (Nat.le_of_ble_eq_true rfl) rfl rfl rfl ?_
    refine aw_iconst (pc' := 596) hC dX9_goesOn_595 rfl (by decide) ?_
    cases h
    subst hQ
    exact aw_zret hC (Or.inr rfl) dX9_goesOn_596 (Nat.le_of_ble_eq_true rfl) (Nat.le_of_ble_eq_true rfl)
  · replace h := it_p c29 h
    refine aw_aload_n (pc' := 580) (i := 0) hC dX9_goesOn_579 rfl rfl rfl ?_
    obtain ⟨g33, h⟩ := gd_s h
    refine aw_getfield (pc' := 583) (v := (.inr (.inr (M v0 38)))) hC dX9_goesOn_580 rfl fl_X9_127 g33 rfl ?_
    refine aw_aload_n (pc' := 584) (i := 0) hC dX9_goesOn_583 rfl rfl rfl ?_
    refine aw_getfield (pc' := 587) (v := (.inl (M v0 42))) hC dX9_goesOn_584 rfl fl_X9_140 g33 rfl ?_
    refine aw_iconst (pc' := 588) hC dX9_goesOn_587 rfl (by decide) ?_
    refine aw_isub (pc' := 589) hC dX9_goesOn_588 rfl  ?_
    refine aw_iconst (pc' := 590) hC dX9_goesOn_589 rfl (by decide) ?_
    obtain ⟨g34, h⟩ := gd_s h
    obtain ⟨M35, e36, h⟩ := bd_s h
    refine aw_ias (pc' := 591) hC dX9_goesOn_590 rfl g34 e36 ?_
    refine aw_aload_n (pc' := 592) (i := 0) hC dX9_goesOn_591 rfl rfl rfl ?_
    obtain ⟨M38, q37, h⟩ := pb_s h
    replace h := u1_s h
    refine aw_cV (pc' := 595) (k2 := 0) (n2 := 0) (st := []) (stN := []) hC [] (mX9_ahead q37) lk_X9_257 g33 dX9_goesOn_592 rfl rfl (Nat.le_of_ble_eq_true rfl) (Nat.le_of_ble_eq_true rfl) (Nat.le_of_ble_eq_true rfl) rfl (Nat.le_of_ble_eq_true rfl) rfl rfl rfl ?_
    refine aw_iconst (pc' := 596) hC dX9_goesOn_595 rfl (by decide) ?_
    cases h
    subst hQ
    exact aw_zret hC (Or.inr rfl) dX9_goesOn_596 (Nat.le_of_ble_eq_true rfl) (Nat.le_of_ble_eq_true rfl)
set_option maxRecDepth 100000 in
set_option maxHeartbeats 4000000 in
theorem w_X9_goesOn_J524 {Γ : AwC} (hC : AOK Γ RX9 cX9_goesOn 5 3 0 0 "goesOn" (some .boolean)) {sh : AwS} {M : AwM} {v0 : Int} {v1 : Int} {v2 : Int} {r : Int} {M' : AwM} (h : fX9_goesOn_J524 sh M v0 v1 v2 = some (r, M')) {Q : State → Prop} (hQ : Q = (fin_ Γ 0 0 (some (.inl r)) sh M')) : AW Γ sh M 0 0 524 [some (.inr (.inr v0)), some (.inl v1), some (.inl v2), none, none] [] Q := by
  unfold fX9_goesOn_J524 at h
  refine aw_aload_n (pc' := 525) (i := 0) hC dX9_goesOn_524 rfl rfl rfl ?_
  obtain ⟨g20, h⟩ := gd_s h
  refine aw_getfield (pc' := 528) (v := (.inl (M v0 8))) hC dX9_goesOn_525 rfl fl_X9_36 g20 rfl ?_
  refine aw_if_le (tgt := 533) (pc' := 531) hC dX9_goesOn_528 (by decide) rfl (fun c21 => ?_) (fun c21 => ?_)
  · replace h := it_n c21 h
    refine aw_aload_n (pc' := 534) (i := 0) hC dX9_goesOn_533 rfl rfl rfl ?_
    refine aw_iconst (pc' := 535) hC dX9_goesOn_534 rfl (by decide) ?_
    obtain ⟨M23, q22, h⟩ := pb_s h
    replace h := u1_s h
    refine aw_cV (pc' := 538) (k2 := 0) (n2 := 0) (st := []) (stN := []) hC [.inl 1] (mX9_joins q22) lk_X9_339 g20 dX9_goesOn_535 rfl rfl (Nat.le_of_ble_eq_true rfl) (Nat.le_of_ble_eq_true rfl) (Nat.le_of_ble_eq_true rfl) rfl (Nat.le_of_ble_eq_true rfl) rfl rfl rfl ?_
    refine aw_aload_n (pc' := 539) (i := 0) hC dX9_goesOn_538 rfl rfl rfl ?_
    refine aw_dup (pc' := 540) hC dX9_goesOn_539 rfl rfl ?_
    refine aw_getfield (pc' := 543) (v := (.inl (M23 v0 42))) hC dX9_goesOn_540 rfl fl_X9_140 g20 rfl ?_
    refine aw_iconst (pc' := 544) hC dX9_goesOn_543 rfl (by decide) ?_
    refine aw_isub (pc' := 545) hC dX9_goesOn_544 rfl  ?_
    obtain ⟨M24, e25, h⟩ := bd_s h
    refine aw_pf (pc' := 548) hC dX9_goesOn_545 rfl fp_X9_140 g20 rfl trivial e25 ?_
    refine aw_aload_n (pc' := 549) (i := 0) hC dX9_goesOn_548 rfl rfl rfl ?_
    refine aw_dup (pc' := 550) hC dX9_goesOn_549 rfl rfl ?_
    refine aw_getfield (pc' := 553) (v := (.inl (M24 v0 43))) hC dX9_goesOn_550 rfl fl_X9_143 g20 rfl ?_
    refine aw_iconst (pc' := 554) hC dX9_goesOn_553 rfl (by decide) ?_
    refine aw_isub (pc' := 555) hC dX9_goesOn_554 rfl  ?_
    obtain ⟨M26, e27, h⟩ := bd_s h
    refine aw_pf (pc' := 558) hC dX9_goesOn_555 rfl fp_X9_143 g20 rfl trivial e27 ?_
    refine aw_iload_n (pc' := 559) (i := 2) hC dX9_goesOn_558 rfl rfl rfl ?_
    refine aw_iconst (pc' := 560) hC dX9_goesOn_559 rfl (by decide) ?_
    refine aw_icmp_ne (tgt := 574) (pc' := 563) hC dX9_goesOn_560 (by decide) rfl (fun c28 => ?_) (fun c28 => ?_)
    · replace h := it_n c28 h
      refine aw_sub hC [some (.inr (.inr v0)), none, some (.inl v2), none, none] ⟨rfl, ⟨rfl, trivial⟩⟩ (Nat.le_of_ble_eq_true rfl) ?_
      exact w_X9_goesOn_J574 hC h hQ
    · replace h := it_p c28 h
      refine aw_aload_n (pc' := 564) (i := 0) hC dX9_goesOn_563 rfl rfl rfl ?_
      refine aw_aload_n (pc' := 565) (i := 0) hC dX9_goesOn_564 rfl rfl rfl ?_
      refine aw_getfield (pc' := 568) (v := (.inr (.inr (M26 v0 40)))) hC dX9_goesOn_565 rfl fl_X9_134 g20 rfl ?_
      refine aw_iload_n (pc' := 569) (i := 1) hC dX9_goesOn_568 rfl rfl rfl ?_
      obtain ⟨g39, h⟩ := gd_s h
      refine aw_iaload (pc' := 570) hC dX9_goesOn_569 rfl g39 ?_
      refine aw_iconst (pc' := 571) hC dX9_goesOn_570 rfl (by decide) ?_
      obtain ⟨M41, q40, h⟩ := pb_s h
      replace h := u1_s h
      refine aw_cV (pc' := 574) (k2 := 0) (n2 := 0) (st := []) (stN := []) hC [.inl (M26 (M26 v0 40) v1), .inl 0] (mX9_add q40) lk_X9_321 g20 dX9_goesOn_571 rfl rfl (Nat.le_of_ble_eq_true rfl) (Nat.le_of_ble_eq_true rfl) (Nat.le_of_ble_eq_true rfl) rfl (Nat.le_of_ble_eq_true rfl) rfl rfl rfl ?_
      refine aw_sub hC [some (.inr (.inr v0)), none, some (.inl v2), none, none] ⟨rfl, ⟨rfl, trivial⟩⟩ (Nat.le_of_ble_eq_true rfl) ?_
      exact w_X9_goesOn_J574 hC h hQ
  · replace h := it_p c21 h
    refine aw_iconst (pc' := 532) hC dX9_goesOn_531 rfl (by decide) ?_
    cases h
    subst hQ
    exact aw_zret hC (Or.inl rfl) dX9_goesOn_532 (Nat.le_of_ble_eq_true rfl) (Nat.le_of_ble_eq_true rfl)
set_option maxRecDepth 100000 in
set_option maxHeartbeats 4000000 in
theorem w_X9_goesOn_J509 {Γ : AwC} (hC : AOK Γ RX9 cX9_goesOn 5 3 0 0 "goesOn" (some .boolean)) {sh : AwS} {M : AwM} {v0 : Int} {v1 : Int} {v2 : Int} {s0 : Int} {s1 : Int} {r : Int} {M' : AwM} (h : fX9_goesOn_J509 sh M v0 v1 v2 s0 s1 = some (r, M')) {Q : State → Prop} (hQ : Q = (fin_ Γ 0 0 (some (.inl r)) sh M')) : AW Γ sh M 0 0 509 [some (.inr (.inr v0)), some (.inl v1), some (.inl v2), none, none] [.inl s1, .inr (.inr s0)] Q := by
  unfold fX9_goesOn_J509 at h
  obtain ⟨g17, h⟩ := gd_s h
  obtain ⟨x18, q16, h⟩ := pb_s h
  replace h := u1_s h
  refine aw_cV (pc' := 512) (k2 := 0) (n2 := 0) (st := []) (stN := [.inl x18]) hC [.inl s1] (mX9_isSign q16) lk_X9_254 g17 dX9_goesOn_509 rfl rfl (Nat.le_of_ble_eq_true rfl) (Nat.le_of_ble_eq_true rfl) (Nat.le_of_ble_eq_true rfl) rfl (Nat.le_of_ble_eq_true rfl) rfl rfl rfl ?_
  refine aw_if_ne (tgt := 524) (pc' := 515) hC dX9_goesOn_512 (by decide) rfl (fun c19 => ?_) (fun c19 => ?_)
  · replace h := it_n c19 h
    refine aw_sub hC [some (.inr (.inr v0)), some (.inl v1), some (.inl v2), none, none] ⟨rfl, ⟨rfl, ⟨rfl, trivial⟩⟩⟩ (Nat.le_of_ble_eq_true rfl) ?_
    exact w_X9_goesOn_J524 hC h hQ
  · replace h := it_p c19 h
    refine aw_aload_n (pc' := 516) (i := 0) hC dX9_goesOn_515 rfl rfl rfl ?_
    refine aw_iconst (pc' := 517) hC dX9_goesOn_516 rfl (by decide) ?_
    refine aw_aload_n (pc' := 518) (i := 0) hC dX9_goesOn_517 rfl rfl rfl ?_
    obtain ⟨g42, h⟩ := gd_s h
    refine aw_getfield (pc' := 521) (v := (.inl (M v0 4))) hC dX9_goesOn_518 rfl fl_X9_23 g42 rfl ?_
    obtain ⟨M44, q43, h⟩ := pb_s h
    replace h := u1_s h
    refine aw_cV (pc' := 524) (k2 := 0) (n2 := 0) (st := []) (stN := []) hC [.inl 1, .inl (M v0 4)] (mX9_blame q43) lk_X9_236 g42 dX9_goesOn_521 rfl rfl (Nat.le_of_ble_eq_true rfl) (Nat.le_of_ble_eq_true rfl) (Nat.le_of_ble_eq_true rfl) rfl (Nat.le_of_ble_eq_true rfl) rfl rfl rfl ?_
    refine aw_sub hC [some (.inr (.inr v0)), some (.inl v1), some (.inl v2), none, none] ⟨rfl, ⟨rfl, ⟨rfl, trivial⟩⟩⟩ (Nat.le_of_ble_eq_true rfl) ?_
    exact w_X9_goesOn_J524 hC h hQ
set_option maxRecDepth 100000 in
set_option maxHeartbeats 4000000 in
theorem w_X9_goesOn_J464 {Γ : AwC} (hC : AOK Γ RX9 cX9_goesOn 5 3 0 0 "goesOn" (some .boolean)) {sh : AwS} {M : AwM} {v0 : Int} {v1 : Int} {r : Int} {M' : AwM} (h : fX9_goesOn_J464 sh M v0 v1 = some (r, M')) {Q : State → Prop} (hQ : Q = (fin_ Γ 0 0 (some (.inl r)) sh M')) : AW Γ sh M 0 0 464 [some (.inr (.inr v0)), some (.inl v1), none, none, none] [] Q := by
  unfold fX9_goesOn_J464 at h
  refine aw_aload_n (pc' := 465) (i := 0) hC dX9_goesOn_464 rfl rfl rfl ?_
  obtain ⟨g49, h⟩ := gd_s h
  refine aw_getfield (pc' := 468) (v := (.inl (M v0 8))) hC dX9_goesOn_465 rfl fl_X9_36 g49 rfl ?_
  refine aw_if_le (tgt := 473) (pc' := 471) hC dX9_goesOn_468 (by decide) rfl (fun c50 => ?_) (fun c50 => ?_)
  · replace h := it_n c50 h
    refine aw_aload_n (pc' := 474) (i := 0) hC dX9_goesOn_473 rfl rfl rfl ?_
    refine aw_iconst (pc' := 475) hC dX9_goesOn_474 rfl (by decide) ?_
    obtain ⟨M52, q51, h⟩ := pb_s h
    replace h := u1_s h
    refine aw_cV (pc' := 478) (k2 := 0) (n2 := 0) (st := []) (stN := []) hC [.inl 1] (mX9_joins q51) lk_X9_339 g49 dX9_goesOn_475 rfl rfl (Nat.le_of_ble_eq_true rfl) (Nat.le_of_ble_eq_true rfl) (Nat.le_of_ble_eq_true rfl) rfl (Nat.le_of_ble_eq_true rfl) rfl rfl rfl ?_
    refine aw_aload_n (pc' := 479) (i := 0) hC dX9_goesOn_478 rfl rfl rfl ?_
    refine aw_getfield (pc' := 482) (v := (.inr (.inr (M52 v0 37)))) hC dX9_goesOn_479 rfl fl_X9_124 g49 rfl ?_
    refine aw_iload_n (pc' := 483) (i := 1) hC dX9_goesOn_482 rfl rfl rfl ?_
    refine aw_iconst (pc' := 484) hC dX9_goesOn_483 rfl (by decide) ?_
    obtain ⟨g53, h⟩ := gd_s h
    obtain ⟨M54, e55, h⟩ := bd_s h
    refine aw_ias (pc' := 485) hC dX9_goesOn_484 rfl g53 e55 ?_
    refine aw_aload_n (pc' := 486) (i := 0) hC dX9_goesOn_485 rfl rfl rfl ?_
    obtain ⟨M57, q56, h⟩ := pb_s h
    replace h := u1_s h
    refine aw_cV (pc' := 489) (k2 := 0) (n2 := 0) (st := []) (stN := []) hC [] (mX9_ahead q56) lk_X9_257 g49 dX9_goesOn_486 rfl rfl (Nat.le_of_ble_eq_true rfl) (Nat.le_of_ble_eq_true rfl) (Nat.le_of_ble_eq_true rfl) rfl (Nat.le_of_ble_eq_true rfl) rfl rfl rfl ?_
    refine aw_aload_n (pc' := 490) (i := 0) hC dX9_goesOn_489 rfl rfl rfl ?_
    refine aw_iconst (pc' := 491) hC dX9_goesOn_490 rfl (by decide) ?_
    obtain ⟨M58, e59, h⟩ := bd_s h
    refine aw_pf (pc' := 494) hC dX9_goesOn_491 rfl fp_X9_152 g49 rfl (Or.inl rfl) e59 ?_
    refine aw_iconst (pc' := 495) hC dX9_goesOn_494 rfl (by decide) ?_
    cases h
    subst hQ
    exact aw_zret hC (Or.inr rfl) dX9_goesOn_495 (Nat.le_of_ble_eq_true rfl) (Nat.le_of_ble_eq_true rfl)
  · replace h := it_p c50 h
    refine aw_iconst (pc' := 472) hC dX9_goesOn_471 rfl (by decide) ?_
    cases h
    subst hQ
    exact aw_zret hC (Or.inl rfl) dX9_goesOn_472 (Nat.le_of_ble_eq_true rfl) (Nat.le_of_ble_eq_true rfl)
set_option maxRecDepth 100000 in
set_option maxHeartbeats 4000000 in
theorem w_X9_goesOn_J422 {Γ : AwC} (hC : AOK Γ RX9 cX9_goesOn 5 3 0 0 "goesOn" (some .boolean)) {sh : AwS} {M : AwM} {v0 : Int} {v1 : Int} {v2 : Int} {r : Int} {M' : AwM} (h : fX9_goesOn_J422 sh M v0 v1 v2 = some (r, M')) {Q : State → Prop} (hQ : Q = (fin_ Γ 0 0 (some (.inl r)) sh M')) : AW Γ sh M 0 0 422 [some (.inr (.inr v0)), some (.inl v1), some (.inl v2), none, none] [] Q := by
  unfold fX9_goesOn_J422 at h
  refine aw_iload_n (pc' := 423) (i := 2) hC dX9_goesOn_422 rfl rfl rfl ?_
  refine aw_iconst (pc' := 424) hC dX9_goesOn_423 rfl (by decide) ?_
  refine aw_icmp_ge (tgt := 441) (pc' := 427) hC dX9_goesOn_424 (by decide) rfl (fun c13 => ?_) (fun c13 => ?_)
  · replace h := it_n c13 h
    refine aw_iload_n (pc' := 442) (i := 2) hC dX9_goesOn_441 rfl rfl rfl ?_
    refine aw_iconst (pc' := 443) hC dX9_goesOn_442 rfl (by decide) ?_
    refine aw_icmp_ne (tgt := 496) (pc' := 446) hC dX9_goesOn_443 (by decide) rfl (fun c14 => ?_) (fun c14 => ?_)
    · replace h := it_n c14 h
      refine aw_aload_n (pc' := 497) (i := 0) hC dX9_goesOn_496 rfl rfl rfl ?_
      refine aw_iload_n (pc' := 498) (i := 2) hC dX9_goesOn_497 rfl rfl rfl ?_
      refine aw_iconst (pc' := 499) hC dX9_goesOn_498 rfl (by decide) ?_
      refine aw_icmp_ne (tgt := 507) (pc' := 502) hC dX9_goesOn_499 (by decide) rfl (fun c15 => ?_) (fun c15 => ?_)
      · replace h := it_n c15 h
        refine aw_bipush (pc' := 509) hC dX9_goesOn_507 rfl (by decide) ?_
        refine aw_sub hC [some (.inr (.inr v0)), some (.inl v1), some (.inl v2), none, none] ⟨rfl, ⟨rfl, ⟨rfl, trivial⟩⟩⟩ (Nat.le_of_ble_eq_true rfl) ?_
        exact w_X9_goesOn_J509 hC h hQ
      · replace h := it_p c15 h
        refine aw_bipush (pc' := 504) hC dX9_goesOn_502 rfl (by decide) ?_
        refine aw_goto (tgt := 509) hC dX9_goesOn_504 (by decide) ?_
        refine aw_sub hC [some (.inr (.inr v0)), some (.inl v1), some (.inl v2), none, none] ⟨rfl, ⟨rfl, ⟨rfl, trivial⟩⟩⟩ (Nat.le_of_ble_eq_true rfl) ?_
        exact w_X9_goesOn_J509 hC h hQ
    · replace h := it_p c14 h
      refine aw_aload_n (pc' := 447) (i := 0) hC dX9_goesOn_446 rfl rfl rfl ?_
      refine aw_bipush (pc' := 449) hC dX9_goesOn_447 rfl (by decide) ?_
      obtain ⟨g46, h⟩ := gd_s h
      obtain ⟨x47, q45, h⟩ := pb_s h
      replace h := u1_s h
      refine aw_cV (pc' := 452) (k2 := 0) (n2 := 0) (st := []) (stN := [.inl x47]) hC [.inl 44] (mX9_isSign q45) lk_X9_254 g46 dX9_goesOn_449 rfl rfl (Nat.le_of_ble_eq_true rfl) (Nat.le_of_ble_eq_true rfl) (Nat.le_of_ble_eq_true rfl) rfl (Nat.le_of_ble_eq_true rfl) rfl rfl rfl ?_
      refine aw_if_ne (tgt := 464) (pc' := 455) hC dX9_goesOn_452 (by decide) rfl (fun c48 => ?_) (fun c48 => ?_)
      · replace h := it_n c48 h
        refine aw_sub hC [some (.inr (.inr v0)), some (.inl v1), none, none, none] ⟨rfl, ⟨rfl, trivial⟩⟩ (Nat.le_of_ble_eq_true rfl) ?_
        exact w_X9_goesOn_J464 hC h hQ
      · replace h := it_p c48 h
        refine aw_aload_n (pc' := 456) (i := 0) hC dX9_goesOn_455 rfl rfl rfl ?_
        refine aw_iconst (pc' := 457) hC dX9_goesOn_456 rfl (by decide) ?_
        refine aw_aload_n (pc' := 458) (i := 0) hC dX9_goesOn_457 rfl rfl rfl ?_
        refine aw_getfield (pc' := 461) (v := (.inl (M v0 4))) hC dX9_goesOn_458 rfl fl_X9_23 g46 rfl ?_
        obtain ⟨M61, q60, h⟩ := pb_s h
        replace h := u1_s h
        refine aw_cV (pc' := 464) (k2 := 0) (n2 := 0) (st := []) (stN := []) hC [.inl 1, .inl (M v0 4)] (mX9_blame q60) lk_X9_236 g46 dX9_goesOn_461 rfl rfl (Nat.le_of_ble_eq_true rfl) (Nat.le_of_ble_eq_true rfl) (Nat.le_of_ble_eq_true rfl) rfl (Nat.le_of_ble_eq_true rfl) rfl rfl rfl ?_
        refine aw_sub hC [some (.inr (.inr v0)), some (.inl v1), none, none, none] ⟨rfl, ⟨rfl, trivial⟩⟩ (Nat.le_of_ble_eq_true rfl) ?_
        exact w_X9_goesOn_J464 hC h hQ
  · replace h := it_p c13 h
    refine aw_aload_n (pc' := 428) (i := 0) hC dX9_goesOn_427 rfl rfl rfl ?_
    obtain ⟨g62, h⟩ := gd_s h
    refine aw_getfield (pc' := 431) (v := (.inl (M v0 8))) hC dX9_goesOn_428 rfl fl_X9_36 g62 rfl ?_
    refine aw_if_ne (tgt := 439) (pc' := 434) hC dX9_goesOn_431 (by decide) rfl (fun c63 => ?_) (fun c63 => ?_)
    · replace h := it_n c63 h
      refine aw_iconst (pc' := 440) hC dX9_goesOn_439 rfl (by decide) ?_
      cases h
      subst hQ
      exact aw_zret hC (Or.inl rfl) dX9_goesOn_440 (Nat.le_of_ble_eq_true rfl) (Nat.le_of_ble_eq_true rfl)
    · replace h := it_p c63 h
      refine aw_aload_n (pc' := 435) (i := 0) hC dX9_goesOn_434 rfl rfl rfl ?_
      refine aw_iconst (pc' := 436) hC dX9_goesOn_435 rfl (by decide) ?_
      obtain ⟨M65, q64, h⟩ := pb_s h
      replace h := u1_s h
      refine aw_cV (pc' := 439) (k2 := 0) (n2 := 0) (st := []) (stN := []) hC [.inl 1] (mX9_joins q64) lk_X9_339 g62 dX9_goesOn_436 rfl rfl (Nat.le_of_ble_eq_true rfl) (Nat.le_of_ble_eq_true rfl) (Nat.le_of_ble_eq_true rfl) rfl (Nat.le_of_ble_eq_true rfl) rfl rfl rfl ?_
      refine aw_iconst (pc' := 440) hC dX9_goesOn_439 rfl (by decide) ?_
      cases h
      subst hQ
      exact aw_zret hC (Or.inl rfl) dX9_goesOn_440 (Nat.le_of_ble_eq_true rfl) (Nat.le_of_ble_eq_true rfl)
set_option maxRecDepth 100000 in
set_option maxHeartbeats 4000000 in
theorem w_X9_goesOn_J400 {Γ : AwC} (hC : AOK Γ RX9 cX9_goesOn 5 3 0 0 "goesOn" (some .boolean)) {sh : AwS} {M : AwM} {v0 : Int} {v1 : Int} {v2 : Int} {v3 : Int} {r : Int} {M' : AwM} (h : fX9_goesOn_J400 sh M v0 v1 v2 v3 = some (r, M')) {Q : State → Prop} (hQ : Q = (fin_ Γ 0 0 (some (.inl r)) sh M')) : AW Γ sh M 0 0 400 [some (.inr (.inr v0)), some (.inl v1), some (.inl v2), some (.inl v3), none] [] Q := by
  unfold fX9_goesOn_J400 at h
  refine aw_iload_n (pc' := 401) (i := 3) hC dX9_goesOn_400 rfl rfl rfl ?_
  refine aw_if_eq (tgt := 422) (pc' := 404) hC dX9_goesOn_401 (by decide) rfl (fun c12 => ?_) (fun c12 => ?_)
  · replace h := it_p c12 h
    refine aw_sub hC [some (.inr (.inr v0)), some (.inl v1), some (.inl v2), none, none] ⟨rfl, ⟨rfl, ⟨rfl, trivial⟩⟩⟩ (Nat.le_of_ble_eq_true rfl) ?_
    exact w_X9_goesOn_J422 hC h hQ
  · replace h := it_n c12 h
    refine aw_aload_n (pc' := 405) (i := 0) hC dX9_goesOn_404 rfl rfl rfl ?_
    obtain ⟨g66, h⟩ := gd_s h
    refine aw_getfield (pc' := 408) (v := (.inr (.inr (M v0 38)))) hC dX9_goesOn_405 rfl fl_X9_127 g66 rfl ?_
    refine aw_iload_n (pc' := 409) (i := 1) hC dX9_goesOn_408 rfl rfl rfl ?_
    obtain ⟨g67, h⟩ := gd_s h
    refine aw_iaload (pc' := 410) hC dX9_goesOn_409 rfl g67 ?_
    refine aw_if_ne (tgt := 422) (pc' := 413) hC dX9_goesOn_410 (by decide) rfl (fun c68 => ?_) (fun c68 => ?_)
    · replace h := it_n c68 h
      refine aw_sub hC [some (.inr (.inr v0)), some (.inl v1), some (.inl v2), none, none] ⟨rfl, ⟨rfl, ⟨rfl, trivial⟩⟩⟩ (Nat.le_of_ble_eq_true rfl) ?_
      exact w_X9_goesOn_J422 hC h hQ
    · replace h := it_p c68 h
      refine aw_aload_n (pc' := 414) (i := 0) hC dX9_goesOn_413 rfl rfl rfl ?_
      refine aw_iconst (pc' := 415) hC dX9_goesOn_414 rfl (by decide) ?_
      refine aw_aload_n (pc' := 416) (i := 0) hC dX9_goesOn_415 rfl rfl rfl ?_
      refine aw_getfield (pc' := 419) (v := (.inl (M v0 4))) hC dX9_goesOn_416 rfl fl_X9_23 g66 rfl ?_
      obtain ⟨M70, q69, h⟩ := pb_s h
      replace h := u1_s h
      refine aw_cV (pc' := 422) (k2 := 0) (n2 := 0) (st := []) (stN := []) hC [.inl 1, .inl (M v0 4)] (mX9_blame q69) lk_X9_236 g66 dX9_goesOn_419 rfl rfl (Nat.le_of_ble_eq_true rfl) (Nat.le_of_ble_eq_true rfl) (Nat.le_of_ble_eq_true rfl) rfl (Nat.le_of_ble_eq_true rfl) rfl rfl rfl ?_
      refine aw_sub hC [some (.inr (.inr v0)), some (.inl v1), some (.inl v2), none, none] ⟨rfl, ⟨rfl, ⟨rfl, trivial⟩⟩⟩ (Nat.le_of_ble_eq_true rfl) ?_
      exact w_X9_goesOn_J422 hC h hQ
set_option maxRecDepth 100000 in
set_option maxHeartbeats 4000000 in
theorem w_X9_goesOn_J372 {Γ : AwC} (hC : AOK Γ RX9 cX9_goesOn 5 3 0 0 "goesOn" (some .boolean)) {sh : AwS} {M : AwM} {v0 : Int} {v1 : Int} {s0 : Int} {s1 : Int} {r : Int} {M' : AwM} (h : fX9_goesOn_J372 sh M v0 v1 s0 s1 = some (r, M')) {Q : State → Prop} (hQ : Q = (fin_ Γ 0 0 (some (.inl r)) sh M')) : AW Γ sh M 0 0 372 [some (.inr (.inr v0)), some (.inl v1), none, none, none] [.inl s1, .inr (.inr s0)] Q := by
  unfold fX9_goesOn_J372 at h
  obtain ⟨g88, h⟩ := gd_s h
  obtain ⟨M89, q87, h⟩ := pb_s h
  replace h := u1_s h
  refine aw_cV (pc' := 375) (k2 := 0) (n2 := 0) (st := []) (stN := []) hC [.inl s1] (mX9_holdsBack q87) lk_X9_333 g88 dX9_goesOn_372 rfl rfl (Nat.le_of_ble_eq_true rfl) (Nat.le_of_ble_eq_true rfl) (Nat.le_of_ble_eq_true rfl) rfl (Nat.le_of_ble_eq_true rfl) rfl rfl rfl ?_
  refine aw_aload_n (pc' := 376) (i := 0) hC dX9_goesOn_375 rfl rfl rfl ?_
  obtain ⟨g90, h⟩ := gd_s h
  refine aw_getfield (pc' := 379) (v := (.inr (.inr (M89 v0 38)))) hC dX9_goesOn_376 rfl fl_X9_127 g90 rfl ?_
  refine aw_iload_n (pc' := 380) (i := 1) hC dX9_goesOn_379 rfl rfl rfl ?_
  refine aw_iconst (pc' := 381) hC dX9_goesOn_380 rfl (by decide) ?_
  obtain ⟨g91, h⟩ := gd_s h
  obtain ⟨M92, e93, h⟩ := bd_s h
  refine aw_ias (pc' := 382) hC dX9_goesOn_381 rfl g91 e93 ?_
  refine aw_aload_n (pc' := 383) (i := 0) hC dX9_goesOn_382 rfl rfl rfl ?_
  refine aw_getfield (pc' := 386) (v := (.inr (.inr (M92 v0 39)))) hC dX9_goesOn_383 rfl fl_X9_130 g90 rfl ?_
  refine aw_iload_n (pc' := 387) (i := 1) hC dX9_goesOn_386 rfl rfl rfl ?_
  refine aw_iconst (pc' := 388) hC dX9_goesOn_387 rfl (by decide) ?_
  obtain ⟨g94, h⟩ := gd_s h
  obtain ⟨M95, e96, h⟩ := bd_s h
  refine aw_zas (pc' := 389) hC dX9_goesOn_388 rfl g94 (Or.inr rfl) e96 ?_
  refine aw_aload_n (pc' := 390) (i := 0) hC dX9_goesOn_389 rfl rfl rfl ?_
  obtain ⟨M98, q97, h⟩ := pb_s h
  replace h := u1_s h
  refine aw_cV (pc' := 393) (k2 := 0) (n2 := 0) (st := []) (stN := []) hC [] (mX9_ahead q97) lk_X9_257 g90 dX9_goesOn_390 rfl rfl (Nat.le_of_ble_eq_true rfl) (Nat.le_of_ble_eq_true rfl) (Nat.le_of_ble_eq_true rfl) rfl (Nat.le_of_ble_eq_true rfl) rfl rfl rfl ?_
  refine aw_aload_n (pc' := 394) (i := 0) hC dX9_goesOn_393 rfl rfl rfl ?_
  refine aw_iconst (pc' := 395) hC dX9_goesOn_394 rfl (by decide) ?_
  obtain ⟨M99, e100, h⟩ := bd_s h
  refine aw_pf (pc' := 398) hC dX9_goesOn_395 rfl fp_X9_152 g90 rfl (Or.inl rfl) e100 ?_
  refine aw_iconst (pc' := 399) hC dX9_goesOn_398 rfl (by decide) ?_
  cases h
  subst hQ
  exact aw_zret hC (Or.inr rfl) dX9_goesOn_399 (Nat.le_of_ble_eq_true rfl) (Nat.le_of_ble_eq_true rfl)
set_option maxRecDepth 100000 in
set_option maxHeartbeats 4000000 in
theorem w_X9_goesOn_J356 {Γ : AwC} (hC : AOK Γ RX9 cX9_goesOn 5 3 0 0 "goesOn" (some .boolean)) {sh : AwS} {M : AwM} {v0 : Int} {v1 : Int} {v4 : Int} {s0 : Int} {s1 : Int} {r : Int} {M' : AwM} (h : fX9_goesOn_J356 sh M v0 v1 v4 s0 s1 = some (r, M')) {Q : State → Prop} (hQ : Q = (fin_ Γ 0 0 (some (.inl r)) sh M')) : AW Γ sh M 0 0 356 [some (.inr (.inr v0)), some (.inl v1), none, none, some (.inl v4)] [.inl s1, .inr (.inr s0)] Q := by
  unfold fX9_goesOn_J356 at h
  obtain ⟨g84, h⟩ := gd_s h
  obtain ⟨M85, q83, h⟩ := pb_s h
  replace h := u1_s h
  refine aw_cV (pc' := 359) (k2 := 0) (n2 := 0) (st := []) (stN := []) hC [.inl s1] (mX9_joins q83) lk_X9_339 g84 dX9_goesOn_356 rfl rfl (Nat.le_of_ble_eq_true rfl) (Nat.le_of_ble_eq_true rfl) (Nat.le_of_ble_eq_true rfl) rfl (Nat.le_of_ble_eq_true rfl) rfl rfl rfl ?_
  refine aw_aload_n (pc' := 360) (i := 0) hC dX9_goesOn_359 rfl rfl rfl ?_
  refine aw_iload (pc' := 362) hC dX9_goesOn_360 rfl rfl ?_
  refine aw_if_eq (tgt := 370) (pc' := 365) hC dX9_goesOn_362 (by decide) rfl (fun c86 => ?_) (fun c86 => ?_)
  · replace h := it_p c86 h
    refine aw_bipush (pc' := 372) hC dX9_goesOn_370 rfl (by decide) ?_
    refine aw_sub hC [some (.inr (.inr v0)), some (.inl v1), none, none, none] ⟨rfl, ⟨rfl, trivial⟩⟩ (Nat.le_of_ble_eq_true rfl) ?_
    exact w_X9_goesOn_J372 hC h hQ
  · replace h := it_n c86 h
    refine aw_bipush (pc' := 367) hC dX9_goesOn_365 rfl (by decide) ?_
    refine aw_goto (tgt := 372) hC dX9_goesOn_367 (by decide) ?_
    refine aw_sub hC [some (.inr (.inr v0)), some (.inl v1), none, none, none] ⟨rfl, ⟨rfl, trivial⟩⟩ (Nat.le_of_ble_eq_true rfl) ?_
    exact w_X9_goesOn_J372 hC h hQ
set_option maxRecDepth 100000 in
set_option maxHeartbeats 4000000 in
theorem w_X9_goesOn_J327 {Γ : AwC} (hC : AOK Γ RX9 cX9_goesOn 5 3 0 0 "goesOn" (some .boolean)) {sh : AwS} {M : AwM} {v0 : Int} {v1 : Int} {r : Int} {M' : AwM} (h : fX9_goesOn_J327 sh M v0 v1 = some (r, M')) {Q : State → Prop} (hQ : Q = (fin_ Γ 0 0 (some (.inl r)) sh M')) : AW Γ sh M 0 0 327 [some (.inr (.inr v0)), some (.inl v1), none, none, none] [] Q := by
  unfold fX9_goesOn_J327 at h
  refine aw_aload_n (pc' := 328) (i := 0) hC dX9_goesOn_327 rfl rfl rfl ?_
  obtain ⟨g78, h⟩ := gd_s h
  refine aw_getfield (pc' := 331) (v := (.inl (M v0 8))) hC dX9_goesOn_328 rfl fl_X9_36 g78 rfl ?_
  refine aw_if_le (tgt := 336) (pc' := 334) hC dX9_goesOn_331 (by decide) rfl (fun c79 => ?_) (fun c79 => ?_)
  · replace h := it_n c79 h
    refine aw_aload_n (pc' := 337) (i := 0) hC dX9_goesOn_336 rfl rfl rfl ?_
    refine aw_ldc2 (pc' := 340) (v := 6385252) hC dX9_goesOn_337 rfl ck_X9_296 (by unfold I64; omega) ?_
    obtain ⟨x81, q80, h⟩ := pb_s h
    replace h := u1_s h
    refine aw_cV (pc' := 343) (k2 := 0) (n2 := 0) (st := []) (stN := [.inl x81]) hC [.inr (.inl 6385252)] (mX9_isWord q80) lk_X9_330 g78 dX9_goesOn_340 rfl rfl (Nat.le_of_ble_eq_true rfl) (Nat.le_of_ble_eq_true rfl) (Nat.le_of_ble_eq_true rfl) rfl (Nat.le_of_ble_eq_true rfl) rfl rfl rfl ?_
    refine aw_istore (pc' := 345) (ls' := [some (.inr (.inr v0)), some (.inl v1), none, none, some (.inl x81)]) hC dX9_goesOn_343 rfl (Nat.le_of_ble_eq_true rfl) rfl rfl ?_
    refine aw_aload_n (pc' := 346) (i := 0) hC dX9_goesOn_345 rfl rfl rfl ?_
    refine aw_iload (pc' := 348) hC dX9_goesOn_346 rfl rfl ?_
    refine aw_if_eq (tgt := 355) (pc' := 351) hC dX9_goesOn_348 (by decide) rfl (fun c82 => ?_) (fun c82 => ?_)
    · replace h := it_p c82 h
      refine aw_iconst (pc' := 356) hC dX9_goesOn_355 rfl (by decide) ?_
      refine aw_sub hC [some (.inr (.inr v0)), some (.inl v1), none, none, some (.inl x81)] ⟨rfl, ⟨rfl, ⟨rfl, trivial⟩⟩⟩ (Nat.le_of_ble_eq_true rfl) ?_
      exact w_X9_goesOn_J356 hC h hQ
    · replace h := it_n c82 h
      refine aw_iconst (pc' := 352) hC dX9_goesOn_351 rfl (by decide) ?_
      refine aw_goto (tgt := 356) hC dX9_goesOn_352 (by decide) ?_
      refine aw_sub hC [some (.inr (.inr v0)), some (.inl v1), none, none, some (.inl x81)] ⟨rfl, ⟨rfl, ⟨rfl, trivial⟩⟩⟩ (Nat.le_of_ble_eq_true rfl) ?_
      exact w_X9_goesOn_J356 hC h hQ
  · replace h := it_p c79 h
    refine aw_iconst (pc' := 335) hC dX9_goesOn_334 rfl (by decide) ?_
    cases h
    subst hQ
    exact aw_zret hC (Or.inl rfl) dX9_goesOn_335 (Nat.le_of_ble_eq_true rfl) (Nat.le_of_ble_eq_true rfl)
set_option maxRecDepth 100000 in
set_option maxHeartbeats 4000000 in
theorem w_X9_goesOn_J309 {Γ : AwC} (hC : AOK Γ RX9 cX9_goesOn 5 3 0 0 "goesOn" (some .boolean)) {sh : AwS} {M : AwM} {v0 : Int} {v1 : Int} {r : Int} {M' : AwM} (h : fX9_goesOn_J309 sh M v0 v1 = some (r, M')) {Q : State → Prop} (hQ : Q = (fin_ Γ 0 0 (some (.inl r)) sh M')) : AW Γ sh M 0 0 309 [some (.inr (.inr v0)), some (.inl v1), none, none, none] [] Q := by
  unfold fX9_goesOn_J309 at h
  refine aw_aload_n (pc' := 310) (i := 0) hC dX9_goesOn_309 rfl rfl rfl ?_
  obtain ⟨g75, h⟩ := gd_s h
  refine aw_getfield (pc' := 313) (v := (.inr (.inr (M v0 38)))) hC dX9_goesOn_310 rfl fl_X9_127 g75 rfl ?_
  refine aw_iload_n (pc' := 314) (i := 1) hC dX9_goesOn_313 rfl rfl rfl ?_
  obtain ⟨g76, h⟩ := gd_s h
  refine aw_iaload (pc' := 315) hC dX9_goesOn_314 rfl g76 ?_
  refine aw_if_ne (tgt := 327) (pc' := 318) hC dX9_goesOn_315 (by decide) rfl (fun c77 => ?_) (fun c77 => ?_)
  · replace h := it_n c77 h
    refine aw_sub hC [some (.inr (.inr v0)), some (.inl v1), none, none, none] ⟨rfl, ⟨rfl, trivial⟩⟩ (Nat.le_of_ble_eq_true rfl) ?_
    exact w_X9_goesOn_J327 hC h hQ
  · replace h := it_p c77 h
    refine aw_aload_n (pc' := 319) (i := 0) hC dX9_goesOn_318 rfl rfl rfl ?_
    refine aw_iconst (pc' := 320) hC dX9_goesOn_319 rfl (by decide) ?_
    refine aw_aload_n (pc' := 321) (i := 0) hC dX9_goesOn_320 rfl rfl rfl ?_
    refine aw_getfield (pc' := 324) (v := (.inl (M v0 4))) hC dX9_goesOn_321 rfl fl_X9_23 g75 rfl ?_
    obtain ⟨M102, q101, h⟩ := pb_s h
    replace h := u1_s h
    refine aw_cV (pc' := 327) (k2 := 0) (n2 := 0) (st := []) (stN := []) hC [.inl 1, .inl (M v0 4)] (mX9_blame q101) lk_X9_236 g75 dX9_goesOn_324 rfl rfl (Nat.le_of_ble_eq_true rfl) (Nat.le_of_ble_eq_true rfl) (Nat.le_of_ble_eq_true rfl) rfl (Nat.le_of_ble_eq_true rfl) rfl rfl rfl ?_
    refine aw_sub hC [some (.inr (.inr v0)), some (.inl v1), none, none, none] ⟨rfl, ⟨rfl, trivial⟩⟩ (Nat.le_of_ble_eq_true rfl) ?_
    exact w_X9_goesOn_J327 hC h hQ
set_option maxRecDepth 100000 in
set_option maxHeartbeats 4000000 in
theorem w_X9_goesOn_J285 {Γ : AwC} (hC : AOK Γ RX9 cX9_goesOn 5 3 0 0 "goesOn" (some .boolean)) {sh : AwS} {M : AwM} {v0 : Int} {v1 : Int} {v2 : Int} {v3 : Int} {r : Int} {M' : AwM} (h : fX9_goesOn_J285 sh M v0 v1 v2 v3 = some (r, M')) {Q : State → Prop} (hQ : Q = (fin_ Γ 0 0 (some (.inl r)) sh M')) : AW Γ sh M 0 0 285 [some (.inr (.inr v0)), some (.inl v1), some (.inl v2), some (.inl v3), none] [] Q := by
  unfold fX9_goesOn_J285 at h
  refine aw_iload_n (pc' := 286) (i := 3) hC dX9_goesOn_285 rfl rfl rfl ?_
  refine aw_if_eq (tgt := 400) (pc' := 289) hC dX9_goesOn_286 (by decide) rfl (fun c11 => ?_) (fun c11 => ?_)
  · replace h := it_p c11 h
    refine aw_sub hC [some (.inr (.inr v0)), some (.inl v1), some (.inl v2), some (.inl v3), none] ⟨rfl, ⟨rfl, ⟨rfl, ⟨rfl, trivial⟩⟩⟩⟩ (Nat.le_of_ble_eq_true rfl) ?_
    exact w_X9_goesOn_J400 hC h hQ
  · replace h := it_n c11 h
    refine aw_aload_n (pc' := 290) (i := 0) hC dX9_goesOn_289 rfl rfl rfl ?_
    refine aw_ldc2 (pc' := 293) (v := 6385252) hC dX9_goesOn_290 rfl ck_X9_296 (by unfold I64; omega) ?_
    obtain ⟨g72, h⟩ := gd_s h
    obtain ⟨x73, q71, h⟩ := pb_s h
    replace h := u1_s h
    refine aw_cV (pc' := 296) (k2 := 0) (n2 := 0) (st := []) (stN := [.inl x73]) hC [.inr (.inl 6385252)] (mX9_isWord q71) lk_X9_330 g72 dX9_goesOn_293 rfl rfl (Nat.le_of_ble_eq_true rfl) (Nat.le_of_ble_eq_true rfl) (Nat.le_of_ble_eq_true rfl) rfl (Nat.le_of_ble_eq_true rfl) rfl rfl rfl ?_
    refine aw_if_ne (tgt := 309) (pc' := 299) hC dX9_goesOn_296 (by decide) rfl (fun c74 => ?_) (fun c74 => ?_)
    · replace h := it_n c74 h
      refine aw_sub hC [some (.inr (.inr v0)), some (.inl v1), none, none, none] ⟨rfl, ⟨rfl, trivial⟩⟩ (Nat.le_of_ble_eq_true rfl) ?_
      exact w_X9_goesOn_J309 hC h hQ
    · replace h := it_p c74 h
      refine aw_aload_n (pc' := 300) (i := 0) hC dX9_goesOn_299 rfl rfl rfl ?_
      refine aw_ldc2 (pc' := 303) (v := 28530) hC dX9_goesOn_300 rfl ck_X9_294 (by unfold I64; omega) ?_
      obtain ⟨x104, q103, h⟩ := pb_s h
      replace h := u1_s h
      refine aw_cV (pc' := 306) (k2 := 0) (n2 := 0) (st := []) (stN := [.inl x104]) hC [.inr (.inl 28530)] (mX9_isWord q103) lk_X9_330 g72 dX9_goesOn_303 rfl rfl (Nat.le_of_ble_eq_true rfl) (Nat.le_of_ble_eq_true rfl) (Nat.le_of_ble_eq_true rfl) rfl (Nat.le_of_ble_eq_true rfl) rfl rfl rfl ?_
      refine aw_if_eq (tgt := 400) (pc' := 309) hC dX9_goesOn_306 (by decide) rfl (fun c105 => ?_) (fun c105 => ?_)
      · replace h := it_p c105 h
        refine aw_sub hC [some (.inr (.inr v0)), some (.inl v1), some (.inl v2), some (.inl v3), none] ⟨rfl, ⟨rfl, ⟨rfl, ⟨rfl, trivial⟩⟩⟩⟩ (Nat.le_of_ble_eq_true rfl) ?_
        exact w_X9_goesOn_J400 hC h hQ
      · replace h := it_n c105 h
        refine aw_sub hC [some (.inr (.inr v0)), some (.inl v1), none, none, none] ⟨rfl, ⟨rfl, trivial⟩⟩ (Nat.le_of_ble_eq_true rfl) ?_
        exact w_X9_goesOn_J309 hC h hQ
set_option maxRecDepth 100000 in
set_option maxHeartbeats 4000000 in
theorem w_X9_goesOn_J264 {Γ : AwC} (hC : AOK Γ RX9 cX9_goesOn 5 3 0 0 "goesOn" (some .boolean)) {sh : AwS} {M : AwM} {v0 : Int} {v1 : Int} {s0 : Int} {s1 : Int} {r : Int} {M' : AwM} (h : fX9_goesOn_J264 sh M v0 v1 s0 s1 = some (r, M')) {Q : State → Prop} (hQ : Q = (fin_ Γ 0 0 (some (.inl r)) sh M')) : AW Γ sh M 0 0 264 [some (.inr (.inr v0)), some (.inl v1), none, none, none] [.inl s1, .inr (.inr s0)] Q := by
  unfold fX9_goesOn_J264 at h
  obtain ⟨g122, h⟩ := gd_s h
  obtain ⟨M123, q121, h⟩ := pb_s h
  replace h := u1_s h
  refine aw_cV (pc' := 267) (k2 := 0) (n2 := 0) (st := []) (stN := []) hC [.inl s1] (mX9_holdsBack q121) lk_X9_333 g122 dX9_goesOn_264 rfl rfl (Nat.le_of_ble_eq_true rfl) (Nat.le_of_ble_eq_true rfl) (Nat.le_of_ble_eq_true rfl) rfl (Nat.le_of_ble_eq_true rfl) rfl rfl rfl ?_
  refine aw_aload_n (pc' := 268) (i := 0) hC dX9_goesOn_267 rfl rfl rfl ?_
  obtain ⟨g124, h⟩ := gd_s h
  refine aw_getfield (pc' := 271) (v := (.inr (.inr (M123 v0 38)))) hC dX9_goesOn_268 rfl fl_X9_127 g124 rfl ?_
  refine aw_iload_n (pc' := 272) (i := 1) hC dX9_goesOn_271 rfl rfl rfl ?_
  refine aw_iconst (pc' := 273) hC dX9_goesOn_272 rfl (by decide) ?_
  obtain ⟨g125, h⟩ := gd_s h
  obtain ⟨M126, e127, h⟩ := bd_s h
  refine aw_ias (pc' := 274) hC dX9_goesOn_273 rfl g125 e127 ?_
  refine aw_aload_n (pc' := 275) (i := 0) hC dX9_goesOn_274 rfl rfl rfl ?_
  obtain ⟨M129, q128, h⟩ := pb_s h
  replace h := u1_s h
  refine aw_cV (pc' := 278) (k2 := 0) (n2 := 0) (st := []) (stN := []) hC [] (mX9_ahead q128) lk_X9_257 g124 dX9_goesOn_275 rfl rfl (Nat.le_of_ble_eq_true rfl) (Nat.le_of_ble_eq_true rfl) (Nat.le_of_ble_eq_true rfl) rfl (Nat.le_of_ble_eq_true rfl) rfl rfl rfl ?_
  refine aw_aload_n (pc' := 279) (i := 0) hC dX9_goesOn_278 rfl rfl rfl ?_
  refine aw_iconst (pc' := 280) hC dX9_goesOn_279 rfl (by decide) ?_
  obtain ⟨M130, e131, h⟩ := bd_s h
  refine aw_pf (pc' := 283) hC dX9_goesOn_280 rfl fp_X9_152 g124 rfl (Or.inl rfl) e131 ?_
  refine aw_iconst (pc' := 284) hC dX9_goesOn_283 rfl (by decide) ?_
  cases h
  subst hQ
  exact aw_zret hC (Or.inr rfl) dX9_goesOn_284 (Nat.le_of_ble_eq_true rfl) (Nat.le_of_ble_eq_true rfl)
set_option maxRecDepth 100000 in
set_option maxHeartbeats 4000000 in
theorem w_X9_goesOn_J228 {Γ : AwC} (hC : AOK Γ RX9 cX9_goesOn 5 3 0 0 "goesOn" (some .boolean)) {sh : AwS} {M : AwM} {v0 : Int} {v1 : Int} {r : Int} {M' : AwM} (h : fX9_goesOn_J228 sh M v0 v1 = some (r, M')) {Q : State → Prop} (hQ : Q = (fin_ Γ 0 0 (some (.inl r)) sh M')) : AW Γ sh M 0 0 228 [some (.inr (.inr v0)), some (.inl v1), none, none, none] [] Q := by
  unfold fX9_goesOn_J228 at h
  refine aw_aload_n (pc' := 229) (i := 0) hC dX9_goesOn_228 rfl rfl rfl ?_
  refine aw_iconst (pc' := 230) hC dX9_goesOn_229 rfl (by decide) ?_
  obtain ⟨g113, h⟩ := gd_s h
  obtain ⟨M114, q112, h⟩ := pb_s h
  replace h := u1_s h
  refine aw_cV (pc' := 233) (k2 := 0) (n2 := 0) (st := []) (stN := []) hC [.inl 5] (mX9_joins q112) lk_X9_339 g113 dX9_goesOn_230 rfl rfl (Nat.le_of_ble_eq_true rfl) (Nat.le_of_ble_eq_true rfl) (Nat.le_of_ble_eq_true rfl) rfl (Nat.le_of_ble_eq_true rfl) rfl rfl rfl ?_
  refine aw_aload_n (pc' := 234) (i := 0) hC dX9_goesOn_233 rfl rfl rfl ?_
  refine aw_aload_n (pc' := 235) (i := 0) hC dX9_goesOn_234 rfl rfl rfl ?_
  refine aw_bipush (pc' := 237) hC dX9_goesOn_235 rfl (by decide) ?_
  obtain ⟨x116, q115, h⟩ := pb_s h
  replace h := u1_s h
  refine aw_cV (pc' := 240) (k2 := 0) (n2 := 0) (st := [.inr (.inr v0)]) (stN := [.inl x116, .inr (.inr v0)]) hC [.inl 60] (mX9_isSign q115) lk_X9_254 g113 dX9_goesOn_237 rfl rfl (Nat.le_of_ble_eq_true rfl) (Nat.le_of_ble_eq_true rfl) (Nat.le_of_ble_eq_true rfl) rfl (Nat.le_of_ble_eq_true rfl) rfl rfl rfl ?_
  refine aw_if_eq (tgt := 248) (pc' := 243) hC dX9_goesOn_240 (by decide) rfl (fun c117 => ?_) (fun c117 => ?_)
  · replace h := it_p c117 h
    refine aw_aload_n (pc' := 249) (i := 0) hC dX9_goesOn_248 rfl rfl rfl ?_
    refine aw_bipush (pc' := 251) hC dX9_goesOn_249 rfl (by decide) ?_
    obtain ⟨x119, q118, h⟩ := pb_s h
    replace h := u1_s h
    refine aw_cV (pc' := 254) (k2 := 0) (n2 := 0) (st := [.inr (.inr v0)]) (stN := [.inl x119, .inr (.inr v0)]) hC [.inl 62] (mX9_isSign q118) lk_X9_254 g113 dX9_goesOn_251 rfl rfl (Nat.le_of_ble_eq_true rfl) (Nat.le_of_ble_eq_true rfl) (Nat.le_of_ble_eq_true rfl) rfl (Nat.le_of_ble_eq_true rfl) rfl rfl rfl ?_
    refine aw_if_eq (tgt := 262) (pc' := 257) hC dX9_goesOn_254 (by decide) rfl (fun c120 => ?_) (fun c120 => ?_)
    · replace h := it_p c120 h
      refine aw_bipush (pc' := 264) hC dX9_goesOn_262 rfl (by decide) ?_
      refine aw_sub hC [some (.inr (.inr v0)), some (.inl v1), none, none, none] ⟨rfl, ⟨rfl, trivial⟩⟩ (Nat.le_of_ble_eq_true rfl) ?_
      exact w_X9_goesOn_J264 hC h hQ
    · replace h := it_n c120 h
      refine aw_bipush (pc' := 259) hC dX9_goesOn_257 rfl (by decide) ?_
      refine aw_goto (tgt := 264) hC dX9_goesOn_259 (by decide) ?_
      refine aw_sub hC [some (.inr (.inr v0)), some (.inl v1), none, none, none] ⟨rfl, ⟨rfl, trivial⟩⟩ (Nat.le_of_ble_eq_true rfl) ?_
      exact w_X9_goesOn_J264 hC h hQ
  · replace h := it_n c117 h
    refine aw_bipush (pc' := 245) hC dX9_goesOn_243 rfl (by decide) ?_
    refine aw_goto (tgt := 264) hC dX9_goesOn_245 (by decide) ?_
    refine aw_sub hC [some (.inr (.inr v0)), some (.inl v1), none, none, none] ⟨rfl, ⟨rfl, trivial⟩⟩ (Nat.le_of_ble_eq_true rfl) ?_
    exact w_X9_goesOn_J264 hC h hQ
set_option maxRecDepth 100000 in
set_option maxHeartbeats 4000000 in
theorem w_X9_goesOn_J188 {Γ : AwC} (hC : AOK Γ RX9 cX9_goesOn 5 3 0 0 "goesOn" (some .boolean)) {sh : AwS} {M : AwM} {v0 : Int} {v1 : Int} {v2 : Int} {v3 : Int} {r : Int} {M' : AwM} (h : fX9_goesOn_J188 sh M v0 v1 v2 v3 = some (r, M')) {Q : State → Prop} (hQ : Q = (fin_ Γ 0 0 (some (.inl r)) sh M')) : AW Γ sh M 0 0 188 [some (.inr (.inr v0)), some (.inl v1), some (.inl v2), some (.inl v3), none] [] Q := by
  unfold fX9_goesOn_J188 at h
  refine aw_iload_n (pc' := 189) (i := 3) hC dX9_goesOn_188 rfl rfl rfl ?_
  refine aw_if_eq (tgt := 285) (pc' := 192) hC dX9_goesOn_189 (by decide) rfl (fun c10 => ?_) (fun c10 => ?_)
  · replace h := it_p c10 h
    refine aw_sub hC [some (.inr (.inr v0)), some (.inl v1), some (.inl v2), some (.inl v3), none] ⟨rfl, ⟨rfl, ⟨rfl, ⟨rfl, trivial⟩⟩⟩⟩ (Nat.le_of_ble_eq_true rfl) ?_
    exact w_X9_goesOn_J285 hC h hQ
  · replace h := it_n c10 h
    refine aw_aload_n (pc' := 193) (i := 0) hC dX9_goesOn_192 rfl rfl rfl ?_
    obtain ⟨g106, h⟩ := gd_s h
    refine aw_getfield (pc' := 196) (v := (.inr (.inr (M v0 38)))) hC dX9_goesOn_193 rfl fl_X9_127 g106 rfl ?_
    refine aw_iload_n (pc' := 197) (i := 1) hC dX9_goesOn_196 rfl rfl rfl ?_
    obtain ⟨g107, h⟩ := gd_s h
    refine aw_iaload (pc' := 198) hC dX9_goesOn_197 rfl g107 ?_
    refine aw_if_ne (tgt := 285) (pc' := 201) hC dX9_goesOn_198 (by decide) rfl (fun c108 => ?_) (fun c108 => ?_)
    · replace h := it_n c108 h
      refine aw_sub hC [some (.inr (.inr v0)), some (.inl v1), some (.inl v2), some (.inl v3), none] ⟨rfl, ⟨rfl, ⟨rfl, ⟨rfl, trivial⟩⟩⟩⟩ (Nat.le_of_ble_eq_true rfl) ?_
      exact w_X9_goesOn_J285 hC h hQ
    · replace h := it_p c108 h
      refine aw_aload_n (pc' := 202) (i := 0) hC dX9_goesOn_201 rfl rfl rfl ?_
      refine aw_bipush (pc' := 204) hC dX9_goesOn_202 rfl (by decide) ?_
      obtain ⟨x110, q109, h⟩ := pb_s h
      replace h := u1_s h
      refine aw_cV (pc' := 207) (k2 := 0) (n2 := 0) (st := []) (stN := [.inl x110]) hC [.inl 60] (mX9_isSign q109) lk_X9_254 g106 dX9_goesOn_204 rfl rfl (Nat.le_of_ble_eq_true rfl) (Nat.le_of_ble_eq_true rfl) (Nat.le_of_ble_eq_true rfl) rfl (Nat.le_of_ble_eq_true rfl) rfl rfl rfl ?_
      refine aw_if_ne (tgt := 228) (pc' := 210) hC dX9_goesOn_207 (by decide) rfl (fun c111 => ?_) (fun c111 => ?_)
      · replace h := it_n c111 h
        refine aw_sub hC [some (.inr (.inr v0)), some (.inl v1), none, none, none] ⟨rfl, ⟨rfl, trivial⟩⟩ (Nat.le_of_ble_eq_true rfl) ?_
        exact w_X9_goesOn_J228 hC h hQ
      · replace h := it_p c111 h
        refine aw_aload_n (pc' := 211) (i := 0) hC dX9_goesOn_210 rfl rfl rfl ?_
        refine aw_bipush (pc' := 213) hC dX9_goesOn_211 rfl (by decide) ?_
        obtain ⟨x133, q132, h⟩ := pb_s h
        replace h := u1_s h
        refine aw_cV (pc' := 216) (k2 := 0) (n2 := 0) (st := []) (stN := [.inl x133]) hC [.inl 62] (mX9_isSign q132) lk_X9_254 g106 dX9_goesOn_213 rfl rfl (Nat.le_of_ble_eq_true rfl) (Nat.le_of_ble_eq_true rfl) (Nat.le_of_ble_eq_true rfl) rfl (Nat.le_of_ble_eq_true rfl) rfl rfl rfl ?_
        refine aw_if_ne (tgt := 228) (pc' := 219) hC dX9_goesOn_216 (by decide) rfl (fun c134 => ?_) (fun c134 => ?_)
        · replace h := it_n c134 h
          refine aw_sub hC [some (.inr (.inr v0)), some (.inl v1), none, none, none] ⟨rfl, ⟨rfl, trivial⟩⟩ (Nat.le_of_ble_eq_true rfl) ?_
          exact w_X9_goesOn_J228 hC h hQ
        · replace h := it_p c134 h
          refine aw_aload_n (pc' := 220) (i := 0) hC dX9_goesOn_219 rfl rfl rfl ?_
          refine aw_bipush (pc' := 222) hC dX9_goesOn_220 rfl (by decide) ?_
          obtain ⟨x136, q135, h⟩ := pb_s h
          replace h := u1_s h
          refine aw_cV (pc' := 225) (k2 := 0) (n2 := 0) (st := []) (stN := [.inl x136]) hC [.inl 61] (mX9_isSign q135) lk_X9_254 g106 dX9_goesOn_222 rfl rfl (Nat.le_of_ble_eq_true rfl) (Nat.le_of_ble_eq_true rfl) (Nat.le_of_ble_eq_true rfl) rfl (Nat.le_of_ble_eq_true rfl) rfl rfl rfl ?_
          refine aw_if_eq (tgt := 285) (pc' := 228) hC dX9_goesOn_225 (by decide) rfl (fun c137 => ?_) (fun c137 => ?_)
          · replace h := it_p c137 h
            refine aw_sub hC [some (.inr (.inr v0)), some (.inl v1), some (.inl v2), some (.inl v3), none] ⟨rfl, ⟨rfl, ⟨rfl, ⟨rfl, trivial⟩⟩⟩⟩ (Nat.le_of_ble_eq_true rfl) ?_
            exact w_X9_goesOn_J285 hC h hQ
          · replace h := it_n c137 h
            refine aw_sub hC [some (.inr (.inr v0)), some (.inl v1), none, none, none] ⟨rfl, ⟨rfl, trivial⟩⟩ (Nat.le_of_ble_eq_true rfl) ?_
            exact w_X9_goesOn_J228 hC h hQ
set_option maxRecDepth 100000 in
set_option maxHeartbeats 4000000 in
theorem w_X9_goesOn_J174 {Γ : AwC} (hC : AOK Γ RX9 cX9_goesOn 5 3 0 0 "goesOn" (some .boolean)) {sh : AwS} {M : AwM} {v0 : Int} {s0 : Int} {s1 : Int} {r : Int} {M' : AwM} (h : fX9_goesOn_J174 sh M v0 s0 s1 = some (r, M')) {Q : State → Prop} (hQ : Q = (fin_ Γ 0 0 (some (.inl r)) sh M')) : AW Γ sh M 0 0 174 [some (.inr (.inr v0)), none, none, none, none] [.inl s1, .inr (.inr s0)] Q := by
  unfold fX9_goesOn_J174 at h
  obtain ⟨g162, h⟩ := gd_s h
  obtain ⟨M163, q161, h⟩ := pb_s h
  replace h := u1_s h
  refine aw_cV (pc' := 177) (k2 := 0) (n2 := 0) (st := []) (stN := []) hC [.inl s1] (mX9_holdsBack q161) lk_X9_333 g162 dX9_goesOn_174 rfl rfl (Nat.le_of_ble_eq_true rfl) (Nat.le_of_ble_eq_true rfl) (Nat.le_of_ble_eq_true rfl) rfl (Nat.le_of_ble_eq_true rfl) rfl rfl rfl ?_
  refine aw_aload_n (pc' := 178) (i := 0) hC dX9_goesOn_177 rfl rfl rfl ?_
  obtain ⟨g165, h⟩ := gd_s h
  obtain ⟨M166, q164, h⟩ := pb_s h
  replace h := u1_s h
  refine aw_cV (pc' := 181) (k2 := 0) (n2 := 0) (st := []) (stN := []) hC [] (mX9_ahead q164) lk_X9_257 g165 dX9_goesOn_178 rfl rfl (Nat.le_of_ble_eq_true rfl) (Nat.le_of_ble_eq_true rfl) (Nat.le_of_ble_eq_true rfl) rfl (Nat.le_of_ble_eq_true rfl) rfl rfl rfl ?_
  refine aw_aload_n (pc' := 182) (i := 0) hC dX9_goesOn_181 rfl rfl rfl ?_
  refine aw_iconst (pc' := 183) hC dX9_goesOn_182 rfl (by decide) ?_
  obtain ⟨M167, e168, h⟩ := bd_s h
  refine aw_pf (pc' := 186) hC dX9_goesOn_183 rfl fp_X9_152 g165 rfl (Or.inl rfl) e168 ?_
  refine aw_iconst (pc' := 187) hC dX9_goesOn_186 rfl (by decide) ?_
  cases h
  subst hQ
  exact aw_zret hC (Or.inr rfl) dX9_goesOn_187 (Nat.le_of_ble_eq_true rfl) (Nat.le_of_ble_eq_true rfl)
set_option maxRecDepth 100000 in
set_option maxHeartbeats 4000000 in
theorem w_X9_goesOn_J112 {Γ : AwC} (hC : AOK Γ RX9 cX9_goesOn 5 3 0 0 "goesOn" (some .boolean)) {sh : AwS} {M : AwM} {v0 : Int} {s0 : Int} {s1 : Int} {r : Int} {M' : AwM} (h : fX9_goesOn_J112 sh M v0 s0 s1 = some (r, M')) {Q : State → Prop} (hQ : Q = (fin_ Γ 0 0 (some (.inl r)) sh M')) : AW Γ sh M 0 0 112 [some (.inr (.inr v0)), none, none, none, none] [.inl s1, .inr (.inr s0)] Q := by
  unfold fX9_goesOn_J112 at h
  obtain ⟨g146, h⟩ := gd_s h
  obtain ⟨M147, q145, h⟩ := pb_s h
  replace h := u1_s h
  refine aw_cV (pc' := 115) (k2 := 0) (n2 := 0) (st := []) (stN := []) hC [.inl s1] (mX9_joins q145) lk_X9_339 g146 dX9_goesOn_112 rfl rfl (Nat.le_of_ble_eq_true rfl) (Nat.le_of_ble_eq_true rfl) (Nat.le_of_ble_eq_true rfl) rfl (Nat.le_of_ble_eq_true rfl) rfl rfl rfl ?_
  refine aw_aload_n (pc' := 116) (i := 0) hC dX9_goesOn_115 rfl rfl rfl ?_
  refine aw_aload_n (pc' := 117) (i := 0) hC dX9_goesOn_116 rfl rfl rfl ?_
  refine aw_bipush (pc' := 119) hC dX9_goesOn_117 rfl (by decide) ?_
  obtain ⟨g149, h⟩ := gd_s h
  obtain ⟨x150, q148, h⟩ := pb_s h
  replace h := u1_s h
  refine aw_cV (pc' := 122) (k2 := 0) (n2 := 0) (st := [.inr (.inr v0)]) (stN := [.inl x150, .inr (.inr v0)]) hC [.inl 43] (mX9_isSign q148) lk_X9_254 g149 dX9_goesOn_119 rfl rfl (Nat.le_of_ble_eq_true rfl) (Nat.le_of_ble_eq_true rfl) (Nat.le_of_ble_eq_true rfl) rfl (Nat.le_of_ble_eq_true rfl) rfl rfl rfl ?_
  refine aw_if_eq (tgt := 130) (pc' := 125) hC dX9_goesOn_122 (by decide) rfl (fun c151 => ?_) (fun c151 => ?_)
  · replace h := it_p c151 h
    refine aw_aload_n (pc' := 131) (i := 0) hC dX9_goesOn_130 rfl rfl rfl ?_
    refine aw_bipush (pc' := 133) hC dX9_goesOn_131 rfl (by decide) ?_
    obtain ⟨x153, q152, h⟩ := pb_s h
    replace h := u1_s h
    refine aw_cV (pc' := 136) (k2 := 0) (n2 := 0) (st := [.inr (.inr v0)]) (stN := [.inl x153, .inr (.inr v0)]) hC [.inl 45] (mX9_isSign q152) lk_X9_254 g149 dX9_goesOn_133 rfl rfl (Nat.le_of_ble_eq_true rfl) (Nat.le_of_ble_eq_true rfl) (Nat.le_of_ble_eq_true rfl) rfl (Nat.le_of_ble_eq_true rfl) rfl rfl rfl ?_
    refine aw_if_eq (tgt := 144) (pc' := 139) hC dX9_goesOn_136 (by decide) rfl (fun c154 => ?_) (fun c154 => ?_)
    · replace h := it_p c154 h
      refine aw_aload_n (pc' := 145) (i := 0) hC dX9_goesOn_144 rfl rfl rfl ?_
      refine aw_bipush (pc' := 147) hC dX9_goesOn_145 rfl (by decide) ?_
      obtain ⟨x156, q155, h⟩ := pb_s h
      replace h := u1_s h
      refine aw_cV (pc' := 150) (k2 := 0) (n2 := 0) (st := [.inr (.inr v0)]) (stN := [.inl x156, .inr (.inr v0)]) hC [.inl 42] (mX9_isSign q155) lk_X9_254 g149 dX9_goesOn_147 rfl rfl (Nat.le_of_ble_eq_true rfl) (Nat.le_of_ble_eq_true rfl) (Nat.le_of_ble_eq_true rfl) rfl (Nat.le_of_ble_eq_true rfl) rfl rfl rfl ?_
      refine aw_if_eq (tgt := 158) (pc' := 153) hC dX9_goesOn_150 (by decide) rfl (fun c157 => ?_) (fun c157 => ?_)
      · replace h := it_p c157 h
        refine aw_aload_n (pc' := 159) (i := 0) hC dX9_goesOn_158 rfl rfl rfl ?_
        refine aw_bipush (pc' := 161) hC dX9_goesOn_159 rfl (by decide) ?_
        obtain ⟨x159, q158, h⟩ := pb_s h
        replace h := u1_s h
        refine aw_cV (pc' := 164) (k2 := 0) (n2 := 0) (st := [.inr (.inr v0)]) (stN := [.inl x159, .inr (.inr v0)]) hC [.inl 47] (mX9_isSign q158) lk_X9_254 g149 dX9_goesOn_161 rfl rfl (Nat.le_of_ble_eq_true rfl) (Nat.le_of_ble_eq_true rfl) (Nat.le_of_ble_eq_true rfl) rfl (Nat.le_of_ble_eq_true rfl) rfl rfl rfl ?_
        refine aw_if_eq (tgt := 172) (pc' := 167) hC dX9_goesOn_164 (by decide) rfl (fun c160 => ?_) (fun c160 => ?_)
        · replace h := it_p c160 h
          refine aw_bipush (pc' := 174) hC dX9_goesOn_172 rfl (by decide) ?_
          refine aw_sub hC [some (.inr (.inr v0)), none, none, none, none] ⟨rfl, trivial⟩ (Nat.le_of_ble_eq_true rfl) ?_
          exact w_X9_goesOn_J174 hC h hQ
        · replace h := it_n c160 h
          refine aw_bipush (pc' := 169) hC dX9_goesOn_167 rfl (by decide) ?_
          refine aw_goto (tgt := 174) hC dX9_goesOn_169 (by decide) ?_
          refine aw_sub hC [some (.inr (.inr v0)), none, none, none, none] ⟨rfl, trivial⟩ (Nat.le_of_ble_eq_true rfl) ?_
          exact w_X9_goesOn_J174 hC h hQ
      · replace h := it_n c157 h
        refine aw_bipush (pc' := 155) hC dX9_goesOn_153 rfl (by decide) ?_
        refine aw_goto (tgt := 174) hC dX9_goesOn_155 (by decide) ?_
        refine aw_sub hC [some (.inr (.inr v0)), none, none, none, none] ⟨rfl, trivial⟩ (Nat.le_of_ble_eq_true rfl) ?_
        exact w_X9_goesOn_J174 hC h hQ
    · replace h := it_n c154 h
      refine aw_bipush (pc' := 141) hC dX9_goesOn_139 rfl (by decide) ?_
      refine aw_goto (tgt := 174) hC dX9_goesOn_141 (by decide) ?_
      refine aw_sub hC [some (.inr (.inr v0)), none, none, none, none] ⟨rfl, trivial⟩ (Nat.le_of_ble_eq_true rfl) ?_
      exact w_X9_goesOn_J174 hC h hQ
  · replace h := it_n c151 h
    refine aw_bipush (pc' := 127) hC dX9_goesOn_125 rfl (by decide) ?_
    refine aw_goto (tgt := 174) hC dX9_goesOn_127 (by decide) ?_
    refine aw_sub hC [some (.inr (.inr v0)), none, none, none, none] ⟨rfl, trivial⟩ (Nat.le_of_ble_eq_true rfl) ?_
    exact w_X9_goesOn_J174 hC h hQ
set_option maxRecDepth 100000 in
set_option maxHeartbeats 4000000 in
theorem w_X9_goesOn_J106 {Γ : AwC} (hC : AOK Γ RX9 cX9_goesOn 5 3 0 0 "goesOn" (some .boolean)) {sh : AwS} {M : AwM} {v0 : Int} {s0 : Int} {r : Int} {M' : AwM} (h : fX9_goesOn_J106 sh M v0 s0 = some (r, M')) {Q : State → Prop} (hQ : Q = (fin_ Γ 0 0 (some (.inl r)) sh M')) : AW Γ sh M 0 0 106 [some (.inr (.inr v0)), none, none, none, none] [.inr (.inr s0)] Q := by
  unfold fX9_goesOn_J106 at h
  refine aw_iconst (pc' := 107) hC dX9_goesOn_106 rfl (by decide) ?_
  refine aw_goto (tgt := 112) hC dX9_goesOn_107 (by decide) ?_
  refine aw_sub hC [some (.inr (.inr v0)), none, none, none, none] ⟨rfl, trivial⟩ (Nat.le_of_ble_eq_true rfl) ?_
  exact w_X9_goesOn_J112 hC h hQ
set_option maxRecDepth 100000 in
set_option maxHeartbeats 4000000 in
theorem w_X9_goesOn_J87 {Γ : AwC} (hC : AOK Γ RX9 cX9_goesOn 5 3 0 0 "goesOn" (some .boolean)) {sh : AwS} {M : AwM} {v0 : Int} {r : Int} {M' : AwM} (h : fX9_goesOn_J87 sh M v0 = some (r, M')) {Q : State → Prop} (hQ : Q = (fin_ Γ 0 0 (some (.inl r)) sh M')) : AW Γ sh M 0 0 87 [some (.inr (.inr v0)), none, none, none, none] [] Q := by
  unfold fX9_goesOn_J87 at h
  refine aw_aload_n (pc' := 88) (i := 0) hC dX9_goesOn_87 rfl rfl rfl ?_
  refine aw_aload_n (pc' := 89) (i := 0) hC dX9_goesOn_88 rfl rfl rfl ?_
  refine aw_bipush (pc' := 91) hC dX9_goesOn_89 rfl (by decide) ?_
  obtain ⟨g142, h⟩ := gd_s h
  obtain ⟨x143, q141, h⟩ := pb_s h
  replace h := u1_s h
  refine aw_cV (pc' := 94) (k2 := 0) (n2 := 0) (st := [.inr (.inr v0)]) (stN := [.inl x143, .inr (.inr v0)]) hC [.inl 43] (mX9_isSign q141) lk_X9_254 g142 dX9_goesOn_91 rfl rfl (Nat.le_of_ble_eq_true rfl) (Nat.le_of_ble_eq_true rfl) (Nat.le_of_ble_eq_true rfl) rfl (Nat.le_of_ble_eq_true rfl) rfl rfl rfl ?_
  refine aw_if_ne (tgt := 106) (pc' := 97) hC dX9_goesOn_94 (by decide) rfl (fun c144 => ?_) (fun c144 => ?_)
  · replace h := it_n c144 h
    refine aw_sub hC [some (.inr (.inr v0)), none, none, none, none] ⟨rfl, trivial⟩ (Nat.le_of_ble_eq_true rfl) ?_
    exact w_X9_goesOn_J106 hC h hQ
  · replace h := it_p c144 h
    refine aw_aload_n (pc' := 98) (i := 0) hC dX9_goesOn_97 rfl rfl rfl ?_
    refine aw_bipush (pc' := 100) hC dX9_goesOn_98 rfl (by decide) ?_
    obtain ⟨x170, q169, h⟩ := pb_s h
    replace h := u1_s h
    refine aw_cV (pc' := 103) (k2 := 0) (n2 := 0) (st := [.inr (.inr v0)]) (stN := [.inl x170, .inr (.inr v0)]) hC [.inl 45] (mX9_isSign q169) lk_X9_254 g142 dX9_goesOn_100 rfl rfl (Nat.le_of_ble_eq_true rfl) (Nat.le_of_ble_eq_true rfl) (Nat.le_of_ble_eq_true rfl) rfl (Nat.le_of_ble_eq_true rfl) rfl rfl rfl ?_
    refine aw_if_eq (tgt := 110) (pc' := 106) hC dX9_goesOn_103 (by decide) rfl (fun c171 => ?_) (fun c171 => ?_)
    · replace h := it_p c171 h
      refine aw_bipush (pc' := 112) hC dX9_goesOn_110 rfl (by decide) ?_
      refine aw_sub hC [some (.inr (.inr v0)), none, none, none, none] ⟨rfl, trivial⟩ (Nat.le_of_ble_eq_true rfl) ?_
      exact w_X9_goesOn_J112 hC h hQ
    · replace h := it_n c171 h
      refine aw_sub hC [some (.inr (.inr v0)), none, none, none, none] ⟨rfl, trivial⟩ (Nat.le_of_ble_eq_true rfl) ?_
      exact w_X9_goesOn_J106 hC h hQ
set_option maxRecDepth 100000 in
set_option maxHeartbeats 4000000 in
theorem mX9_goesOn {sh : AwS} {M : AwM} {v0 : Int} {r : Int} {M' : AwM} (h : fX9_goesOn sh M v0 = some (r, M')) : AMet yX9_goesOn cX9_goesOn 5 (some .boolean) 3 0 0 [.inr (.inr v0)] sh M (some (.inl r)) sh M' := by
  refine amet_of (by decide +kernel) (Nat.le_of_ble_eq_true rfl) (fun Γ hC => ?_)
  replace hC : AOK Γ RX9 cX9_goesOn 5 3 0 0 "goesOn" (some .boolean) := hC
  unfold fX9_goesOn at h
  refine aw_sub hC [some (.inr (.inr v0)), none, none, none, none] ⟨rfl, trivial⟩ (Nat.le_of_ble_eq_true rfl) ?_
  refine aw_aload_n (pc' := 1) (i := 0) hC dX9_goesOn_0 rfl rfl rfl ?_
  obtain ⟨g2, h⟩ := gd_s h
  obtain ⟨M3, q1, h⟩ := pb_s h
  replace h := u1_s h
  refine aw_cV (pc' := 4) (k2 := 0) (n2 := 0) (st := []) (stN := []) hC [] (mX9_lex q1) lk_X9_251 g2 dX9_goesOn_1 rfl rfl (Nat.le_of_ble_eq_true rfl) (Nat.le_of_ble_eq_true rfl) (Nat.le_of_ble_eq_true rfl) rfl (Nat.le_of_ble_eq_true rfl) rfl rfl rfl ?_
  refine aw_aload_n (pc' := 5) (i := 0) hC dX9_goesOn_4 rfl rfl rfl ?_
  refine aw_getfield (pc' := 8) (v := (.inl (M3 v0 8))) hC dX9_goesOn_5 rfl fl_X9_36 g2 rfl ?_
  refine aw_if_le (tgt := 13) (pc' := 11) hC dX9_goesOn_8 (by decide) rfl (fun c4 => ?_) (fun c4 => ?_)
  · replace h := it_n c4 h
    refine aw_aload_n (pc' := 14) (i := 0) hC dX9_goesOn_13 rfl rfl rfl ?_
    refine aw_getfield (pc' := 17) (v := (.inl (M3 v0 42))) hC dX9_goesOn_14 rfl fl_X9_140 g2 rfl ?_
    refine aw_iconst (pc' := 18) hC dX9_goesOn_17 rfl (by decide) ?_
    refine aw_isub (pc' := 19) hC dX9_goesOn_18 rfl  ?_
    refine aw_istore_n (pc' := 20) (i := 1) (ls' := [some (.inr (.inr v0)), some (.inl (w32 ((M3 v0 42) - 1))), none, none, none]) hC dX9_goesOn_19 rfl rfl (Nat.le_of_ble_eq_true rfl) rfl rfl ?_
    refine aw_aload_n (pc' := 21) (i := 0) hC dX9_goesOn_20 rfl rfl rfl ?_
    refine aw_getfield (pc' := 24) (v := (.inr (.inr (M3 v0 37)))) hC dX9_goesOn_21 rfl fl_X9_124 g2 rfl ?_
    refine aw_iload_n (pc' := 25) (i := 1) hC dX9_goesOn_24 rfl rfl rfl ?_
    obtain ⟨g5, h⟩ := gd_s h
    refine aw_iaload (pc' := 26) hC dX9_goesOn_25 rfl g5 ?_
    refine aw_istore_n (pc' := 27) (i := 2) (ls' := [some (.inr (.inr v0)), some (.inl (w32 ((M3 v0 42) - 1))), some (.inl (M3 (M3 v0 37) (w32 ((M3 v0 42) - 1)))), none, none]) hC dX9_goesOn_26 rfl rfl (Nat.le_of_ble_eq_true rfl) rfl rfl ?_
    refine aw_iload_n (pc' := 28) (i := 2) hC dX9_goesOn_27 rfl rfl rfl ?_
    obtain ⟨x7, q6, h⟩ := pb_s h
    replace h := u1_s h
    refine aw_cS (pc' := 31) (k2 := 0) (n2 := 0) (st := []) (stN := [.inl x7]) hC [.inl (M3 (M3 v0 37) (w32 ((M3 v0 42) - 1)))] (mX9_isTest q6) lk_X9_327 dX9_goesOn_28 rfl rfl (Nat.le_of_ble_eq_true rfl) (Nat.le_of_ble_eq_true rfl) (Nat.le_of_ble_eq_true rfl) rfl (Nat.le_of_ble_eq_true rfl) rfl rfl rfl ?_
    refine aw_istore_n (pc' := 32) (i := 3) (ls' := [some (.inr (.inr v0)), some (.inl (w32 ((M3 v0 42) - 1))), some (.inl (M3 (M3 v0 37) (w32 ((M3 v0 42) - 1)))), some (.inl x7), none]) hC dX9_goesOn_31 rfl rfl (Nat.le_of_ble_eq_true rfl) rfl rfl ?_
    refine aw_aload_n (pc' := 33) (i := 0) hC dX9_goesOn_32 rfl rfl rfl ?_
    refine aw_getfield (pc' := 36) (v := (.inr (.inr (M3 v0 38)))) hC dX9_goesOn_33 rfl fl_X9_127 g2 rfl ?_
    refine aw_iload_n (pc' := 37) (i := 1) hC dX9_goesOn_36 rfl rfl rfl ?_
    obtain ⟨g8, h⟩ := gd_s h
    refine aw_iaload (pc' := 38) hC dX9_goesOn_37 rfl g8 ?_
    refine aw_iconst (pc' := 39) hC dX9_goesOn_38 rfl (by decide) ?_
    refine aw_icmp_ge (tgt := 188) (pc' := 42) hC dX9_goesOn_39 (by decide) rfl (fun c9 => ?_) (fun c9 => ?_)
    · replace h := it_n c9 h
      refine aw_sub hC [some (.inr (.inr v0)), some (.inl (w32 ((M3 v0 42) - 1))), some (.inl (M3 (M3 v0 37) (w32 ((M3 v0 42) - 1)))), some (.inl x7), none] ⟨rfl, ⟨rfl, ⟨rfl, ⟨rfl, trivial⟩⟩⟩⟩ (Nat.le_of_ble_eq_true rfl) ?_
      exact w_X9_goesOn_J188 hC h rfl
    · replace h := it_p c9 h
      refine aw_aload_n (pc' := 43) (i := 0) hC dX9_goesOn_42 rfl rfl rfl ?_
      refine aw_bipush (pc' := 45) hC dX9_goesOn_43 rfl (by decide) ?_
      obtain ⟨x139, q138, h⟩ := pb_s h
      replace h := u1_s h
      refine aw_cV (pc' := 48) (k2 := 0) (n2 := 0) (st := []) (stN := [.inl x139]) hC [.inl 43] (mX9_isSign q138) lk_X9_254 g2 dX9_goesOn_45 rfl rfl (Nat.le_of_ble_eq_true rfl) (Nat.le_of_ble_eq_true rfl) (Nat.le_of_ble_eq_true rfl) rfl (Nat.le_of_ble_eq_true rfl) rfl rfl rfl ?_
      refine aw_if_ne (tgt := 87) (pc' := 51) hC dX9_goesOn_48 (by decide) rfl (fun c140 => ?_) (fun c140 => ?_)
      · replace h := it_n c140 h
        refine aw_sub hC [some (.inr (.inr v0)), none, none, none, none] ⟨rfl, trivial⟩ (Nat.le_of_ble_eq_true rfl) ?_
        exact w_X9_goesOn_J87 hC h rfl
      · replace h := it_p c140 h
        refine aw_aload_n (pc' := 52) (i := 0) hC dX9_goesOn_51 rfl rfl rfl ?_
        refine aw_bipush (pc' := 54) hC dX9_goesOn_52 rfl (by decide) ?_
        obtain ⟨x173, q172, h⟩ := pb_s h
        replace h := u1_s h
        refine aw_cV (pc' := 57) (k2 := 0) (n2 := 0) (st := []) (stN := [.inl x173]) hC [.inl 45] (mX9_isSign q172) lk_X9_254 g2 dX9_goesOn_54 rfl rfl (Nat.le_of_ble_eq_true rfl) (Nat.le_of_ble_eq_true rfl) (Nat.le_of_ble_eq_true rfl) rfl (Nat.le_of_ble_eq_true rfl) rfl rfl rfl ?_
        refine aw_if_ne (tgt := 87) (pc' := 60) hC dX9_goesOn_57 (by decide) rfl (fun c174 => ?_) (fun c174 => ?_)
        · replace h := it_n c174 h
          refine aw_sub hC [some (.inr (.inr v0)), none, none, none, none] ⟨rfl, trivial⟩ (Nat.le_of_ble_eq_true rfl) ?_
          exact w_X9_goesOn_J87 hC h rfl
        · replace h := it_p c174 h
          refine aw_aload_n (pc' := 61) (i := 0) hC dX9_goesOn_60 rfl rfl rfl ?_
          refine aw_bipush (pc' := 63) hC dX9_goesOn_61 rfl (by decide) ?_
          obtain ⟨x176, q175, h⟩ := pb_s h
          replace h := u1_s h
          refine aw_cV (pc' := 66) (k2 := 0) (n2 := 0) (st := []) (stN := [.inl x176]) hC [.inl 42] (mX9_isSign q175) lk_X9_254 g2 dX9_goesOn_63 rfl rfl (Nat.le_of_ble_eq_true rfl) (Nat.le_of_ble_eq_true rfl) (Nat.le_of_ble_eq_true rfl) rfl (Nat.le_of_ble_eq_true rfl) rfl rfl rfl ?_
          refine aw_if_ne (tgt := 87) (pc' := 69) hC dX9_goesOn_66 (by decide) rfl (fun c177 => ?_) (fun c177 => ?_)
          · replace h := it_n c177 h
            refine aw_sub hC [some (.inr (.inr v0)), none, none, none, none] ⟨rfl, trivial⟩ (Nat.le_of_ble_eq_true rfl) ?_
            exact w_X9_goesOn_J87 hC h rfl
          · replace h := it_p c177 h
            refine aw_aload_n (pc' := 70) (i := 0) hC dX9_goesOn_69 rfl rfl rfl ?_
            refine aw_bipush (pc' := 72) hC dX9_goesOn_70 rfl (by decide) ?_
            obtain ⟨x179, q178, h⟩ := pb_s h
            replace h := u1_s h
            refine aw_cV (pc' := 75) (k2 := 0) (n2 := 0) (st := []) (stN := [.inl x179]) hC [.inl 47] (mX9_isSign q178) lk_X9_254 g2 dX9_goesOn_72 rfl rfl (Nat.le_of_ble_eq_true rfl) (Nat.le_of_ble_eq_true rfl) (Nat.le_of_ble_eq_true rfl) rfl (Nat.le_of_ble_eq_true rfl) rfl rfl rfl ?_
            refine aw_if_ne (tgt := 87) (pc' := 78) hC dX9_goesOn_75 (by decide) rfl (fun c180 => ?_) (fun c180 => ?_)
            · replace h := it_n c180 h
              refine aw_sub hC [some (.inr (.inr v0)), none, none, none, none] ⟨rfl, trivial⟩ (Nat.le_of_ble_eq_true rfl) ?_
              exact w_X9_goesOn_J87 hC h rfl
            · replace h := it_p c180 h
              refine aw_aload_n (pc' := 79) (i := 0) hC dX9_goesOn_78 rfl rfl rfl ?_
              refine aw_bipush (pc' := 81) hC dX9_goesOn_79 rfl (by decide) ?_
              obtain ⟨x182, q181, h⟩ := pb_s h
              replace h := u1_s h
              refine aw_cV (pc' := 84) (k2 := 0) (n2 := 0) (st := []) (stN := [.inl x182]) hC [.inl 37] (mX9_isSign q181) lk_X9_254 g2 dX9_goesOn_81 rfl rfl (Nat.le_of_ble_eq_true rfl) (Nat.le_of_ble_eq_true rfl) (Nat.le_of_ble_eq_true rfl) rfl (Nat.le_of_ble_eq_true rfl) rfl rfl rfl ?_
              refine aw_if_eq (tgt := 188) (pc' := 87) hC dX9_goesOn_84 (by decide) rfl (fun c183 => ?_) (fun c183 => ?_)
              · replace h := it_p c183 h
                refine aw_sub hC [some (.inr (.inr v0)), some (.inl (w32 ((M3 v0 42) - 1))), some (.inl (M3 (M3 v0 37) (w32 ((M3 v0 42) - 1)))), some (.inl x7), none] ⟨rfl, ⟨rfl, ⟨rfl, ⟨rfl, trivial⟩⟩⟩⟩ (Nat.le_of_ble_eq_true rfl) ?_
                exact w_X9_goesOn_J188 hC h rfl
              · replace h := it_n c183 h
                refine aw_sub hC [some (.inr (.inr v0)), none, none, none, none] ⟨rfl, trivial⟩ (Nat.le_of_ble_eq_true rfl) ?_
                exact w_X9_goesOn_J87 hC h rfl
  · replace h := it_p c4 h
    refine aw_iconst (pc' := 12) hC dX9_goesOn_11 rfl (by decide) ?_
    cases h
    exact aw_zret hC (Or.inl rfl) dX9_goesOn_12 (Nat.le_of_ble_eq_true rfl) (Nat.le_of_ble_eq_true rfl)
-- CoinCircleModel.reads(Z)V
def fX9_reads_J70_43 (sh : AwS) (M : AwM) (v0 : Int) (v2 : Int) : Option ((Int × AwM) ⊕ (AwM)) :=
  (if v2 = 0 then some (.inl (0, M)) else gd_ (kd_ sh v0 = (0, 9)) ((if (M v0 8) = 0 then some (.inl (1, M)) else some (.inl (0, M)))))
def fX9_reads_L43 (sh : AwS) (v0 : Int) (v2 : Int) (M : AwM) : Option ((Int × AwM) ⊕ (AwM)) :=
  (if v2 = 0 then some (.inr M) else gd_ (kd_ sh v0 = (0, 9)) ((if (M v0 46) = 0 then pb (fX9_operand sh M v0) <| u2 fun (x24 : Int) (M25 : AwM) => (gd_ (x24 = 0 ∨ x24 = 1) (bd_ (up_ M25 v0 46 x24) fun (M27 : AwM) => (fX9_reads_J70_43 sh M27 v0 v2))) else pb (fX9_goesOn sh M v0) <| u2 fun (x18 : Int) (M19 : AwM) => (fX9_reads_J70_43 sh M19 v0 x18))))
def p_X9_reads_L43 (Γ : AwC) (sh : AwS) (v0 : Int) (Q : State → Prop) (s : Int × AwM) : Prop := AW Γ sh (s.2) 0 0 43 [some (.inr (.inr v0)), none, some (.inl (s.1))] [] Q
def x_X9_reads_L43 (Γ : AwC) (sh : AwS) (v0 : Int) (Q : State → Prop) : (AwM) → Prop := (fun (t : AwM) => AW Γ sh (t) 0 0 90 [none, none, none] [] Q)
def fX9_reads (sh : AwS) (M : AwM) (v0 : Int) (v1 : Int) : Option (AwM) :=
  gd_ (kd_ sh v0 = (0, 9)) ((if 0 < (M v0 8) then some M else bd_ (up_ M v0 42 0) fun (M3 : AwM) => (bd_ (up_ M3 v0 43 0) fun (M5 : AwM) => (bd_ (up_ M5 v0 45 0) fun (M7 : AwM) => (bd_ (up_ M7 v0 46 0) fun (M9 : AwM) => ((if v1 = 0 then pb (fX9_pushes sh M9 v0 0) <| u1 fun (M13 : AwM) => (pb (lp (u2 (fX9_reads_L43 sh v0)) FU (1, M13)) (u1 (fun (tq29 : AwM) => some tq29))) else pb (fX9_pushes sh M9 v0 1) <| u1 fun (M31 : AwM) => (pb (lp (u2 (fX9_reads_L43 sh v0)) FU (1, M31)) (u1 (fun (tq32 : AwM) => some tq32))))))))))
set_option maxRecDepth 100000 in
set_option maxHeartbeats 4000000 in
theorem w_X9_reads_J70_43 {Γ : AwC} (hC : AOK Γ RX9 cX9_reads 3 5 0 0 "reads" none) {sh : AwS} {M : AwM} {v0 : Int} {v2 : Int} {Q : State → Prop} {r : (Int × AwM) ⊕ (AwM)} (h : fX9_reads_J70_43 sh M v0 v2 = some r) (hL : ∀ s', r = .inl s' → p_X9_reads_L43 Γ sh v0 Q s') (hX : ∀ t, r = .inr t → x_X9_reads_L43 Γ sh v0 Q t) : AW Γ sh M 0 0 70 [some (.inr (.inr v0)), none, some (.inl v2)] [] Q := by
  unfold fX9_reads_J70_43 at h
  refine aw_iload_n (pc' := 71) (i := 2) hC dX9_reads_70 rfl rfl rfl ?_
  refine aw_if_eq (tgt := 85) (pc' := 74) hC dX9_reads_71 (by decide) rfl (fun c20 => ?_) (fun c20 => ?_)
  · replace h := it_p c20 h
    refine aw_iconst (pc' := 86) hC dX9_reads_85 rfl (by decide) ?_
    refine aw_istore_n (pc' := 87) (i := 2) (ls' := [some (.inr (.inr v0)), none, some (.inl 0)]) hC dX9_reads_86 rfl rfl (Nat.le_of_ble_eq_true rfl) rfl rfl ?_
    refine aw_goto (tgt := 43) hC dX9_reads_87 (by decide) ?_
    refine aw_sub hC [some (.inr (.inr v0)), none, some (.inl 0)] ⟨rfl, ⟨rfl, trivial⟩⟩ (Nat.le_of_ble_eq_true rfl) ?_
    cases h
    exact hL _ rfl
  · replace h := it_n c20 h
    refine aw_aload_n (pc' := 75) (i := 0) hC dX9_reads_74 rfl rfl rfl ?_
    obtain ⟨g21, h⟩ := gd_s h
    refine aw_getfield (pc' := 78) (v := (.inl (M v0 8))) hC dX9_reads_75 rfl fl_X9_36 g21 rfl ?_
    refine aw_if_ne (tgt := 85) (pc' := 81) hC dX9_reads_78 (by decide) rfl (fun c22 => ?_) (fun c22 => ?_)
    · replace h := it_n c22 h
      refine aw_iconst (pc' := 86) hC dX9_reads_85 rfl (by decide) ?_
      refine aw_istore_n (pc' := 87) (i := 2) (ls' := [some (.inr (.inr v0)), none, some (.inl 0)]) hC dX9_reads_86 rfl rfl (Nat.le_of_ble_eq_true rfl) rfl rfl ?_
      refine aw_goto (tgt := 43) hC dX9_reads_87 (by decide) ?_
      refine aw_sub hC [some (.inr (.inr v0)), none, some (.inl 0)] ⟨rfl, ⟨rfl, trivial⟩⟩ (Nat.le_of_ble_eq_true rfl) ?_
      cases h
      exact hL _ rfl
    · replace h := it_p c22 h
      refine aw_iconst (pc' := 82) hC dX9_reads_81 rfl (by decide) ?_
      refine aw_goto (tgt := 86) hC dX9_reads_82 (by decide) ?_
      refine aw_istore_n (pc' := 87) (i := 2) (ls' := [some (.inr (.inr v0)), none, some (.inl 1)]) hC dX9_reads_86 rfl rfl (Nat.le_of_ble_eq_true rfl) rfl rfl ?_
      refine aw_goto (tgt := 43) hC dX9_reads_87 (by decide) ?_
      refine aw_sub hC [some (.inr (.inr v0)), none, some (.inl 1)] ⟨rfl, ⟨rfl, trivial⟩⟩ (Nat.le_of_ble_eq_true rfl) ?_
      cases h
      exact hL _ rfl
set_option maxRecDepth 100000 in
set_option maxHeartbeats 4000000 in
theorem w_X9_reads_L43 {Γ : AwC} (hC : AOK Γ RX9 cX9_reads 3 5 0 0 "reads" none) {sh : AwS} {v0 : Int} {Q : State → Prop} : ∀ s r, u2 (fX9_reads_L43 sh v0) s = some r → (∀ s', r = .inl s' → p_X9_reads_L43 Γ sh v0 Q s') → (∀ t, r = .inr t → x_X9_reads_L43 Γ sh v0 Q t) → p_X9_reads_L43 Γ sh v0 Q s := by
  intro s r h hL hX
  obtain ⟨v2, M⟩ := s
  replace h := u2_s h
  unfold fX9_reads_L43 at h
  show AW Γ sh M 0 0 43 [some (.inr (.inr v0)), none, some (.inl v2)] [] Q
  refine aw_iload_n (pc' := 44) (i := 2) hC dX9_reads_43 rfl rfl rfl ?_
  refine aw_if_eq (tgt := 90) (pc' := 47) hC dX9_reads_44 (by decide) rfl (fun c14 => ?_) (fun c14 => ?_)
  · replace h := it_p c14 h
    refine aw_sub hC [none, none, none] trivial (Nat.le_of_ble_eq_true rfl) ?_
    cases h
    exact hX _ rfl
  · replace h := it_n c14 h
    refine aw_aload_n (pc' := 48) (i := 0) hC dX9_reads_47 rfl rfl rfl ?_
    obtain ⟨g15, h⟩ := gd_s h
    refine aw_getfield (pc' := 51) (v := (.inl (M v0 46))) hC dX9_reads_48 rfl fl_X9_152 g15 rfl ?_
    refine aw_if_ne (tgt := 65) (pc' := 54) hC dX9_reads_51 (by decide) rfl (fun c16 => ?_) (fun c16 => ?_)
    · replace h := it_n c16 h
      refine aw_aload_n (pc' := 66) (i := 0) hC dX9_reads_65 rfl rfl rfl ?_
      obtain ⟨⟨x18, M19⟩, q17, h⟩ := pb_s h
      replace h := u2_s h
      refine aw_cV (pc' := 69) (k2 := 0) (n2 := 0) (st := []) (stN := [.inl x18]) hC [] (mX9_goesOn q17) lk_X9_345 g15 dX9_reads_66 rfl rfl (Nat.le_of_ble_eq_true rfl) (Nat.le_of_ble_eq_true rfl) (Nat.le_of_ble_eq_true rfl) rfl (Nat.le_of_ble_eq_true rfl) rfl rfl rfl ?_
      refine aw_istore_n (pc' := 70) (i := 2) (ls' := [some (.inr (.inr v0)), none, some (.inl x18)]) hC dX9_reads_69 rfl rfl (Nat.le_of_ble_eq_true rfl) rfl rfl ?_
      refine aw_sub hC [some (.inr (.inr v0)), none, some (.inl x18)] ⟨rfl, ⟨rfl, trivial⟩⟩ (Nat.le_of_ble_eq_true rfl) ?_
      exact w_X9_reads_J70_43 hC h hL hX
    · replace h := it_p c16 h
      refine aw_aload_n (pc' := 55) (i := 0) hC dX9_reads_54 rfl rfl rfl ?_
      refine aw_aload_n (pc' := 56) (i := 0) hC dX9_reads_55 rfl rfl rfl ?_
      obtain ⟨⟨x24, M25⟩, q23, h⟩ := pb_s h
      replace h := u2_s h
      refine aw_cV (pc' := 59) (k2 := 0) (n2 := 0) (st := [.inr (.inr v0)]) (stN := [.inl x24, .inr (.inr v0)]) hC [] (mX9_operand q23) lk_X9_342 g15 dX9_reads_56 rfl rfl (Nat.le_of_ble_eq_true rfl) (Nat.le_of_ble_eq_true rfl) (Nat.le_of_ble_eq_true rfl) rfl (Nat.le_of_ble_eq_true rfl) rfl rfl rfl ?_
      obtain ⟨g26, h⟩ := gd_s h
      obtain ⟨M27, e28, h⟩ := bd_s h
      refine aw_pf (pc' := 62) hC dX9_reads_59 rfl fp_X9_152 g15 rfl g26 e28 ?_
      refine aw_goto (tgt := 70) hC dX9_reads_62 (by decide) ?_
      refine aw_sub hC [some (.inr (.inr v0)), none, some (.inl v2)] ⟨rfl, ⟨rfl, trivial⟩⟩ (Nat.le_of_ble_eq_true rfl) ?_
      exact w_X9_reads_J70_43 hC h hL hX
set_option maxRecDepth 100000 in
set_option maxHeartbeats 4000000 in
theorem mX9_reads {sh : AwS} {M : AwM} {v0 : Int} {v1 : Int} {M' : AwM} (h : fX9_reads sh M v0 v1 = some M') : AMet yX9_reads cX9_reads 3 none 5 0 0 [.inr (.inr v0), .inl v1] sh M none sh M' := by
  refine amet_of (by decide +kernel) (Nat.le_of_ble_eq_true rfl) (fun Γ hC => ?_)
  replace hC : AOK Γ RX9 cX9_reads 3 5 0 0 "reads" none := hC
  unfold fX9_reads at h
  refine aw_sub hC [some (.inr (.inr v0)), some (.inl v1), none] ⟨rfl, ⟨rfl, trivial⟩⟩ (Nat.le_of_ble_eq_true rfl) ?_
  refine aw_aload_n (pc' := 1) (i := 0) hC dX9_reads_0 rfl rfl rfl ?_
  obtain ⟨g1, h⟩ := gd_s h
  refine aw_getfield (pc' := 4) (v := (.inl (M v0 8))) hC dX9_reads_1 rfl fl_X9_36 g1 rfl ?_
  refine aw_if_le (tgt := 8) (pc' := 7) hC dX9_reads_4 (by decide) rfl (fun c2 => ?_) (fun c2 => ?_)
  · replace h := it_n c2 h
    refine aw_aload_n (pc' := 9) (i := 0) hC dX9_reads_8 rfl rfl rfl ?_
    refine aw_iconst (pc' := 10) hC dX9_reads_9 rfl (by decide) ?_
    obtain ⟨M3, e4, h⟩ := bd_s h
    refine aw_pf (pc' := 13) hC dX9_reads_10 rfl fp_X9_140 g1 rfl trivial e4 ?_
    refine aw_aload_n (pc' := 14) (i := 0) hC dX9_reads_13 rfl rfl rfl ?_
    refine aw_iconst (pc' := 15) hC dX9_reads_14 rfl (by decide) ?_
    obtain ⟨M5, e6, h⟩ := bd_s h
    refine aw_pf (pc' := 18) hC dX9_reads_15 rfl fp_X9_143 g1 rfl trivial e6 ?_
    refine aw_aload_n (pc' := 19) (i := 0) hC dX9_reads_18 rfl rfl rfl ?_
    refine aw_iconst (pc' := 20) hC dX9_reads_19 rfl (by decide) ?_
    obtain ⟨M7, e8, h⟩ := bd_s h
    refine aw_pf (pc' := 23) hC dX9_reads_20 rfl fp_X9_149 g1 rfl trivial e8 ?_
    refine aw_aload_n (pc' := 24) (i := 0) hC dX9_reads_23 rfl rfl rfl ?_
    refine aw_iconst (pc' := 25) hC dX9_reads_24 rfl (by decide) ?_
    obtain ⟨M9, e10, h⟩ := bd_s h
    refine aw_pf (pc' := 28) hC dX9_reads_25 rfl fp_X9_152 g1 rfl (Or.inl rfl) e10 ?_
    refine aw_aload_n (pc' := 29) (i := 0) hC dX9_reads_28 rfl rfl rfl ?_
    refine aw_iload_n (pc' := 30) (i := 1) hC dX9_reads_29 rfl rfl rfl ?_
    refine aw_if_eq (tgt := 37) (pc' := 33) hC dX9_reads_30 (by decide) rfl (fun c11 => ?_) (fun c11 => ?_)
    · replace h := it_p c11 h
      refine aw_iconst (pc' := 38) hC dX9_reads_37 rfl (by decide) ?_
      obtain ⟨M13, q12, h⟩ := pb_s h
      replace h := u1_s h
      refine aw_cV (pc' := 41) (k2 := 0) (n2 := 0) (st := []) (stN := []) hC [.inl 0] (mX9_pushes q12) lk_X9_324 g1 dX9_reads_38 rfl rfl (Nat.le_of_ble_eq_true rfl) (Nat.le_of_ble_eq_true rfl) (Nat.le_of_ble_eq_true rfl) rfl (Nat.le_of_ble_eq_true rfl) rfl rfl rfl ?_
      refine aw_iconst (pc' := 42) hC dX9_reads_41 rfl (by decide) ?_
      refine aw_istore_n (pc' := 43) (i := 2) (ls' := [some (.inr (.inr v0)), some (.inl v1), some (.inl 1)]) hC dX9_reads_42 rfl rfl (Nat.le_of_ble_eq_true rfl) rfl rfl ?_
      obtain ⟨tq29, q29, h⟩ := pb_s h
      refine aw_sub hC [some (.inr (.inr v0)), none, some (.inl 1)] ⟨rfl, ⟨rfl, trivial⟩⟩ (Nat.le_of_ble_eq_true rfl) ?_
      refine (lp_aw (p_X9_reads_L43 Γ sh v0 (fin_ Γ 0 0 none sh M')) (x_X9_reads_L43 Γ sh v0 (fin_ Γ 0 0 none sh M')) (w_X9_reads_L43 hC ) FU _ _ q29 ?_ : p_X9_reads_L43 Γ sh v0 (fin_ Γ 0 0 none sh M') (1, M13))
      replace h := u1_s h
      show AW Γ sh tq29 0 0 90 [none, none, none] [] _
      cases h
      exact aw_vret hC dX9_reads_90 (Nat.le_of_ble_eq_true rfl) (Nat.le_of_ble_eq_true rfl)
    · replace h := it_n c11 h
      refine aw_iconst (pc' := 34) hC dX9_reads_33 rfl (by decide) ?_
      refine aw_goto (tgt := 38) hC dX9_reads_34 (by decide) ?_
      obtain ⟨M31, q30, h⟩ := pb_s h
      replace h := u1_s h
      refine aw_cV (pc' := 41) (k2 := 0) (n2 := 0) (st := []) (stN := []) hC [.inl 1] (mX9_pushes q30) lk_X9_324 g1 dX9_reads_38 rfl rfl (Nat.le_of_ble_eq_true rfl) (Nat.le_of_ble_eq_true rfl) (Nat.le_of_ble_eq_true rfl) rfl (Nat.le_of_ble_eq_true rfl) rfl rfl rfl ?_
      refine aw_iconst (pc' := 42) hC dX9_reads_41 rfl (by decide) ?_
      refine aw_istore_n (pc' := 43) (i := 2) (ls' := [some (.inr (.inr v0)), some (.inl v1), some (.inl 1)]) hC dX9_reads_42 rfl rfl (Nat.le_of_ble_eq_true rfl) rfl rfl ?_
      obtain ⟨tq32, q32, h⟩ := pb_s h
      refine aw_sub hC [some (.inr (.inr v0)), none, some (.inl 1)] ⟨rfl, ⟨rfl, trivial⟩⟩ (Nat.le_of_ble_eq_true rfl) ?_
      refine (lp_aw (p_X9_reads_L43 Γ sh v0 (fin_ Γ 0 0 none sh M')) (x_X9_reads_L43 Γ sh v0 (fin_ Γ 0 0 none sh M')) (w_X9_reads_L43 hC ) FU _ _ q32 ?_ : p_X9_reads_L43 Γ sh v0 (fin_ Γ 0 0 none sh M') (1, M31))
      replace h := u1_s h
      show AW Γ sh tq32 0 0 90 [none, none, none] [] _
      cases h
      exact aw_vret hC dX9_reads_90 (Nat.le_of_ble_eq_true rfl) (Nat.le_of_ble_eq_true rfl)
  · replace h := it_p c2 h
    cases h
    exact aw_vret hC dX9_reads_7 (Nat.le_of_ble_eq_true rfl) (Nat.le_of_ble_eq_true rfl)
-- CoinCircleModel.counts(Z)Z
def fX9_counts_J21 (sh : AwS) (M : AwM) (v0 : Int) : Option (Int × AwM) :=
  gd_ (kd_ sh v0 = (0, 9)) ((if (M v0 8) = 0 then pb (fX9_ahead sh M v0) <| u1 fun (M7 : AwM) => ((if (M7 v0 8) = 0 then some (1, M7) else some (0, M7))) else (if (M v0 8) = 0 then some (1, M) else some (0, M))))
def fX9_counts (sh : AwS) (M : AwM) (v0 : Int) (v1 : Int) : Option (Int × AwM) :=
  gd_ (kd_ sh v0 = (0, 9)) ((if (M v0 8) = 0 then (if v1 = 0 then fX9_counts_J21 sh M v0 else pb (fX9_blame sh M v0 6 (M v0 4)) <| u1 fun (M11 : AwM) => (fX9_counts_J21 sh M11 v0)) else fX9_counts_J21 sh M v0))
set_option maxRecDepth 100000 in
set_option maxHeartbeats 4000000 in
theorem w_X9_counts_J21 {Γ : AwC} (hC : AOK Γ RX9 cX9_counts 2 3 0 0 "counts" (some .boolean)) {sh : AwS} {M : AwM} {v0 : Int} {r : Int} {M' : AwM} (h : fX9_counts_J21 sh M v0 = some (r, M')) {Q : State → Prop} (hQ : Q = (fin_ Γ 0 0 (some (.inl r)) sh M')) : AW Γ sh M 0 0 21 [some (.inr (.inr v0)), none] [] Q := by
  unfold fX9_counts_J21 at h
  refine aw_aload_n (pc' := 22) (i := 0) hC dX9_counts_21 rfl rfl rfl ?_
  obtain ⟨g3, h⟩ := gd_s h
  refine aw_getfield (pc' := 25) (v := (.inl (M v0 8))) hC dX9_counts_22 rfl fl_X9_36 g3 rfl ?_
  refine aw_if_ne (tgt := 32) (pc' := 28) hC dX9_counts_25 (by decide) rfl (fun c4 => ?_) (fun c4 => ?_)
  · replace h := it_n c4 h
    refine aw_aload_n (pc' := 33) (i := 0) hC dX9_counts_32 rfl rfl rfl ?_
    refine aw_getfield (pc' := 36) (v := (.inl (M v0 8))) hC dX9_counts_33 rfl fl_X9_36 g3 rfl ?_
    refine aw_if_ne (tgt := 43) (pc' := 39) hC dX9_counts_36 (by decide) rfl (fun c5 => ?_) (fun c5 => ?_)
    · replace h := it_n c5 h
      refine aw_iconst (pc' := 44) hC dX9_counts_43 rfl (by decide) ?_
      cases h
      subst hQ
      exact aw_zret hC (Or.inl rfl) dX9_counts_44 (Nat.le_of_ble_eq_true rfl) (Nat.le_of_ble_eq_true rfl)
    · replace h := it_p c5 h
      refine aw_iconst (pc' := 40) hC dX9_counts_39 rfl (by decide) ?_
      refine aw_goto (tgt := 44) hC dX9_counts_40 (by decide) ?_
      cases h
      subst hQ
      exact aw_zret hC (Or.inr rfl) dX9_counts_44 (Nat.le_of_ble_eq_true rfl) (Nat.le_of_ble_eq_true rfl)
  · replace h := it_p c4 h
    refine aw_aload_n (pc' := 29) (i := 0) hC dX9_counts_28 rfl rfl rfl ?_
    obtain ⟨M7, q6, h⟩ := pb_s h
    replace h := u1_s h
    refine aw_cV (pc' := 32) (k2 := 0) (n2 := 0) (st := []) (stN := []) hC [] (mX9_ahead q6) lk_X9_257 g3 dX9_counts_29 rfl rfl (Nat.le_of_ble_eq_true rfl) (Nat.le_of_ble_eq_true rfl) (Nat.le_of_ble_eq_true rfl) rfl (Nat.le_of_ble_eq_true rfl) rfl rfl rfl ?_
    refine aw_aload_n (pc' := 33) (i := 0) hC dX9_counts_32 rfl rfl rfl ?_
    refine aw_getfield (pc' := 36) (v := (.inl (M7 v0 8))) hC dX9_counts_33 rfl fl_X9_36 g3 rfl ?_
    refine aw_if_ne (tgt := 43) (pc' := 39) hC dX9_counts_36 (by decide) rfl (fun c8 => ?_) (fun c8 => ?_)
    · replace h := it_n c8 h
      refine aw_iconst (pc' := 44) hC dX9_counts_43 rfl (by decide) ?_
      cases h
      subst hQ
      exact aw_zret hC (Or.inl rfl) dX9_counts_44 (Nat.le_of_ble_eq_true rfl) (Nat.le_of_ble_eq_true rfl)
    · replace h := it_p c8 h
      refine aw_iconst (pc' := 40) hC dX9_counts_39 rfl (by decide) ?_
      refine aw_goto (tgt := 44) hC dX9_counts_40 (by decide) ?_
      cases h
      subst hQ
      exact aw_zret hC (Or.inr rfl) dX9_counts_44 (Nat.le_of_ble_eq_true rfl) (Nat.le_of_ble_eq_true rfl)
set_option maxRecDepth 100000 in
set_option maxHeartbeats 4000000 in
theorem mX9_counts {sh : AwS} {M : AwM} {v0 : Int} {v1 : Int} {r : Int} {M' : AwM} (h : fX9_counts sh M v0 v1 = some (r, M')) : AMet yX9_counts cX9_counts 2 (some .boolean) 3 0 0 [.inr (.inr v0), .inl v1] sh M (some (.inl r)) sh M' := by
  refine amet_of (by decide +kernel) (Nat.le_of_ble_eq_true rfl) (fun Γ hC => ?_)
  replace hC : AOK Γ RX9 cX9_counts 2 3 0 0 "counts" (some .boolean) := hC
  unfold fX9_counts at h
  refine aw_sub hC [some (.inr (.inr v0)), some (.inl v1)] ⟨rfl, ⟨rfl, trivial⟩⟩ (Nat.le_of_ble_eq_true rfl) ?_
  refine aw_aload_n (pc' := 1) (i := 0) hC dX9_counts_0 rfl rfl rfl ?_
  obtain ⟨g1, h⟩ := gd_s h
  refine aw_getfield (pc' := 4) (v := (.inl (M v0 8))) hC dX9_counts_1 rfl fl_X9_36 g1 rfl ?_
  refine aw_if_ne (tgt := 21) (pc' := 7) hC dX9_counts_4 (by decide) rfl (fun c2 => ?_) (fun c2 => ?_)
  · replace h := it_n c2 h
    refine aw_sub hC [some (.inr (.inr v0)), none] ⟨rfl, trivial⟩ (Nat.le_of_ble_eq_true rfl) ?_
    exact w_X9_counts_J21 hC h rfl
  · replace h := it_p c2 h
    refine aw_iload_n (pc' := 8) (i := 1) hC dX9_counts_7 rfl rfl rfl ?_
    refine aw_if_eq (tgt := 21) (pc' := 11) hC dX9_counts_8 (by decide) rfl (fun c9 => ?_) (fun c9 => ?_)
    · replace h := it_p c9 h
      refine aw_sub hC [some (.inr (.inr v0)), none] ⟨rfl, trivial⟩ (Nat.le_of_ble_eq_true rfl) ?_
      exact w_X9_counts_J21 hC h rfl
    · replace h := it_n c9 h
      refine aw_aload_n (pc' := 12) (i := 0) hC dX9_counts_11 rfl rfl rfl ?_
      refine aw_bipush (pc' := 14) hC dX9_counts_12 rfl (by decide) ?_
      refine aw_aload_n (pc' := 15) (i := 0) hC dX9_counts_14 rfl rfl rfl ?_
      refine aw_getfield (pc' := 18) (v := (.inl (M v0 4))) hC dX9_counts_15 rfl fl_X9_23 g1 rfl ?_
      obtain ⟨M11, q10, h⟩ := pb_s h
      replace h := u1_s h
      refine aw_cV (pc' := 21) (k2 := 0) (n2 := 0) (st := []) (stN := []) hC [.inl 6, .inl (M v0 4)] (mX9_blame q10) lk_X9_236 g1 dX9_counts_18 rfl rfl (Nat.le_of_ble_eq_true rfl) (Nat.le_of_ble_eq_true rfl) (Nat.le_of_ble_eq_true rfl) rfl (Nat.le_of_ble_eq_true rfl) rfl rfl rfl ?_
      refine aw_sub hC [some (.inr (.inr v0)), none] ⟨rfl, trivial⟩ (Nat.le_of_ble_eq_true rfl) ?_
      exact w_X9_counts_J21 hC h rfl
-- CoinCircleModel.must(J)V
def fX9_must_ (sh : AwS) (M : AwM) (v0 : Int) (v1 : Int) : Option (AwM) :=
  gd_ (kd_ sh v0 = (0, 9)) (pb (fX9_lex sh M v0) <| u1 fun (M3 : AwM) => ((if 0 < (M3 v0 8) then some M3 else pb (fX9_isWord sh M3 v0 v1) <| u1 fun (x6 : Int) => ((if x6 = 0 then pb (fX9_blame sh M3 v0 1 (M3 v0 4)) <| u1 fun (M12 : AwM) => ((if (M12 v0 8) = 0 then pb (fX9_ahead sh M12 v0) <| u1 fun (M15 : AwM) => (some M15) else some M12)) else (if (M3 v0 8) = 0 then pb (fX9_ahead sh M3 v0) <| u1 fun (M10 : AwM) => (some M10) else some M3))))))
set_option maxRecDepth 100000 in
set_option maxHeartbeats 4000000 in
theorem mX9_must_ {sh : AwS} {M : AwM} {v0 : Int} {v1 : Int} {M' : AwM} (h : fX9_must_ sh M v0 v1 = some M') : AMet yX9_must_ cX9_must_ 3 none 3 0 0 [.inr (.inr v0), .inr (.inl v1)] sh M none sh M' := by
  refine amet_of (by decide +kernel) (Nat.le_of_ble_eq_true rfl) (fun Γ hC => ?_)
  replace hC : AOK Γ RX9 cX9_must_ 3 3 0 0 "must" none := hC
  unfold fX9_must_ at h
  refine aw_sub hC [some (.inr (.inr v0)), some (.inr (.inl v1)), none] ⟨rfl, ⟨rfl, trivial⟩⟩ (Nat.le_of_ble_eq_true rfl) ?_
  refine aw_aload_n (pc' := 1) (i := 0) hC dX9_must__0 rfl rfl rfl ?_
  obtain ⟨g2, h⟩ := gd_s h
  obtain ⟨M3, q1, h⟩ := pb_s h
  replace h := u1_s h
  refine aw_cV (pc' := 4) (k2 := 0) (n2 := 0) (st := []) (stN := []) hC [] (mX9_lex q1) lk_X9_251 g2 dX9_must__1 rfl rfl (Nat.le_of_ble_eq_true rfl) (Nat.le_of_ble_eq_true rfl) (Nat.le_of_ble_eq_true rfl) rfl (Nat.le_of_ble_eq_true rfl) rfl rfl rfl ?_
  refine aw_aload_n (pc' := 5) (i := 0) hC dX9_must__4 rfl rfl rfl ?_
  refine aw_getfield (pc' := 8) (v := (.inl (M3 v0 8))) hC dX9_must__5 rfl fl_X9_36 g2 rfl ?_
  refine aw_if_le (tgt := 12) (pc' := 11) hC dX9_must__8 (by decide) rfl (fun c4 => ?_) (fun c4 => ?_)
  · replace h := it_n c4 h
    refine aw_aload_n (pc' := 13) (i := 0) hC dX9_must__12 rfl rfl rfl ?_
    refine aw_lload_n (pc' := 14) (i := 1) hC dX9_must__13 rfl rfl rfl ?_
    obtain ⟨x6, q5, h⟩ := pb_s h
    replace h := u1_s h
    refine aw_cV (pc' := 17) (k2 := 0) (n2 := 0) (st := []) (stN := [.inl x6]) hC [.inr (.inl v1)] (mX9_isWord q5) lk_X9_330 g2 dX9_must__14 rfl rfl (Nat.le_of_ble_eq_true rfl) (Nat.le_of_ble_eq_true rfl) (Nat.le_of_ble_eq_true rfl) rfl (Nat.le_of_ble_eq_true rfl) rfl rfl rfl ?_
    refine aw_if_ne (tgt := 29) (pc' := 20) hC dX9_must__17 (by decide) rfl (fun c7 => ?_) (fun c7 => ?_)
    · replace h := it_n c7 h
      refine aw_aload_n (pc' := 30) (i := 0) hC dX9_must__29 rfl rfl rfl ?_
      refine aw_getfield (pc' := 33) (v := (.inl (M3 v0 8))) hC dX9_must__30 rfl fl_X9_36 g2 rfl ?_
      refine aw_if_ne (tgt := 40) (pc' := 36) hC dX9_must__33 (by decide) rfl (fun c8 => ?_) (fun c8 => ?_)
      · replace h := it_n c8 h
        cases h
        exact aw_vret hC dX9_must__40 (Nat.le_of_ble_eq_true rfl) (Nat.le_of_ble_eq_true rfl)
      · replace h := it_p c8 h
        refine aw_aload_n (pc' := 37) (i := 0) hC dX9_must__36 rfl rfl rfl ?_
        obtain ⟨M10, q9, h⟩ := pb_s h
        replace h := u1_s h
        refine aw_cV (pc' := 40) (k2 := 0) (n2 := 0) (st := []) (stN := []) hC [] (mX9_ahead q9) lk_X9_257 g2 dX9_must__37 rfl rfl (Nat.le_of_ble_eq_true rfl) (Nat.le_of_ble_eq_true rfl) (Nat.le_of_ble_eq_true rfl) rfl (Nat.le_of_ble_eq_true rfl) rfl rfl rfl ?_
        cases h
        exact aw_vret hC dX9_must__40 (Nat.le_of_ble_eq_true rfl) (Nat.le_of_ble_eq_true rfl)
    · replace h := it_p c7 h
      refine aw_aload_n (pc' := 21) (i := 0) hC dX9_must__20 rfl rfl rfl ?_
      refine aw_iconst (pc' := 22) hC dX9_must__21 rfl (by decide) ?_
      refine aw_aload_n (pc' := 23) (i := 0) hC dX9_must__22 rfl rfl rfl ?_
      refine aw_getfield (pc' := 26) (v := (.inl (M3 v0 4))) hC dX9_must__23 rfl fl_X9_23 g2 rfl ?_
      obtain ⟨M12, q11, h⟩ := pb_s h
      replace h := u1_s h
      refine aw_cV (pc' := 29) (k2 := 0) (n2 := 0) (st := []) (stN := []) hC [.inl 1, .inl (M3 v0 4)] (mX9_blame q11) lk_X9_236 g2 dX9_must__26 rfl rfl (Nat.le_of_ble_eq_true rfl) (Nat.le_of_ble_eq_true rfl) (Nat.le_of_ble_eq_true rfl) rfl (Nat.le_of_ble_eq_true rfl) rfl rfl rfl ?_
      refine aw_aload_n (pc' := 30) (i := 0) hC dX9_must__29 rfl rfl rfl ?_
      refine aw_getfield (pc' := 33) (v := (.inl (M12 v0 8))) hC dX9_must__30 rfl fl_X9_36 g2 rfl ?_
      refine aw_if_ne (tgt := 40) (pc' := 36) hC dX9_must__33 (by decide) rfl (fun c13 => ?_) (fun c13 => ?_)
      · replace h := it_n c13 h
        cases h
        exact aw_vret hC dX9_must__40 (Nat.le_of_ble_eq_true rfl) (Nat.le_of_ble_eq_true rfl)
      · replace h := it_p c13 h
        refine aw_aload_n (pc' := 37) (i := 0) hC dX9_must__36 rfl rfl rfl ?_
        obtain ⟨M15, q14, h⟩ := pb_s h
        replace h := u1_s h
        refine aw_cV (pc' := 40) (k2 := 0) (n2 := 0) (st := []) (stN := []) hC [] (mX9_ahead q14) lk_X9_257 g2 dX9_must__37 rfl rfl (Nat.le_of_ble_eq_true rfl) (Nat.le_of_ble_eq_true rfl) (Nat.le_of_ble_eq_true rfl) rfl (Nat.le_of_ble_eq_true rfl) rfl rfl rfl ?_
        cases h
        exact aw_vret hC dX9_must__40 (Nat.le_of_ble_eq_true rfl) (Nat.le_of_ble_eq_true rfl)
  · replace h := it_p c4 h
    cases h
    exact aw_vret hC dX9_must__11 (Nat.le_of_ble_eq_true rfl) (Nat.le_of_ble_eq_true rfl)
