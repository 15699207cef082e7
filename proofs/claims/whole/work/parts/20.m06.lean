-- CoinCircle.status(I)I
def fX8_status (sh : AwS) (M : AwM) (v0 : Int) (v1 : Int) : Option Int :=
  (if v1 < 0 then some (-1) else (if v1 < 6 then gd_ (kd_ sh v0 = (0, 8)) (gd_ ((kd_ sh (M v0 8)).1 = 1 ∧ (0 : Int) ≤ v1 ∧ v1 < ((kd_ sh (M v0 8)).2 : Int)) (some (M (M v0 8) v1))) else some (-1)))
set_option maxRecDepth 100000 in
set_option maxHeartbeats 4000000 in
theorem mX8_status {sh : AwS} {M : AwM} {v0 : Int} {v1 : Int} {r : Int} (h : fX8_status sh M v0 v1 = some r) : AMet yX8_status cX8_status 2 (some .int) 1 0 0 [.inr (.inr v0), .inl v1] sh M (some (.inl r)) sh M := by
  refine amet_of (by decide +kernel) (Nat.le_of_ble_eq_true rfl) (fun Γ hC => ?_)
  replace hC : AOK Γ RX8 cX8_status 2 1 0 0 "status" (some .int) := hC
  unfold fX8_status at h
  refine aw_sub hC [some (.inr (.inr v0)), some (.inl v1)] ⟨rfl, ⟨rfl, trivial⟩⟩ (Nat.le_of_ble_eq_true rfl) ?_
  refine aw_iload_n (pc' := 1) (i := 1) hC dX8_status_0 rfl rfl rfl ?_
  refine aw_if_lt (tgt := 19) (pc' := 4) hC dX8_status_1 (by decide) rfl (fun c1 => ?_) (fun c1 => ?_)
  · replace h := it_p c1 h
    refine aw_iconst (pc' := 20) hC dX8_status_19 rfl (by decide) ?_
    cases h
    exact aw_iret hC dX8_status_20 (Nat.le_of_ble_eq_true rfl) (Nat.le_of_ble_eq_true rfl)
  · replace h := it_n c1 h
    refine aw_iload_n (pc' := 5) (i := 1) hC dX8_status_4 rfl rfl rfl ?_
    refine aw_bipush (pc' := 7) hC dX8_status_5 rfl (by decide) ?_
    refine aw_icmp_ge (tgt := 19) (pc' := 10) hC dX8_status_7 (by decide) rfl (fun c2 => ?_) (fun c2 => ?_)
    · replace h := it_n c2 h
      refine aw_iconst (pc' := 20) hC dX8_status_19 rfl (by decide) ?_
      cases h
      exact aw_iret hC dX8_status_20 (Nat.le_of_ble_eq_true rfl) (Nat.le_of_ble_eq_true rfl)
    · replace h := it_p c2 h
      refine aw_aload_n (pc' := 11) (i := 0) hC dX8_status_10 rfl rfl rfl ?_
      obtain ⟨g3, h⟩ := gd_s h
      refine aw_getfield (pc' := 14) (v := (.inr (.inr (M v0 8)))) hC dX8_status_11 rfl fl_X8_34 g3 rfl ?_
      refine aw_iload_n (pc' := 15) (i := 1) hC dX8_status_14 rfl rfl rfl ?_
      obtain ⟨g4, h⟩ := gd_s h
      refine aw_iaload (pc' := 16) hC dX8_status_15 rfl g4 ?_
      refine aw_goto (tgt := 20) hC dX8_status_16 (by decide) ?_
      cases h
      exact aw_iret hC dX8_status_20 (Nat.le_of_ble_eq_true rfl) (Nat.le_of_ble_eq_true rfl)
-- CoinCircleModel.<init>()V
set_option maxRecDepth 100000 in
set_option maxHeartbeats 4000000 in
def fX9_init (sh : AwS) (M : AwM) (v0 : Int) : Option (AwS × AwM) :=
  gd_ ((0 : Int) < v0) (bd_ ((sh.length : Nat) : Int) fun (p2 : Int) => (bd_ (sh ++ [(1, 1800)]) fun (sh4 : AwS) => (gd_ (kd_ sh4 v0 = (0, 9)) (bd_ (up_ M v0 0 p2) fun (M7 : AwM) => (bd_ (up_ M7 v0 1 0) fun (M9 : AwM) => (bd_ (up_ M9 v0 2 0) fun (M11 : AwM) => (bd_ (up_ M11 v0 3 0) fun (M13 : AwM) => (bd_ (up_ M13 v0 4 0) fun (M15 : AwM) => (bd_ (up_ M15 v0 5 0) fun (M17 : AwM) => (bd_ (up_ M17 v0 6 0) fun (M19 : AwM) => (bd_ (up_ M19 v0 7 0) fun (M21 : AwM) => (bd_ (up_ M21 v0 8 0) fun (M23 : AwM) => (bd_ (up_ M23 v0 9 (-1)) fun (M25 : AwM) => (bd_ (up_ M25 v0 10 0) fun (M27 : AwM) => (bd_ (up_ M27 v0 11 (-1)) fun (M29 : AwM) => (bd_ (up_ M29 v0 12 (-1)) fun (M31 : AwM) => (bd_ (up_ M31 v0 13 0) fun (M33 : AwM) => (bd_ ((sh4.length : Nat) : Int) fun (p35 : Int) => (bd_ (sh4 ++ [(1, 2)]) fun (sh37 : AwS) => (gd_ (kd_ sh37 v0 = (0, 9)) (bd_ (up_ M33 v0 14 p35) fun (M40 : AwM) => (bd_ ((sh37.length : Nat) : Int) fun (p42 : Int) => (bd_ (sh37 ++ [(1, 20)]) fun (sh44 : AwS) => (gd_ (kd_ sh44 v0 = (0, 9)) (bd_ (up_ M40 v0 15 p42) fun (M47 : AwM) => (bd_ ((sh44.length : Nat) : Int) fun (p49 : Int) => (bd_ (sh44 ++ [(1, 2)]) fun (sh51 : AwS) => (gd_ (kd_ sh51 v0 = (0, 9)) (bd_ (up_ M47 v0 16 p49) fun (M54 : AwM) => (bd_ ((sh51.length : Nat) : Int) fun (p56 : Int) => (bd_ (sh51 ++ [(1, 24)]) fun (sh58 : AwS) => (gd_ (kd_ sh58 v0 = (0, 9)) (bd_ (up_ M54 v0 17 p56) fun (M61 : AwM) => (bd_ ((sh58.length : Nat) : Int) fun (p63 : Int) => (bd_ (sh58 ++ [(1, 24)]) fun (sh65 : AwS) => (gd_ (kd_ sh65 v0 = (0, 9)) (bd_ (up_ M61 v0 18 p63) fun (M68 : AwM) => (bd_ ((sh65.length : Nat) : Int) fun (p70 : Int) => (bd_ (sh65 ++ [(1, 24)]) fun (sh72 : AwS) => (gd_ (kd_ sh72 v0 = (0, 9)) (bd_ (up_ M68 v0 19 p70) fun (M75 : AwM) => (bd_ ((sh72.length : Nat) : Int) fun (p77 : Int) => (bd_ (sh72 ++ [(1, 24)]) fun (sh79 : AwS) => (gd_ (kd_ sh79 v0 = (0, 9)) (bd_ (up_ M75 v0 20 p77) fun (M82 : AwM) => (bd_ ((sh79.length : Nat) : Int) fun (p84 : Int) => (bd_ (sh79 ++ [(1, 2)]) fun (sh86 : AwS) => (gd_ (kd_ sh86 v0 = (0, 9)) (bd_ (up_ M82 v0 21 p84) fun (M89 : AwM) => (bd_ ((sh86.length : Nat) : Int) fun (p91 : Int) => (bd_ (sh86 ++ [(1, 20)]) fun (sh93 : AwS) => (gd_ (kd_ sh93 v0 = (0, 9)) (bd_ (up_ M89 v0 22 p91) fun (M96 : AwM) => (bd_ ((sh93.length : Nat) : Int) fun (p98 : Int) => (bd_ (sh93 ++ [(1, 20)]) fun (sh100 : AwS) => (gd_ (kd_ sh100 v0 = (0, 9)) (bd_ (up_ M96 v0 23 p98) fun (M103 : AwM) => (bd_ ((sh100.length : Nat) : Int) fun (p105 : Int) => (bd_ (sh100 ++ [(1, 2)]) fun (sh107 : AwS) => (gd_ (kd_ sh107 v0 = (0, 9)) (bd_ (up_ M103 v0 24 p105) fun (M110 : AwM) => (bd_ ((sh107.length : Nat) : Int) fun (p112 : Int) => (bd_ (sh107 ++ [(1, 2)]) fun (sh114 : AwS) => (gd_ (kd_ sh114 v0 = (0, 9)) (bd_ (up_ M110 v0 25 p112) fun (M117 : AwM) => (bd_ ((sh114.length : Nat) : Int) fun (p119 : Int) => (bd_ (sh114 ++ [(1, 2)]) fun (sh121 : AwS) => (gd_ (kd_ sh121 v0 = (0, 9)) (bd_ (up_ M117 v0 26 p119) fun (M124 : AwM) => (bd_ ((sh121.length : Nat) : Int) fun (p126 : Int) => (bd_ (sh121 ++ [(1, 2)]) fun (sh128 : AwS) => (gd_ (kd_ sh128 v0 = (0, 9)) (bd_ (up_ M124 v0 27 p126) fun (M131 : AwM) => (bd_ ((sh128.length : Nat) : Int) fun (p133 : Int) => (bd_ (sh128 ++ [(1, 2)]) fun (sh135 : AwS) => (gd_ (kd_ sh135 v0 = (0, 9)) (bd_ (up_ M131 v0 28 p133) fun (M138 : AwM) => (bd_ ((sh135.length : Nat) : Int) fun (p140 : Int) => (bd_ (sh135 ++ [(1, 2)]) fun (sh142 : AwS) => (gd_ (kd_ sh142 v0 = (0, 9)) (bd_ (up_ M138 v0 29 p140) fun (M145 : AwM) => (bd_ ((sh142.length : Nat) : Int) fun (p147 : Int) => (bd_ (sh142 ++ [(1, 3200)]) fun (sh149 : AwS) => (gd_ (kd_ sh149 v0 = (0, 9)) (bd_ (up_ M145 v0 30 p147) fun (M152 : AwM) => (bd_ ((sh149.length : Nat) : Int) fun (p154 : Int) => (bd_ (sh149 ++ [(1, 3200)]) fun (sh156 : AwS) => (gd_ (kd_ sh156 v0 = (0, 9)) (bd_ (up_ M152 v0 31 p154) fun (M159 : AwM) => (bd_ ((sh156.length : Nat) : Int) fun (p161 : Int) => (bd_ (sh156 ++ [(2, 20)]) fun (sh163 : AwS) => (gd_ (kd_ sh163 v0 = (0, 9)) (bd_ (up_ M159 v0 32 p161) fun (M166 : AwM) => (bd_ ((sh163.length : Nat) : Int) fun (p168 : Int) => (bd_ (sh163 ++ [(2, 24)]) fun (sh170 : AwS) => (gd_ (kd_ sh170 v0 = (0, 9)) (bd_ (up_ M166 v0 33 p168) fun (M173 : AwM) => (bd_ ((sh170.length : Nat) : Int) fun (p175 : Int) => (bd_ (sh170 ++ [(2, 20)]) fun (sh177 : AwS) => (gd_ (kd_ sh177 v0 = (0, 9)) (bd_ (up_ M173 v0 34 p175) fun (M180 : AwM) => (bd_ (up_ M180 v0 35 0) fun (M182 : AwM) => (bd_ (up_ M182 v0 36 1) fun (M184 : AwM) => (bd_ ((sh177.length : Nat) : Int) fun (p186 : Int) => (bd_ (sh177 ++ [(1, 20)]) fun (sh188 : AwS) => (gd_ (kd_ sh188 v0 = (0, 9)) (bd_ (up_ M184 v0 37 p186) fun (M191 : AwM) => (bd_ ((sh188.length : Nat) : Int) fun (p193 : Int) => (bd_ (sh188 ++ [(1, 20)]) fun (sh195 : AwS) => (gd_ (kd_ sh195 v0 = (0, 9)) (bd_ (up_ M191 v0 38 p193) fun (M198 : AwM) => (bd_ ((sh195.length : Nat) : Int) fun (p200 : Int) => (bd_ (sh195 ++ [(4, 20)]) fun (sh202 : AwS) => (gd_ (kd_ sh202 v0 = (0, 9)) (bd_ (up_ M198 v0 39 p200) fun (M205 : AwM) => (bd_ ((sh202.length : Nat) : Int) fun (p207 : Int) => (bd_ (sh202 ++ [(1, 20)]) fun (sh209 : AwS) => (gd_ (kd_ sh209 v0 = (0, 9)) (bd_ (up_ M205 v0 40 p207) fun (M212 : AwM) => (bd_ ((sh209.length : Nat) : Int) fun (p214 : Int) => (bd_ (sh209 ++ [(1, 20)]) fun (sh216 : AwS) => (gd_ (kd_ sh216 v0 = (0, 9)) (bd_ (up_ M212 v0 41 p214) fun (M219 : AwM) => (bd_ (up_ M219 v0 42 0) fun (M221 : AwM) => (bd_ (up_ M221 v0 43 0) fun (M223 : AwM) => (bd_ ((sh216.length : Nat) : Int) fun (p225 : Int) => (bd_ (sh216 ++ [(1, 500)]) fun (sh227 : AwS) => (gd_ (kd_ sh227 v0 = (0, 9)) (bd_ (up_ M223 v0 44 p225) fun (M230 : AwM) => (bd_ (up_ M230 v0 45 0) fun (M232 : AwM) => (bd_ (up_ M232 v0 46 0) fun (M234 : AwM) => (bd_ ((sh227.length : Nat) : Int) fun (p236 : Int) => (bd_ (sh227 ++ [(1, 6)]) fun (sh238 : AwS) => (gd_ (kd_ sh238 v0 = (0, 9)) (bd_ (up_ M234 v0 47 p236) fun (M241 : AwM) => (bd_ ((sh238.length : Nat) : Int) fun (p243 : Int) => (bd_ (sh238 ++ [(1, 22)]) fun (sh245 : AwS) => (gd_ (kd_ sh245 v0 = (0, 9)) (bd_ (up_ M241 v0 48 p243) fun (M248 : AwM) => (bd_ ((sh245.length : Nat) : Int) fun (p250 : Int) => (bd_ (sh245 ++ [(1, 264)]) fun (sh252 : AwS) => (gd_ (kd_ sh252 v0 = (0, 9)) (bd_ (up_ M248 v0 49 p250) fun (M255 : AwM) => (bd_ ((sh252.length : Nat) : Int) fun (p257 : Int) => (bd_ (sh252 ++ [(1, 264)]) fun (sh259 : AwS) => (gd_ (kd_ sh259 v0 = (0, 9)) (bd_ (up_ M255 v0 50 p257) fun (M262 : AwM) => (bd_ ((sh259.length : Nat) : Int) fun (p264 : Int) => (bd_ (sh259 ++ [(1, 264)]) fun (sh266 : AwS) => (gd_ (kd_ sh266 v0 = (0, 9)) (bd_ (up_ M262 v0 51 p264) fun (M269 : AwM) => (bd_ ((sh266.length : Nat) : Int) fun (p271 : Int) => (bd_ (sh266 ++ [(1, 2640)]) fun (sh273 : AwS) => (gd_ (kd_ sh273 v0 = (0, 9)) (bd_ (up_ M269 v0 52 p271) fun (M276 : AwM) => (bd_ (up_ M276 v0 53 0) fun (M278 : AwM) => (bd_ (up_ M278 v0 54 0) fun (M280 : AwM) => (bd_ (up_ M280 v0 55 1) fun (M282 : AwM) => (bd_ ((sh273.length : Nat) : Int) fun (p284 : Int) => (bd_ (sh273 ++ [(2, 500)]) fun (sh286 : AwS) => (gd_ (kd_ sh286 v0 = (0, 9)) (bd_ (up_ M282 v0 56 p284) fun (M289 : AwM) => (bd_ (up_ M289 v0 57 0) fun (M291 : AwM) => (bd_ (up_ M291 v0 58 0) fun (M293 : AwM) => (bd_ (up_ M293 v0 59 0) fun (M295 : AwM) => (bd_ (up_ M295 v0 60 0) fun (M297 : AwM) => (bd_ (up_ M297 v0 61 0) fun (M299 : AwM) => (bd_ (up_ M299 v0 62 0) fun (M301 : AwM) => (bd_ ((sh286.length : Nat) : Int) fun (p303 : Int) => (bd_ (sh286 ++ [(1, 10240)]) fun (sh305 : AwS) => (gd_ (kd_ sh305 v0 = (0, 9)) (bd_ (up_ M301 v0 63 p303) fun (M308 : AwM) => (bd_ ((sh305.length : Nat) : Int) fun (p310 : Int) => (bd_ (sh305 ++ [(1, 10240)]) fun (sh312 : AwS) => (gd_ (kd_ sh312 v0 = (0, 9)) (bd_ (up_ M308 v0 64 p310) fun (M315 : AwM) => (bd_ ((sh312.length : Nat) : Int) fun (p317 : Int) => (bd_ (sh312 ++ [(1, 10240)]) fun (sh319 : AwS) => (gd_ (kd_ sh319 v0 = (0, 9)) (bd_ (up_ M315 v0 65 p317) fun (M322 : AwM) => (bd_ (up_ M322 v0 66 0) fun (M324 : AwM) => (bd_ (up_ M324 v0 67 0) fun (M326 : AwM) => (bd_ ((sh319.length : Nat) : Int) fun (p328 : Int) => (bd_ (sh319 ++ [(1, 20)]) fun (sh330 : AwS) => (gd_ (kd_ sh330 v0 = (0, 9)) (bd_ (up_ M326 v0 68 p328) fun (M333 : AwM) => (bd_ ((sh330.length : Nat) : Int) fun (p335 : Int) => (bd_ (sh330 ++ [(1, 150)]) fun (sh337 : AwS) => (gd_ (kd_ sh337 v0 = (0, 9)) (bd_ (up_ M333 v0 69 p335) fun (M340 : AwM) => (bd_ (up_ M340 v0 70 0) fun (M342 : AwM) => (gd_ ((kd_ sh337 (M342 v0 26)).1 = 1 ∧ (0 : Int) ≤ 0 ∧ 0 < ((kd_ sh337 (M342 v0 26)).2 : Int)) (bd_ (up_ M342 (M342 v0 26) 0 (-1)) fun (M345 : AwM) => (gd_ ((kd_ sh337 (M345 v0 28)).1 = 1 ∧ (0 : Int) ≤ 0 ∧ 0 < ((kd_ sh337 (M345 v0 28)).2 : Int)) (bd_ (up_ M345 (M345 v0 28) 0 (-1)) fun (M348 : AwM) => (some (sh337, M348)))))))))))))))))))))))))))))))))))))))))))))))))))))))))))))))))))))))))))))))))))))))))))))))))))))))))))))))))))))))))))))))))))))))))))))))))))))))))))))))))))))))))))))))))))))))))))))))))))))
set_option maxRecDepth 100000 in
set_option maxHeartbeats 4000000 in
theorem mX9_init {sh : AwS} {M : AwM} {v0 : Int} {sh' : AwS} {M' : AwM} (h : fX9_init sh M v0 = some (sh', M')) : AMet yX9_init cX9_init 1 none 2 40 43888 [.inr (.inr v0)] sh M none sh' M' := by
  refine amet_of (by decide +kernel) (Nat.le_of_ble_eq_true rfl) (fun Γ hC => ?_)
  replace hC : AOK Γ RX9 cX9_init 1 2 40 43888 "<init>" none := hC
  unfold fX9_init at h
  refine aw_sub hC [some (.inr (.inr v0))] ⟨rfl, trivial⟩ (Nat.le_of_ble_eq_true rfl) ?_
  refine aw_aload_n (pc' := 1) (i := 0) hC dX9_init_0 rfl rfl rfl ?_
  obtain ⟨g1, h⟩ := gd_s h
  refine aw_obj (pc' := 4) hC lo_X9_1 g1 dX9_init_1 rfl (Nat.le_of_ble_eq_true rfl) (Nat.le_of_ble_eq_true rfl) ?_
  refine aw_aload_n (pc' := 5) (i := 0) hC dX9_init_4 rfl rfl rfl ?_
  refine aw_sipush (pc' := 8) hC dX9_init_5 rfl (by decide) ?_
  obtain ⟨p2, e3, h⟩ := bd_s h
  obtain ⟨sh4, e5, h⟩ := bd_s h
  refine aw_na_int (pc' := 10) (k2 := 1) (n2 := 1800) hC dX9_init_8 rfl la_int rfl (Nat.le_of_ble_eq_true rfl) rfl rfl (Nat.le_of_ble_eq_true rfl) (Nat.le_of_ble_eq_true rfl) e3 e5 ?_
  obtain ⟨g6, h⟩ := gd_s h
  obtain ⟨M7, e8, h⟩ := bd_s h
  refine aw_pff (pc' := 13) hC dX9_init_10 rfl ff_X9_7 g6 rfl trivial e8 ?_
  refine aw_aload_n (pc' := 14) (i := 0) hC dX9_init_13 rfl rfl rfl ?_
  refine aw_iconst (pc' := 15) hC dX9_init_14 rfl (by decide) ?_
  obtain ⟨M9, e10, h⟩ := bd_s h
  refine aw_pf (pc' := 18) hC dX9_init_15 rfl fp_X9_13 g6 rfl trivial e10 ?_
  refine aw_aload_n (pc' := 19) (i := 0) hC dX9_init_18 rfl rfl rfl ?_
  refine aw_iconst (pc' := 20) hC dX9_init_19 rfl (by decide) ?_
  obtain ⟨M11, e12, h⟩ := bd_s h
  refine aw_pf (pc' := 23) hC dX9_init_20 rfl fp_X9_17 g6 rfl trivial e12 ?_
  refine aw_aload_n (pc' := 24) (i := 0) hC dX9_init_23 rfl rfl rfl ?_
  refine aw_iconst (pc' := 25) hC dX9_init_24 rfl (by decide) ?_
  obtain ⟨M13, e14, h⟩ := bd_s h
  refine aw_pf (pc' := 28) hC dX9_init_25 rfl fp_X9_20 g6 rfl trivial e14 ?_
  refine aw_aload_n (pc' := 29) (i := 0) hC dX9_init_28 rfl rfl rfl ?_
  refine aw_iconst (pc' := 30) hC dX9_init_29 rfl (by decide) ?_
  obtain ⟨M15, e16, h⟩ := bd_s h
  refine aw_pf (pc' := 33) hC dX9_init_30 rfl fp_X9_23 g6 rfl trivial e16 ?_
  refine aw_aload_n (pc' := 34) (i := 0) hC dX9_init_33 rfl rfl rfl ?_
  refine aw_iconst (pc' := 35) hC dX9_init_34 rfl (by decide) ?_
  obtain ⟨M17, e18, h⟩ := bd_s h
  refine aw_pf (pc' := 38) hC dX9_init_35 rfl fp_X9_26 g6 rfl trivial e18 ?_
  refine aw_aload_n (pc' := 39) (i := 0) hC dX9_init_38 rfl rfl rfl ?_
  refine aw_iconst (pc' := 40) hC dX9_init_39 rfl (by decide) ?_
  obtain ⟨M19, e20, h⟩ := bd_s h
  refine aw_pf (pc' := 43) hC dX9_init_40 rfl fp_X9_29 g6 rfl trivial e20 ?_
  refine aw_aload_n (pc' := 44) (i := 0) hC dX9_init_43 rfl rfl rfl ?_
  refine aw_lconst (pc' := 45) (v := 0) hC dX9_init_44 rfl rfl (by decide) ?_
  obtain ⟨M21, e22, h⟩ := bd_s h
  refine aw_pf (pc' := 48) hC dX9_init_45 rfl fp_X9_32 g6 rfl trivial e22 ?_
  refine aw_aload_n (pc' := 49) (i := 0) hC dX9_init_48 rfl rfl rfl ?_
  refine aw_iconst (pc' := 50) hC dX9_init_49 rfl (by decide) ?_
  obtain ⟨M23, e24, h⟩ := bd_s h
  refine aw_pf (pc' := 53) hC dX9_init_50 rfl fp_X9_36 g6 rfl trivial e24 ?_
  refine aw_aload_n (pc' := 54) (i := 0) hC dX9_init_53 rfl rfl rfl ?_
  refine aw_iconst (pc' := 55) hC dX9_init_54 rfl (by decide) ?_
  obtain ⟨M25, e26, h⟩ := bd_s h
  refine aw_pf (pc' := 58) hC dX9_init_55 rfl fp_X9_39 g6 rfl trivial e26 ?_
  refine aw_aload_n (pc' := 59) (i := 0) hC dX9_init_58 rfl rfl rfl ?_
  refine aw_iconst (pc' := 60) hC dX9_init_59 rfl (by decide) ?_
  obtain ⟨M27, e28, h⟩ := bd_s h
  refine aw_pf (pc' := 63) hC dX9_init_60 rfl fp_X9_42 g6 rfl trivial e28 ?_
  refine aw_aload_n (pc' := 64) (i := 0) hC dX9_init_63 rfl rfl rfl ?_
  refine aw_iconst (pc' := 65) hC dX9_init_64 rfl (by decide) ?_
  obtain ⟨M29, e30, h⟩ := bd_s h
  refine aw_pf (pc' := 68) hC dX9_init_65 rfl fp_X9_45 g6 rfl trivial e30 ?_
  refine aw_aload_n (pc' := 69) (i := 0) hC dX9_init_68 rfl rfl rfl ?_
  refine aw_iconst (pc' := 70) hC dX9_init_69 rfl (by decide) ?_
  obtain ⟨M31, e32, h⟩ := bd_s h
  refine aw_pf (pc' := 73) hC dX9_init_70 rfl fp_X9_48 g6 rfl trivial e32 ?_
  refine aw_aload_n (pc' := 74) (i := 0) hC dX9_init_73 rfl rfl rfl ?_
  refine aw_iconst (pc' := 75) hC dX9_init_74 rfl (by decide) ?_
  obtain ⟨M33, e34, h⟩ := bd_s h
  refine aw_pf (pc' := 78) hC dX9_init_75 rfl fp_X9_51 g6 rfl trivial e34 ?_
  refine aw_aload_n (pc' := 79) (i := 0) hC dX9_init_78 rfl rfl rfl ?_
  refine aw_iconst (pc' := 80) hC dX9_init_79 rfl (by decide) ?_
  obtain ⟨p35, e36, h⟩ := bd_s h
  obtain ⟨sh37, e38, h⟩ := bd_s h
  refine aw_na_int (pc' := 82) (k2 := 2) (n2 := 1802) hC dX9_init_80 rfl la_int rfl (Nat.le_of_ble_eq_true rfl) rfl rfl (Nat.le_of_ble_eq_true rfl) (Nat.le_of_ble_eq_true rfl) e36 e38 ?_
  obtain ⟨g39, h⟩ := gd_s h
  obtain ⟨M40, e41, h⟩ := bd_s h
  refine aw_pff (pc' := 85) hC dX9_init_82 rfl ff_X9_54 g39 rfl trivial e41 ?_
  refine aw_aload_n (pc' := 86) (i := 0) hC dX9_init_85 rfl rfl rfl ?_
  refine aw_bipush (pc' := 88) hC dX9_init_86 rfl (by decide) ?_
  obtain ⟨p42, e43, h⟩ := bd_s h
  obtain ⟨sh44, e45, h⟩ := bd_s h
  refine aw_na_int (pc' := 90) (k2 := 3) (n2 := 1822) hC dX9_init_88 rfl la_int rfl (Nat.le_of_ble_eq_true rfl) rfl rfl (Nat.le_of_ble_eq_true rfl) (Nat.le_of_ble_eq_true rfl) e43 e45 ?_
  obtain ⟨g46, h⟩ := gd_s h
  obtain ⟨M47, e48, h⟩ := bd_s h
  refine aw_pff (pc' := 93) hC dX9_init_90 rfl ff_X9_57 g46 rfl trivial e48 ?_
  refine aw_aload_n (pc' := 94) (i := 0) hC dX9_init_93 rfl rfl rfl ?_
  refine aw_iconst (pc' := 95) hC dX9_init_94 rfl (by decide) ?_
  obtain ⟨p49, e50, h⟩ := bd_s h
  obtain ⟨sh51, e52, h⟩ := bd_s h
  refine aw_na_int (pc' := 97) (k2 := 4) (n2 := 1824) hC dX9_init_95 rfl la_int rfl (Nat.le_of_ble_eq_true rfl) rfl rfl (Nat.le_of_ble_eq_true rfl) (Nat.le_of_ble_eq_true rfl) e50 e52 ?_
  obtain ⟨g53, h⟩ := gd_s h
  obtain ⟨M54, e55, h⟩ := bd_s h
  refine aw_pff (pc' := 100) hC dX9_init_97 rfl ff_X9_60 g53 rfl trivial e55 ?_
  refine aw_aload_n (pc' := 101) (i := 0) hC dX9_init_100 rfl rfl rfl ?_
  refine aw_bipush (pc' := 103) hC dX9_init_101 rfl (by decide) ?_
  obtain ⟨p56, e57, h⟩ := bd_s h
  obtain ⟨sh58, e59, h⟩ := bd_s h
  refine aw_na_int (pc' := 105) (k2 := 5) (n2 := 1848) hC dX9_init_103 rfl la_int rfl (Nat.le_of_ble_eq_true rfl) rfl rfl (Nat.le_of_ble_eq_true rfl) (Nat.le_of_ble_eq_true rfl) e57 e59 ?_
  obtain ⟨g60, h⟩ := gd_s h
  obtain ⟨M61, e62, h⟩ := bd_s h
  refine aw_pff (pc' := 108) hC dX9_init_105 rfl ff_X9_63 g60 rfl trivial e62 ?_
  refine aw_aload_n (pc' := 109) (i := 0) hC dX9_init_108 rfl rfl rfl ?_
  refine aw_bipush (pc' := 111) hC dX9_init_109 rfl (by decide) ?_
  obtain ⟨p63, e64, h⟩ := bd_s h
  obtain ⟨sh65, e66, h⟩ := bd_s h
  refine aw_na_int (pc' := 113) (k2 := 6) (n2 := 1872) hC dX9_init_111 rfl la_int rfl (Nat.le_of_ble_eq_true rfl) rfl rfl (Nat.le_of_ble_eq_true rfl) (Nat.le_of_ble_eq_true rfl) e64 e66 ?_
  obtain ⟨g67, h⟩ := gd_s h
  obtain ⟨M68, e69, h⟩ := bd_s h
  refine aw_pff (pc' := 116) hC dX9_init_113 rfl ff_X9_66 g67 rfl trivial e69 ?_
  refine aw_aload_n (pc' := 117) (i := 0) hC dX9_init_116 rfl rfl rfl ?_
  refine aw_bipush (pc' := 119) hC dX9_init_117 rfl (by decide) ?_
  obtain ⟨p70, e71, h⟩ := bd_s h
  obtain ⟨sh72, e73, h⟩ := bd_s h
  refine aw_na_int (pc' := 121) (k2 := 7) (n2 := 1896) hC dX9_init_119 rfl la_int rfl (Nat.le_of_ble_eq_true rfl) rfl rfl (Nat.le_of_ble_eq_true rfl) (Nat.le_of_ble_eq_true rfl) e71 e73 ?_
  obtain ⟨g74, h⟩ := gd_s h
  obtain ⟨M75, e76, h⟩ := bd_s h
  refine aw_pff (pc' := 124) hC dX9_init_121 rfl ff_X9_69 g74 rfl trivial e76 ?_
  refine aw_aload_n (pc' := 125) (i := 0) hC dX9_init_124 rfl rfl rfl ?_
  refine aw_bipush (pc' := 127) hC dX9_init_125 rfl (by decide) ?_
  obtain ⟨p77, e78, h⟩ := bd_s h
  obtain ⟨sh79, e80, h⟩ := bd_s h
  refine aw_na_int (pc' := 129) (k2 := 8) (n2 := 1920) hC dX9_init_127 rfl la_int rfl (Nat.le_of_ble_eq_true rfl) rfl rfl (Nat.le_of_ble_eq_true rfl) (Nat.le_of_ble_eq_true rfl) e78 e80 ?_
  obtain ⟨g81, h⟩ := gd_s h
  obtain ⟨M82, e83, h⟩ := bd_s h
  refine aw_pff (pc' := 132) hC dX9_init_129 rfl ff_X9_72 g81 rfl trivial e83 ?_
  refine aw_aload_n (pc' := 133) (i := 0) hC dX9_init_132 rfl rfl rfl ?_
  refine aw_iconst (pc' := 134) hC dX9_init_133 rfl (by decide) ?_
  obtain ⟨p84, e85, h⟩ := bd_s h
  obtain ⟨sh86, e87, h⟩ := bd_s h
  refine aw_na_int (pc' := 136) (k2 := 9) (n2 := 1922) hC dX9_init_134 rfl la_int rfl (Nat.le_of_ble_eq_true rfl) rfl rfl (Nat.le_of_ble_eq_true rfl) (Nat.le_of_ble_eq_true rfl) e85 e87 ?_
  obtain ⟨g88, h⟩ := gd_s h
  obtain ⟨M89, e90, h⟩ := bd_s h
  refine aw_pff (pc' := 139) hC dX9_init_136 rfl ff_X9_75 g88 rfl trivial e90 ?_
  refine aw_aload_n (pc' := 140) (i := 0) hC dX9_init_139 rfl rfl rfl ?_
  refine aw_bipush (pc' := 142) hC dX9_init_140 rfl (by decide) ?_
  obtain ⟨p91, e92, h⟩ := bd_s h
  obtain ⟨sh93, e94, h⟩ := bd_s h
  refine aw_na_int (pc' := 144) (k2 := 10) (n2 := 1942) hC dX9_init_142 rfl la_int rfl (Nat.le_of_ble_eq_true rfl) rfl rfl (Nat.le_of_ble_eq_true rfl) (Nat.le_of_ble_eq_true rfl) e92 e94 ?_
  obtain ⟨g95, h⟩ := gd_s h
  obtain ⟨M96, e97, h⟩ := bd_s h
  refine aw_pff (pc' := 147) hC dX9_init_144 rfl ff_X9_78 g95 rfl trivial e97 ?_
  refine aw_aload_n (pc' := 148) (i := 0) hC dX9_init_147 rfl rfl rfl ?_
  refine aw_bipush (pc' := 150) hC dX9_init_148 rfl (by decide) ?_
  obtain ⟨p98, e99, h⟩ := bd_s h
  obtain ⟨sh100, e101, h⟩ := bd_s h
  refine aw_na_int (pc' := 152) (k2 := 11) (n2 := 1962) hC dX9_init_150 rfl la_int rfl (Nat.le_of_ble_eq_true rfl) rfl rfl (Nat.le_of_ble_eq_true rfl) (Nat.le_of_ble_eq_true rfl) e99 e101 ?_
  obtain ⟨g102, h⟩ := gd_s h
  obtain ⟨M103, e104, h⟩ := bd_s h
  refine aw_pff (pc' := 155) hC dX9_init_152 rfl ff_X9_81 g102 rfl trivial e104 ?_
  refine aw_aload_n (pc' := 156) (i := 0) hC dX9_init_155 rfl rfl rfl ?_
  refine aw_iconst (pc' := 157) hC dX9_init_156 rfl (by decide) ?_
  obtain ⟨p105, e106, h⟩ := bd_s h
  obtain ⟨sh107, e108, h⟩ := bd_s h
  refine aw_na_int (pc' := 159) (k2 := 12) (n2 := 1964) hC dX9_init_157 rfl la_int rfl (Nat.le_of_ble_eq_true rfl) rfl rfl (Nat.le_of_ble_eq_true rfl) (Nat.le_of_ble_eq_true rfl) e106 e108 ?_
  obtain ⟨g109, h⟩ := gd_s h
  obtain ⟨M110, e111, h⟩ := bd_s h
  refine aw_pff (pc' := 162) hC dX9_init_159 rfl ff_X9_84 g109 rfl trivial e111 ?_
  refine aw_aload_n (pc' := 163) (i := 0) hC dX9_init_162 rfl rfl rfl ?_
  refine aw_iconst (pc' := 164) hC dX9_init_163 rfl (by decide) ?_
  obtain ⟨p112, e113, h⟩ := bd_s h
  obtain ⟨sh114, e115, h⟩ := bd_s h
  refine aw_na_int (pc' := 166) (k2 := 13) (n2 := 1966) hC dX9_init_164 rfl la_int rfl (Nat.le_of_ble_eq_true rfl) rfl rfl (Nat.le_of_ble_eq_true rfl) (Nat.le_of_ble_eq_true rfl) e113 e115 ?_
  obtain ⟨g116, h⟩ := gd_s h
  obtain ⟨M117, e118, h⟩ := bd_s h
  refine aw_pff (pc' := 169) hC dX9_init_166 rfl ff_X9_87 g116 rfl trivial e118 ?_
  refine aw_aload_n (pc' := 170) (i := 0) hC dX9_init_169 rfl rfl rfl ?_
  refine aw_iconst (pc' := 171) hC dX9_init_170 rfl (by decide) ?_
  obtain ⟨p119, e120, h⟩ := bd_s h
  obtain ⟨sh121, e122, h⟩ := bd_s h
  refine aw_na_int (pc' := 173) (k2 := 14) (n2 := 1968) hC dX9_init_171 rfl la_int rfl (Nat.le_of_ble_eq_true rfl) rfl rfl (Nat.le_of_ble_eq_true rfl) (Nat.le_of_ble_eq_true rfl) e120 e122 ?_
  obtain ⟨g123, h⟩ := gd_s h
  obtain ⟨M124, e125, h⟩ := bd_s h
  refine aw_pff (pc' := 176) hC dX9_init_173 rfl ff_X9_90 g123 rfl trivial e125 ?_
  refine aw_aload_n (pc' := 177) (i := 0) hC dX9_init_176 rfl rfl rfl ?_
  refine aw_iconst (pc' := 178) hC dX9_init_177 rfl (by decide) ?_
  obtain ⟨p126, e127, h⟩ := bd_s h
  obtain ⟨sh128, e129, h⟩ := bd_s h
  refine aw_na_int (pc' := 180) (k2 := 15) (n2 := 1970) hC dX9_init_178 rfl la_int rfl (Nat.le_of_ble_eq_true rfl) rfl rfl (Nat.le_of_ble_eq_true rfl) (Nat.le_of_ble_eq_true rfl) e127 e129 ?_
  obtain ⟨g130, h⟩ := gd_s h
  obtain ⟨M131, e132, h⟩ := bd_s h
  refine aw_pff (pc' := 183) hC dX9_init_180 rfl ff_X9_93 g130 rfl trivial e132 ?_
  refine aw_aload_n (pc' := 184) (i := 0) hC dX9_init_183 rfl rfl rfl ?_
  refine aw_iconst (pc' := 185) hC dX9_init_184 rfl (by decide) ?_
  obtain ⟨p133, e134, h⟩ := bd_s h
  obtain ⟨sh135, e136, h⟩ := bd_s h
  refine aw_na_int (pc' := 187) (k2 := 16) (n2 := 1972) hC dX9_init_185 rfl la_int rfl (Nat.le_of_ble_eq_true rfl) rfl rfl (Nat.le_of_ble_eq_true rfl) (Nat.le_of_ble_eq_true rfl) e134 e136 ?_
  obtain ⟨g137, h⟩ := gd_s h
  obtain ⟨M138, e139, h⟩ := bd_s h
  refine aw_pff (pc' := 190) hC dX9_init_187 rfl ff_X9_96 g137 rfl trivial e139 ?_
  refine aw_aload_n (pc' := 191) (i := 0) hC dX9_init_190 rfl rfl rfl ?_
  refine aw_iconst (pc' := 192) hC dX9_init_191 rfl (by decide) ?_
  obtain ⟨p140, e141, h⟩ := bd_s h
  obtain ⟨sh142, e143, h⟩ := bd_s h
  refine aw_na_int (pc' := 194) (k2 := 17) (n2 := 1974) hC dX9_init_192 rfl la_int rfl (Nat.le_of_ble_eq_true rfl) rfl rfl (Nat.le_of_ble_eq_true rfl) (Nat.le_of_ble_eq_true rfl) e141 e143 ?_
  obtain ⟨g144, h⟩ := gd_s h
  obtain ⟨M145, e146, h⟩ := bd_s h
  refine aw_pff (pc' := 197) hC dX9_init_194 rfl ff_X9_99 g144 rfl trivial e146 ?_
  refine aw_aload_n (pc' := 198) (i := 0) hC dX9_init_197 rfl rfl rfl ?_
  refine aw_sipush (pc' := 201) hC dX9_init_198 rfl (by decide) ?_
  obtain ⟨p147, e148, h⟩ := bd_s h
  obtain ⟨sh149, e150, h⟩ := bd_s h
  refine aw_na_int (pc' := 203) (k2 := 18) (n2 := 5174) hC dX9_init_201 rfl la_int rfl (Nat.le_of_ble_eq_true rfl) rfl rfl (Nat.le_of_ble_eq_true rfl) (Nat.le_of_ble_eq_true rfl) e148 e150 ?_
  obtain ⟨g151, h⟩ := gd_s h
  obtain ⟨M152, e153, h⟩ := bd_s h
  refine aw_pff (pc' := 206) hC dX9_init_203 rfl ff_X9_102 g151 rfl trivial e153 ?_
  refine aw_aload_n (pc' := 207) (i := 0) hC dX9_init_206 rfl rfl rfl ?_
  refine aw_sipush (pc' := 210) hC dX9_init_207 rfl (by decide) ?_
  obtain ⟨p154, e155, h⟩ := bd_s h
  obtain ⟨sh156, e157, h⟩ := bd_s h
  refine aw_na_int (pc' := 212) (k2 := 19) (n2 := 8374) hC dX9_init_210 rfl la_int rfl (Nat.le_of_ble_eq_true rfl) rfl rfl (Nat.le_of_ble_eq_true rfl) (Nat.le_of_ble_eq_true rfl) e155 e157 ?_
  obtain ⟨g158, h⟩ := gd_s h
  obtain ⟨M159, e160, h⟩ := bd_s h
  refine aw_pff (pc' := 215) hC dX9_init_212 rfl ff_X9_105 g158 rfl trivial e160 ?_
  refine aw_aload_n (pc' := 216) (i := 0) hC dX9_init_215 rfl rfl rfl ?_
  refine aw_bipush (pc' := 218) hC dX9_init_216 rfl (by decide) ?_
  obtain ⟨p161, e162, h⟩ := bd_s h
  obtain ⟨sh163, e164, h⟩ := bd_s h
  refine aw_na_long (pc' := 220) (k2 := 20) (n2 := 8394) hC dX9_init_218 rfl la_long rfl (Nat.le_of_ble_eq_true rfl) rfl rfl (Nat.le_of_ble_eq_true rfl) (Nat.le_of_ble_eq_true rfl) e162 e164 ?_
  obtain ⟨g165, h⟩ := gd_s h
  obtain ⟨M166, e167, h⟩ := bd_s h
  refine aw_pff (pc' := 223) hC dX9_init_220 rfl ff_X9_108 g165 rfl trivial e167 ?_
  refine aw_aload_n (pc' := 224) (i := 0) hC dX9_init_223 rfl rfl rfl ?_
  refine aw_bipush (pc' := 226) hC dX9_init_224 rfl (by decide) ?_
  obtain ⟨p168, e169, h⟩ := bd_s h
  obtain ⟨sh170, e171, h⟩ := bd_s h
  refine aw_na_long (pc' := 228) (k2 := 21) (n2 := 8418) hC dX9_init_226 rfl la_long rfl (Nat.le_of_ble_eq_true rfl) rfl rfl (Nat.le_of_ble_eq_true rfl) (Nat.le_of_ble_eq_true rfl) e169 e171 ?_
  obtain ⟨g172, h⟩ := gd_s h
  obtain ⟨M173, e174, h⟩ := bd_s h
  refine aw_pff (pc' := 231) hC dX9_init_228 rfl ff_X9_112 g172 rfl trivial e174 ?_
  refine aw_aload_n (pc' := 232) (i := 0) hC dX9_init_231 rfl rfl rfl ?_
  refine aw_bipush (pc' := 234) hC dX9_init_232 rfl (by decide) ?_
  obtain ⟨p175, e176, h⟩ := bd_s h
  obtain ⟨sh177, e178, h⟩ := bd_s h
  refine aw_na_long (pc' := 236) (k2 := 22) (n2 := 8438) hC dX9_init_234 rfl la_long rfl (Nat.le_of_ble_eq_true rfl) rfl rfl (Nat.le_of_ble_eq_true rfl) (Nat.le_of_ble_eq_true rfl) e176 e178 ?_
  obtain ⟨g179, h⟩ := gd_s h
  obtain ⟨M180, e181, h⟩ := bd_s h
  refine aw_pff (pc' := 239) hC dX9_init_236 rfl ff_X9_115 g179 rfl trivial e181 ?_
  refine aw_aload_n (pc' := 240) (i := 0) hC dX9_init_239 rfl rfl rfl ?_
  refine aw_iconst (pc' := 241) hC dX9_init_240 rfl (by decide) ?_
  obtain ⟨M182, e183, h⟩ := bd_s h
  refine aw_pf (pc' := 244) hC dX9_init_241 rfl fp_X9_118 g179 rfl trivial e183 ?_
  refine aw_aload_n (pc' := 245) (i := 0) hC dX9_init_244 rfl rfl rfl ?_
  refine aw_iconst (pc' := 246) hC dX9_init_245 rfl (by decide) ?_
  obtain ⟨M184, e185, h⟩ := bd_s h
  refine aw_pf (pc' := 249) hC dX9_init_246 rfl fp_X9_121 g179 rfl trivial e185 ?_
  refine aw_aload_n (pc' := 250) (i := 0) hC dX9_init_249 rfl rfl rfl ?_
  refine aw_bipush (pc' := 252) hC dX9_init_250 rfl (by decide) ?_
  obtain ⟨p186, e187, h⟩ := bd_s h
  obtain ⟨sh188, e189, h⟩ := bd_s h
  refine aw_na_int (pc' := 254) (k2 := 23) (n2 := 8458) hC dX9_init_252 rfl la_int rfl (Nat.le_of_ble_eq_true rfl) rfl rfl (Nat.le_of_ble_eq_true rfl) (Nat.le_of_ble_eq_true rfl) e187 e189 ?_
  obtain ⟨g190, h⟩ := gd_s h
  obtain ⟨M191, e192, h⟩ := bd_s h
  refine aw_pff (pc' := 257) hC dX9_init_254 rfl ff_X9_124 g190 rfl trivial e192 ?_
  refine aw_aload_n (pc' := 258) (i := 0) hC dX9_init_257 rfl rfl rfl ?_
  refine aw_bipush (pc' := 260) hC dX9_init_258 rfl (by decide) ?_
  obtain ⟨p193, e194, h⟩ := bd_s h
  obtain ⟨sh195, e196, h⟩ := bd_s h
  refine aw_na_int (pc' := 262) (k2 := 24) (n2 := 8478) hC dX9_init_260 rfl la_int rfl (Nat.le_of_ble_eq_true rfl) rfl rfl (Nat.le_of_ble_eq_true rfl) (Nat.le_of_ble_eq_true rfl) e194 e196 ?_
  obtain ⟨g197, h⟩ := gd_s h
  obtain ⟨M198, e199, h⟩ := bd_s h
  refine aw_pff (pc' := 265) hC dX9_init_262 rfl ff_X9_127 g197 rfl trivial e199 ?_
  refine aw_aload_n (pc' := 266) (i := 0) hC dX9_init_265 rfl rfl rfl ?_
  refine aw_bipush (pc' := 268) hC dX9_init_266 rfl (by decide) ?_
  obtain ⟨p200, e201, h⟩ := bd_s h
  obtain ⟨sh202, e203, h⟩ := bd_s h
  refine aw_na_boolean (pc' := 270) (k2 := 25) (n2 := 8498) hC dX9_init_268 rfl la_boolean rfl (Nat.le_of_ble_eq_true rfl) rfl rfl (Nat.le_of_ble_eq_true rfl) (Nat.le_of_ble_eq_true rfl) e201 e203 ?_
  obtain ⟨g204, h⟩ := gd_s h
  obtain ⟨M205, e206, h⟩ := bd_s h
  refine aw_pff (pc' := 273) hC dX9_init_270 rfl ff_X9_130 g204 rfl trivial e206 ?_
  refine aw_aload_n (pc' := 274) (i := 0) hC dX9_init_273 rfl rfl rfl ?_
  refine aw_bipush (pc' := 276) hC dX9_init_274 rfl (by decide) ?_
  obtain ⟨p207, e208, h⟩ := bd_s h
  obtain ⟨sh209, e210, h⟩ := bd_s h
  refine aw_na_int (pc' := 278) (k2 := 26) (n2 := 8518) hC dX9_init_276 rfl la_int rfl (Nat.le_of_ble_eq_true rfl) rfl rfl (Nat.le_of_ble_eq_true rfl) (Nat.le_of_ble_eq_true rfl) e208 e210 ?_
  obtain ⟨g211, h⟩ := gd_s h
  obtain ⟨M212, e213, h⟩ := bd_s h
  refine aw_pff (pc' := 281) hC dX9_init_278 rfl ff_X9_134 g211 rfl trivial e213 ?_
  refine aw_aload_n (pc' := 282) (i := 0) hC dX9_init_281 rfl rfl rfl ?_
  refine aw_bipush (pc' := 284) hC dX9_init_282 rfl (by decide) ?_
  obtain ⟨p214, e215, h⟩ := bd_s h
  obtain ⟨sh216, e217, h⟩ := bd_s h
  refine aw_na_int (pc' := 286) (k2 := 27) (n2 := 8538) hC dX9_init_284 rfl la_int rfl (Nat.le_of_ble_eq_true rfl) rfl rfl (Nat.le_of_ble_eq_true rfl) (Nat.le_of_ble_eq_true rfl) e215 e217 ?_
  obtain ⟨g218, h⟩ := gd_s h
  obtain ⟨M219, e220, h⟩ := bd_s h
  refine aw_pff (pc' := 289) hC dX9_init_286 rfl ff_X9_137 g218 rfl trivial e220 ?_
  refine aw_aload_n (pc' := 290) (i := 0) hC dX9_init_289 rfl rfl rfl ?_
  refine aw_iconst (pc' := 291) hC dX9_init_290 rfl (by decide) ?_
  obtain ⟨M221, e222, h⟩ := bd_s h
  refine aw_pf (pc' := 294) hC dX9_init_291 rfl fp_X9_140 g218 rfl trivial e222 ?_
  refine aw_aload_n (pc' := 295) (i := 0) hC dX9_init_294 rfl rfl rfl ?_
  refine aw_iconst (pc' := 296) hC dX9_init_295 rfl (by decide) ?_
  obtain ⟨M223, e224, h⟩ := bd_s h
  refine aw_pf (pc' := 299) hC dX9_init_296 rfl fp_X9_143 g218 rfl trivial e224 ?_
  refine aw_aload_n (pc' := 300) (i := 0) hC dX9_init_299 rfl rfl rfl ?_
  refine aw_sipush (pc' := 303) hC dX9_init_300 rfl (by decide) ?_
  obtain ⟨p225, e226, h⟩ := bd_s h
  obtain ⟨sh227, e228, h⟩ := bd_s h
  refine aw_na_int (pc' := 305) (k2 := 28) (n2 := 9038) hC dX9_init_303 rfl la_int rfl (Nat.le_of_ble_eq_true rfl) rfl rfl (Nat.le_of_ble_eq_true rfl) (Nat.le_of_ble_eq_true rfl) e226 e228 ?_
  obtain ⟨g229, h⟩ := gd_s h
  obtain ⟨M230, e231, h⟩ := bd_s h
  refine aw_pff (pc' := 308) hC dX9_init_305 rfl ff_X9_146 g229 rfl trivial e231 ?_
  refine aw_aload_n (pc' := 309) (i := 0) hC dX9_init_308 rfl rfl rfl ?_
  refine aw_iconst (pc' := 310) hC dX9_init_309 rfl (by decide) ?_
  obtain ⟨M232, e233, h⟩ := bd_s h
  refine aw_pf (pc' := 313) hC dX9_init_310 rfl fp_X9_149 g229 rfl trivial e233 ?_
  refine aw_aload_n (pc' := 314) (i := 0) hC dX9_init_313 rfl rfl rfl ?_
  refine aw_iconst (pc' := 315) hC dX9_init_314 rfl (by decide) ?_
  obtain ⟨M234, e235, h⟩ := bd_s h
  refine aw_pf (pc' := 318) hC dX9_init_315 rfl fp_X9_152 g229 rfl (Or.inl rfl) e235 ?_
  refine aw_aload_n (pc' := 319) (i := 0) hC dX9_init_318 rfl rfl rfl ?_
  refine aw_bipush (pc' := 321) hC dX9_init_319 rfl (by decide) ?_
  obtain ⟨p236, e237, h⟩ := bd_s h
  obtain ⟨sh238, e239, h⟩ := bd_s h
  refine aw_na_int (pc' := 323) (k2 := 29) (n2 := 9044) hC dX9_init_321 rfl la_int rfl (Nat.le_of_ble_eq_true rfl) rfl rfl (Nat.le_of_ble_eq_true rfl) (Nat.le_of_ble_eq_true rfl) e237 e239 ?_
  obtain ⟨g240, h⟩ := gd_s h
  obtain ⟨M241, e242, h⟩ := bd_s h
  refine aw_pff (pc' := 326) hC dX9_init_323 rfl ff_X9_156 g240 rfl trivial e242 ?_
  refine aw_aload_n (pc' := 327) (i := 0) hC dX9_init_326 rfl rfl rfl ?_
  refine aw_bipush (pc' := 329) hC dX9_init_327 rfl (by decide) ?_
  obtain ⟨p243, e244, h⟩ := bd_s h
  obtain ⟨sh245, e246, h⟩ := bd_s h
  refine aw_na_int (pc' := 331) (k2 := 30) (n2 := 9066) hC dX9_init_329 rfl la_int rfl (Nat.le_of_ble_eq_true rfl) rfl rfl (Nat.le_of_ble_eq_true rfl) (Nat.le_of_ble_eq_true rfl) e244 e246 ?_
  obtain ⟨g247, h⟩ := gd_s h
  obtain ⟨M248, e249, h⟩ := bd_s h
  refine aw_pff (pc' := 334) hC dX9_init_331 rfl ff_X9_159 g247 rfl trivial e249 ?_
  refine aw_aload_n (pc' := 335) (i := 0) hC dX9_init_334 rfl rfl rfl ?_
  refine aw_sipush (pc' := 338) hC dX9_init_335 rfl (by decide) ?_
  obtain ⟨p250, e251, h⟩ := bd_s h
  obtain ⟨sh252, e253, h⟩ := bd_s h
  refine aw_na_int (pc' := 340) (k2 := 31) (n2 := 9330) hC dX9_init_338 rfl la_int rfl (Nat.le_of_ble_eq_true rfl) rfl rfl (Nat.le_of_ble_eq_true rfl) (Nat.le_of_ble_eq_true rfl) e251 e253 ?_
  obtain ⟨g254, h⟩ := gd_s h
  obtain ⟨M255, e256, h⟩ := bd_s h
  refine aw_pff (pc' := 343) hC dX9_init_340 rfl ff_X9_162 g254 rfl trivial e256 ?_
  refine aw_aload_n (pc' := 344) (i := 0) hC dX9_init_343 rfl rfl rfl ?_
  refine aw_sipush (pc' := 347) hC dX9_init_344 rfl (by decide) ?_
  obtain ⟨p257, e258, h⟩ := bd_s h
  obtain ⟨sh259, e260, h⟩ := bd_s h
  refine aw_na_int (pc' := 349) (k2 := 32) (n2 := 9594) hC dX9_init_347 rfl la_int rfl (Nat.le_of_ble_eq_true rfl) rfl rfl (Nat.le_of_ble_eq_true rfl) (Nat.le_of_ble_eq_true rfl) e258 e260 ?_
  obtain ⟨g261, h⟩ := gd_s h
  obtain ⟨M262, e263, h⟩ := bd_s h
  refine aw_pff (pc' := 352) hC dX9_init_349 rfl ff_X9_165 g261 rfl trivial e263 ?_
  refine aw_aload_n (pc' := 353) (i := 0) hC dX9_init_352 rfl rfl rfl ?_
  refine aw_sipush (pc' := 356) hC dX9_init_353 rfl (by decide) ?_
  obtain ⟨p264, e265, h⟩ := bd_s h
  obtain ⟨sh266, e267, h⟩ := bd_s h
  refine aw_na_int (pc' := 358) (k2 := 33) (n2 := 9858) hC dX9_init_356 rfl la_int rfl (Nat.le_of_ble_eq_true rfl) rfl rfl (Nat.le_of_ble_eq_true rfl) (Nat.le_of_ble_eq_true rfl) e265 e267 ?_
  obtain ⟨g268, h⟩ := gd_s h
  obtain ⟨M269, e270, h⟩ := bd_s h
  refine aw_pff (pc' := 361) hC dX9_init_358 rfl ff_X9_168 g268 rfl trivial e270 ?_
  refine aw_aload_n (pc' := 362) (i := 0) hC dX9_init_361 rfl rfl rfl ?_
  refine aw_sipush (pc' := 365) hC dX9_init_362 rfl (by decide) ?_
  obtain ⟨p271, e272, h⟩ := bd_s h
  obtain ⟨sh273, e274, h⟩ := bd_s h
  refine aw_na_int (pc' := 367) (k2 := 34) (n2 := 12498) hC dX9_init_365 rfl la_int rfl (Nat.le_of_ble_eq_true rfl) rfl rfl (Nat.le_of_ble_eq_true rfl) (Nat.le_of_ble_eq_true rfl) e272 e274 ?_
  obtain ⟨g275, h⟩ := gd_s h
  obtain ⟨M276, e277, h⟩ := bd_s h
  refine aw_pff (pc' := 370) hC dX9_init_367 rfl ff_X9_171 g275 rfl trivial e277 ?_
  refine aw_aload_n (pc' := 371) (i := 0) hC dX9_init_370 rfl rfl rfl ?_
  refine aw_iconst (pc' := 372) hC dX9_init_371 rfl (by decide) ?_
  obtain ⟨M278, e279, h⟩ := bd_s h
  refine aw_pf (pc' := 375) hC dX9_init_372 rfl fp_X9_174 g275 rfl trivial e279 ?_
  refine aw_aload_n (pc' := 376) (i := 0) hC dX9_init_375 rfl rfl rfl ?_
  refine aw_iconst (pc' := 377) hC dX9_init_376 rfl (by decide) ?_
  obtain ⟨M280, e281, h⟩ := bd_s h
  refine aw_pf (pc' := 380) hC dX9_init_377 rfl fp_X9_177 g275 rfl trivial e281 ?_
  refine aw_aload_n (pc' := 381) (i := 0) hC dX9_init_380 rfl rfl rfl ?_
  refine aw_lconst (pc' := 382) (v := 1) hC dX9_init_381 rfl rfl (by decide) ?_
  obtain ⟨M282, e283, h⟩ := bd_s h
  refine aw_pf (pc' := 385) hC dX9_init_382 rfl fp_X9_180 g275 rfl trivial e283 ?_
  refine aw_aload_n (pc' := 386) (i := 0) hC dX9_init_385 rfl rfl rfl ?_
  refine aw_sipush (pc' := 389) hC dX9_init_386 rfl (by decide) ?_
  obtain ⟨p284, e285, h⟩ := bd_s h
  obtain ⟨sh286, e287, h⟩ := bd_s h
  refine aw_na_long (pc' := 391) (k2 := 35) (n2 := 12998) hC dX9_init_389 rfl la_long rfl (Nat.le_of_ble_eq_true rfl) rfl rfl (Nat.le_of_ble_eq_true rfl) (Nat.le_of_ble_eq_true rfl) e285 e287 ?_
  obtain ⟨g288, h⟩ := gd_s h
  obtain ⟨M289, e290, h⟩ := bd_s h
  refine aw_pff (pc' := 394) hC dX9_init_391 rfl ff_X9_183 g288 rfl trivial e290 ?_
  refine aw_aload_n (pc' := 395) (i := 0) hC dX9_init_394 rfl rfl rfl ?_
  refine aw_iconst (pc' := 396) hC dX9_init_395 rfl (by decide) ?_
  obtain ⟨M291, e292, h⟩ := bd_s h
  refine aw_pf (pc' := 399) hC dX9_init_396 rfl fp_X9_186 g288 rfl trivial e292 ?_
  refine aw_aload_n (pc' := 400) (i := 0) hC dX9_init_399 rfl rfl rfl ?_
  refine aw_iconst (pc' := 401) hC dX9_init_400 rfl (by decide) ?_
  obtain ⟨M293, e294, h⟩ := bd_s h
  refine aw_pf (pc' := 404) hC dX9_init_401 rfl fp_X9_189 g288 rfl trivial e294 ?_
  refine aw_aload_n (pc' := 405) (i := 0) hC dX9_init_404 rfl rfl rfl ?_
  refine aw_iconst (pc' := 406) hC dX9_init_405 rfl (by decide) ?_
  obtain ⟨M295, e296, h⟩ := bd_s h
  refine aw_pf (pc' := 409) hC dX9_init_406 rfl fp_X9_192 g288 rfl trivial e296 ?_
  refine aw_aload_n (pc' := 410) (i := 0) hC dX9_init_409 rfl rfl rfl ?_
  refine aw_iconst (pc' := 411) hC dX9_init_410 rfl (by decide) ?_
  obtain ⟨M297, e298, h⟩ := bd_s h
  refine aw_pf (pc' := 414) hC dX9_init_411 rfl fp_X9_195 g288 rfl trivial e298 ?_
  refine aw_aload_n (pc' := 415) (i := 0) hC dX9_init_414 rfl rfl rfl ?_
  refine aw_iconst (pc' := 416) hC dX9_init_415 rfl (by decide) ?_
  obtain ⟨M299, e300, h⟩ := bd_s h
  refine aw_pf (pc' := 419) hC dX9_init_416 rfl fp_X9_198 g288 rfl trivial e300 ?_
  refine aw_aload_n (pc' := 420) (i := 0) hC dX9_init_419 rfl rfl rfl ?_
  refine aw_iconst (pc' := 421) hC dX9_init_420 rfl (by decide) ?_
  obtain ⟨M301, e302, h⟩ := bd_s h
  refine aw_pf (pc' := 424) hC dX9_init_421 rfl fp_X9_201 g288 rfl trivial e302 ?_
  refine aw_aload_n (pc' := 425) (i := 0) hC dX9_init_424 rfl rfl rfl ?_
  refine aw_sipush (pc' := 428) hC dX9_init_425 rfl (by decide) ?_
  obtain ⟨p303, e304, h⟩ := bd_s h
  obtain ⟨sh305, e306, h⟩ := bd_s h
  refine aw_na_int (pc' := 430) (k2 := 36) (n2 := 23238) hC dX9_init_428 rfl la_int rfl (Nat.le_of_ble_eq_true rfl) rfl rfl (Nat.le_of_ble_eq_true rfl) (Nat.le_of_ble_eq_true rfl) e304 e306 ?_
  obtain ⟨g307, h⟩ := gd_s h
  obtain ⟨M308, e309, h⟩ := bd_s h
  refine aw_pff (pc' := 433) hC dX9_init_430 rfl ff_X9_204 g307 rfl trivial e309 ?_
  refine aw_aload_n (pc' := 434) (i := 0) hC dX9_init_433 rfl rfl rfl ?_
  refine aw_sipush (pc' := 437) hC dX9_init_434 rfl (by decide) ?_
  obtain ⟨p310, e311, h⟩ := bd_s h
  obtain ⟨sh312, e313, h⟩ := bd_s h
  refine aw_na_int (pc' := 439) (k2 := 37) (n2 := 33478) hC dX9_init_437 rfl la_int rfl (Nat.le_of_ble_eq_true rfl) rfl rfl (Nat.le_of_ble_eq_true rfl) (Nat.le_of_ble_eq_true rfl) e311 e313 ?_
  obtain ⟨g314, h⟩ := gd_s h
  obtain ⟨M315, e316, h⟩ := bd_s h
  refine aw_pff (pc' := 442) hC dX9_init_439 rfl ff_X9_207 g314 rfl trivial e316 ?_
  refine aw_aload_n (pc' := 443) (i := 0) hC dX9_init_442 rfl rfl rfl ?_
  refine aw_sipush (pc' := 446) hC dX9_init_443 rfl (by decide) ?_
  obtain ⟨p317, e318, h⟩ := bd_s h
  obtain ⟨sh319, e320, h⟩ := bd_s h
  refine aw_na_int (pc' := 448) (k2 := 38) (n2 := 43718) hC dX9_init_446 rfl la_int rfl (Nat.le_of_ble_eq_true rfl) rfl rfl (Nat.le_of_ble_eq_true rfl) (Nat.le_of_ble_eq_true rfl) e318 e320 ?_
  obtain ⟨g321, h⟩ := gd_s h
  obtain ⟨M322, e323, h⟩ := bd_s h
  refine aw_pff (pc' := 451) hC dX9_init_448 rfl ff_X9_210 g321 rfl trivial e323 ?_
  refine aw_aload_n (pc' := 452) (i := 0) hC dX9_init_451 rfl rfl rfl ?_
  refine aw_iconst (pc' := 453) hC dX9_init_452 rfl (by decide) ?_
  obtain ⟨M324, e325, h⟩ := bd_s h
  refine aw_pf (pc' := 456) hC dX9_init_453 rfl fp_X9_213 g321 rfl trivial e325 ?_
  refine aw_aload_n (pc' := 457) (i := 0) hC dX9_init_456 rfl rfl rfl ?_
  refine aw_iconst (pc' := 458) hC dX9_init_457 rfl (by decide) ?_
  obtain ⟨M326, e327, h⟩ := bd_s h
  refine aw_pf (pc' := 461) hC dX9_init_458 rfl fp_X9_216 g321 rfl trivial e327 ?_
  refine aw_aload_n (pc' := 462) (i := 0) hC dX9_init_461 rfl rfl rfl ?_
  refine aw_bipush (pc' := 464) hC dX9_init_462 rfl (by decide) ?_
  obtain ⟨p328, e329, h⟩ := bd_s h
  obtain ⟨sh330, e331, h⟩ := bd_s h
  refine aw_na_int (pc' := 466) (k2 := 39) (n2 := 43738) hC dX9_init_464 rfl la_int rfl (Nat.le_of_ble_eq_true rfl) rfl rfl (Nat.le_of_ble_eq_true rfl) (Nat.le_of_ble_eq_true rfl) e329 e331 ?_
  obtain ⟨g332, h⟩ := gd_s h
  obtain ⟨M333, e334, h⟩ := bd_s h
  refine aw_pff (pc' := 469) hC dX9_init_466 rfl ff_X9_219 g332 rfl trivial e334 ?_
  refine aw_aload_n (pc' := 470) (i := 0) hC dX9_init_469 rfl rfl rfl ?_
  refine aw_sipush (pc' := 473) hC dX9_init_470 rfl (by decide) ?_
  obtain ⟨p335, e336, h⟩ := bd_s h
  obtain ⟨sh337, e338, h⟩ := bd_s h
  refine aw_na_int (pc' := 475) (k2 := 40) (n2 := 43888) hC dX9_init_473 rfl la_int rfl (Nat.le_of_ble_eq_true rfl) rfl rfl (Nat.le_of_ble_eq_true rfl) (Nat.le_of_ble_eq_true rfl) e336 e338 ?_
  obtain ⟨g339, h⟩ := gd_s h
  obtain ⟨M340, e341, h⟩ := bd_s h
  refine aw_pff (pc' := 478) hC dX9_init_475 rfl ff_X9_222 g339 rfl trivial e341 ?_
  refine aw_aload_n (pc' := 479) (i := 0) hC dX9_init_478 rfl rfl rfl ?_
  refine aw_iconst (pc' := 480) hC dX9_init_479 rfl (by decide) ?_
  obtain ⟨M342, e343, h⟩ := bd_s h
  refine aw_pf (pc' := 483) hC dX9_init_480 rfl fp_X9_225 g339 rfl trivial e343 ?_
  refine aw_aload_n (pc' := 484) (i := 0) hC dX9_init_483 rfl rfl rfl ?_
  refine aw_getfield (pc' := 487) (v := (.inr (.inr (M342 v0 26)))) hC dX9_init_484 rfl fl_X9_90 g339 rfl ?_
  refine aw_iconst (pc' := 488) hC dX9_init_487 rfl (by decide) ?_
  refine aw_iconst (pc' := 489) hC dX9_init_488 rfl (by decide) ?_
  obtain ⟨g344, h⟩ := gd_s h
  obtain ⟨M345, e346, h⟩ := bd_s h
  refine aw_ias (pc' := 490) hC dX9_init_489 rfl g344 e346 ?_
  refine aw_aload_n (pc' := 491) (i := 0) hC dX9_init_490 rfl rfl rfl ?_
  refine aw_getfield (pc' := 494) (v := (.inr (.inr (M345 v0 28)))) hC dX9_init_491 rfl fl_X9_96 g339 rfl ?_
  refine aw_iconst (pc' := 495) hC dX9_init_494 rfl (by decide) ?_
  refine aw_iconst (pc' := 496) hC dX9_init_495 rfl (by decide) ?_
  obtain ⟨g347, h⟩ := gd_s h
  obtain ⟨M348, e349, h⟩ := bd_s h
  refine aw_ias (pc' := 497) hC dX9_init_496 rfl g347 e349 ?_
  cases h
  exact aw_vret hC dX9_init_497 (Nat.le_of_ble_eq_true rfl) (Nat.le_of_ble_eq_true rfl)
-- CoinCircleModel.is(III)Z
def fX9_is (sh : AwS) (M : AwM) (v0 : Int) (v1 : Int) (v2 : Int) : Option Int :=
  (if v0 < v1 then some 0 else (if v2 < v0 then some 0 else some 1))
set_option maxRecDepth 100000 in
set_option maxHeartbeats 4000000 in
theorem mX9_is {sh : AwS} {M : AwM} {v0 : Int} {v1 : Int} {v2 : Int} {r : Int} (h : fX9_is sh M v0 v1 v2 = some r) : AMet yX9_is cX9_is 3 (some .boolean) 1 0 0 [.inl v0, .inl v1, .inl v2] sh M (some (.inl r)) sh M := by
  refine amet_of (by decide +kernel) (Nat.le_of_ble_eq_true rfl) (fun Γ hC => ?_)
  replace hC : AOK Γ RX9 cX9_is 3 1 0 0 "is" (some .boolean) := hC
  unfold fX9_is at h
  refine aw_sub hC [some (.inl v0), some (.inl v1), some (.inl v2)] ⟨rfl, ⟨rfl, ⟨rfl, trivial⟩⟩⟩ (Nat.le_of_ble_eq_true rfl) ?_
  refine aw_iload_n (pc' := 1) (i := 0) hC dX9_is_0 rfl rfl rfl ?_
  refine aw_iload_n (pc' := 2) (i := 1) hC dX9_is_1 rfl rfl rfl ?_
  refine aw_icmp_lt (tgt := 14) (pc' := 5) hC dX9_is_2 (by decide) rfl (fun c1 => ?_) (fun c1 => ?_)
  · replace h := it_p c1 h
    refine aw_iconst (pc' := 15) hC dX9_is_14 rfl (by decide) ?_
    cases h
    exact aw_zret hC (Or.inl rfl) dX9_is_15 (Nat.le_of_ble_eq_true rfl) (Nat.le_of_ble_eq_true rfl)
  · replace h := it_n c1 h
    refine aw_iload_n (pc' := 6) (i := 0) hC dX9_is_5 rfl rfl rfl ?_
    refine aw_iload_n (pc' := 7) (i := 2) hC dX9_is_6 rfl rfl rfl ?_
    refine aw_icmp_gt (tgt := 14) (pc' := 10) hC dX9_is_7 (by decide) rfl (fun c2 => ?_) (fun c2 => ?_)
    · replace h := it_p c2 h
      refine aw_iconst (pc' := 15) hC dX9_is_14 rfl (by decide) ?_
      cases h
      exact aw_zret hC (Or.inl rfl) dX9_is_15 (Nat.le_of_ble_eq_true rfl) (Nat.le_of_ble_eq_true rfl)
    · replace h := it_n c2 h
      refine aw_iconst (pc' := 11) hC dX9_is_10 rfl (by decide) ?_
      refine aw_goto (tgt := 15) hC dX9_is_11 (by decide) ?_
      cases h
      exact aw_zret hC (Or.inr rfl) dX9_is_15 (Nat.le_of_ble_eq_true rfl) (Nat.le_of_ble_eq_true rfl)
-- CoinCircleModel.put(I)V
def fX9_put_L3 (sh : AwS) (v0 : Int) (v1 : Int) (v2 : Int) (M : AwM) : Option ((Int × AwM) ⊕ (AwM)) :=
  (if v2 < 0 then some (.inr M) else gd_ (kd_ sh v0 = (0, 9)) (gd_ ((kd_ sh (M v0 0)).1 = 1 ∧ (0 : Int) ≤ (M v0 1) ∧ (M v0 1) < ((kd_ sh (M v0 0)).2 : Int)) (bd_ (up_ M (M v0 0) (M v0 1) (an_ (sr_ v1 v2) 255)) fun (M4 : AwM) => (bd_ (up_ M4 v0 1 (w32 ((M4 v0 1) + 1))) fun (M6 : AwM) => (some (.inl ((w32 (v2 + (-8))), M6)))))))
def p_X9_put_L3 (Γ : AwC) (sh : AwS) (v0 : Int) (v1 : Int) (Q : State → Prop) (s : Int × AwM) : Prop := AW Γ sh (s.2) 0 0 3 [some (.inr (.inr v0)), some (.inl v1), some (.inl (s.1))] [] Q
def x_X9_put_L3 (Γ : AwC) (sh : AwS) (v0 : Int) (v1 : Int) (Q : State → Prop) : (AwM) → Prop := (fun (t : AwM) => AW Γ sh (t) 0 0 39 [none, none, none] [] Q)
def fX9_put (sh : AwS) (M : AwM) (v0 : Int) (v1 : Int) : Option (AwM) :=
  pb (lp (u2 (fX9_put_L3 sh v0 v1)) FU (24, M)) (u1 (fun (tq8 : AwM) => some tq8))
set_option maxRecDepth 100000 in
set_option maxHeartbeats 4000000 in
theorem w_X9_put_L3 {Γ : AwC} (hC : AOK Γ RX9 cX9_put 3 1 0 0 "put" none) {sh : AwS} {v0 : Int} {v1 : Int} {Q : State → Prop} : ∀ s r, u2 (fX9_put_L3 sh v0 v1) s = some r → (∀ s', r = .inl s' → p_X9_put_L3 Γ sh v0 v1 Q s') → (∀ t, r = .inr t → x_X9_put_L3 Γ sh v0 v1 Q t) → p_X9_put_L3 Γ sh v0 v1 Q s := by
  intro s r h hL hX
  obtain ⟨v2, M⟩ := s
  replace h := u2_s h
  unfold fX9_put_L3 at h
  show AW Γ sh M 0 0 3 [some (.inr (.inr v0)), some (.inl v1), some (.inl v2)] [] Q
  refine aw_iload_n (pc' := 4) (i := 2) hC dX9_put_3 rfl rfl rfl ?_
  refine aw_if_lt (tgt := 39) (pc' := 7) hC dX9_put_4 (by decide) rfl (fun c1 => ?_) (fun c1 => ?_)
  · replace h := it_p c1 h
    refine aw_sub hC [none, none, none] trivial (Nat.le_of_ble_eq_true rfl) ?_
    cases h
    exact hX _ rfl
  · replace h := it_n c1 h
    refine aw_aload_n (pc' := 8) (i := 0) hC dX9_put_7 rfl rfl rfl ?_
    obtain ⟨g2, h⟩ := gd_s h
    refine aw_getfield (pc' := 11) (v := (.inr (.inr (M v0 0)))) hC dX9_put_8 rfl fl_X9_7 g2 rfl ?_
    refine aw_aload_n (pc' := 12) (i := 0) hC dX9_put_11 rfl rfl rfl ?_
    refine aw_getfield (pc' := 15) (v := (.inl (M v0 1))) hC dX9_put_12 rfl fl_X9_13 g2 rfl ?_
    refine aw_iload_n (pc' := 16) (i := 1) hC dX9_put_15 rfl rfl rfl ?_
    refine aw_iload_n (pc' := 17) (i := 2) hC dX9_put_16 rfl rfl rfl ?_
    refine aw_ishr (pc' := 18) hC dX9_put_17 rfl  ?_
    refine aw_sipush (pc' := 21) hC dX9_put_18 rfl (by decide) ?_
    refine aw_iand (pc' := 22) hC dX9_put_21 rfl  ?_
    obtain ⟨g3, h⟩ := gd_s h
    obtain ⟨M4, e5, h⟩ := bd_s h
    refine aw_ias (pc' := 23) hC dX9_put_22 rfl g3 e5 ?_
    refine aw_aload_n (pc' := 24) (i := 0) hC dX9_put_23 rfl rfl rfl ?_
    refine aw_dup (pc' := 25) hC dX9_put_24 rfl rfl ?_
    refine aw_getfield (pc' := 28) (v := (.inl (M4 v0 1))) hC dX9_put_25 rfl fl_X9_13 g2 rfl ?_
    refine aw_iconst (pc' := 29) hC dX9_put_28 rfl (by decide) ?_
    refine aw_iadd (pc' := 30) hC dX9_put_29 rfl  ?_
    obtain ⟨M6, e7, h⟩ := bd_s h
    refine aw_pf (pc' := 33) hC dX9_put_30 rfl fp_X9_13 g2 rfl trivial e7 ?_
    refine aw_iinc (pc' := 36) (ls' := [some (.inr (.inr v0)), some (.inl v1), some (.inl (w32 (v2 + (-8))))]) hC dX9_put_33 rfl rfl rfl rfl ?_
    refine aw_goto (tgt := 3) hC dX9_put_36 (by decide) ?_
    refine aw_sub hC [some (.inr (.inr v0)), some (.inl v1), some (.inl (w32 (v2 + (-8))))] ⟨rfl, ⟨rfl, ⟨rfl, trivial⟩⟩⟩ (Nat.le_of_ble_eq_true rfl) ?_
    cases h
    exact hL _ rfl
set_option maxRecDepth 100000 in
set_option maxHeartbeats 4000000 in
theorem mX9_put {sh : AwS} {M : AwM} {v0 : Int} {v1 : Int} {M' : AwM} (h : fX9_put sh M v0 v1 = some M') : AMet yX9_put cX9_put 3 none 1 0 0 [.inr (.inr v0), .inl v1] sh M none sh M' := by
  refine amet_of (by decide +kernel) (Nat.le_of_ble_eq_true rfl) (fun Γ hC => ?_)
  replace hC : AOK Γ RX9 cX9_put 3 1 0 0 "put" none := hC
  unfold fX9_put at h
  refine aw_sub hC [some (.inr (.inr v0)), some (.inl v1), none] ⟨rfl, ⟨rfl, trivial⟩⟩ (Nat.le_of_ble_eq_true rfl) ?_
  refine aw_bipush (pc' := 2) hC dX9_put_0 rfl (by decide) ?_
  refine aw_istore_n (pc' := 3) (i := 2) (ls' := [some (.inr (.inr v0)), some (.inl v1), some (.inl 24)]) hC dX9_put_2 rfl rfl (Nat.le_of_ble_eq_true rfl) rfl rfl ?_
  obtain ⟨tq8, q8, h⟩ := pb_s h
  refine aw_sub hC [some (.inr (.inr v0)), some (.inl v1), some (.inl 24)] ⟨rfl, ⟨rfl, ⟨rfl, trivial⟩⟩⟩ (Nat.le_of_ble_eq_true rfl) ?_
  refine (lp_aw (p_X9_put_L3 Γ sh v0 v1 (fin_ Γ 0 0 none sh M')) (x_X9_put_L3 Γ sh v0 v1 (fin_ Γ 0 0 none sh M')) (w_X9_put_L3 hC ) FU _ _ q8 ?_ : p_X9_put_L3 Γ sh v0 v1 (fin_ Γ 0 0 none sh M') (24, M))
  replace h := u1_s h
  show AW Γ sh tq8 0 0 39 [none, none, none] [] _
  cases h
  exact aw_vret hC dX9_put_39 (Nat.le_of_ble_eq_true rfl) (Nat.le_of_ble_eq_true rfl)
-- CoinCircleModel.refuses(I)I
def fX9_refuses (sh : AwS) (M : AwM) (v0 : Int) (v1 : Int) : Option (Int × AwM) :=
  gd_ (kd_ sh v0 = (0, 9)) (gd_ ((kd_ sh (M v0 47)).1 = 1 ∧ (0 : Int) ≤ v1 ∧ v1 < ((kd_ sh (M v0 47)).2 : Int)) (bd_ (up_ M (M v0 47) v1 (w32 ((M (M v0 47) v1) + 1))) fun (M3 : AwM) => (some ((-1), M3))))
set_option maxRecDepth 100000 in
set_option maxHeartbeats 4000000 in
theorem mX9_refuses {sh : AwS} {M : AwM} {v0 : Int} {v1 : Int} {r : Int} {M' : AwM} (h : fX9_refuses sh M v0 v1 = some (r, M')) : AMet yX9_refuses cX9_refuses 2 (some .int) 1 0 0 [.inr (.inr v0), .inl v1] sh M (some (.inl r)) sh M' := by
  refine amet_of (by decide +kernel) (Nat.le_of_ble_eq_true rfl) (fun Γ hC => ?_)
  replace hC : AOK Γ RX9 cX9_refuses 2 1 0 0 "refuses" (some .int) := hC
  unfold fX9_refuses at h
  refine aw_sub hC [some (.inr (.inr v0)), some (.inl v1)] ⟨rfl, ⟨rfl, trivial⟩⟩ (Nat.le_of_ble_eq_true rfl) ?_
  refine aw_aload_n (pc' := 1) (i := 0) hC dX9_refuses_0 rfl rfl rfl ?_
  obtain ⟨g1, h⟩ := gd_s h
  refine aw_getfield (pc' := 4) (v := (.inr (.inr (M v0 47)))) hC dX9_refuses_1 rfl fl_X9_156 g1 rfl ?_
  refine aw_iload_n (pc' := 5) (i := 1) hC dX9_refuses_4 rfl rfl rfl ?_
  refine aw_dup2 (pc' := 6) hC dX9_refuses_5 rfl rfl rfl ?_
  obtain ⟨g2, h⟩ := gd_s h
  refine aw_iaload (pc' := 7) hC dX9_refuses_6 rfl g2 ?_
  refine aw_iconst (pc' := 8) hC dX9_refuses_7 rfl (by decide) ?_
  refine aw_iadd (pc' := 9) hC dX9_refuses_8 rfl  ?_
  obtain ⟨M3, e4, h⟩ := bd_s h
  refine aw_ias (pc' := 10) hC dX9_refuses_9 rfl g2 e4 ?_
  refine aw_iconst (pc' := 11) hC dX9_refuses_10 rfl (by decide) ?_
  cases h
  exact aw_iret hC dX9_refuses_11 (Nat.le_of_ble_eq_true rfl) (Nat.le_of_ble_eq_true rfl)
-- CoinCircleModel.feed(IIIII)I
def fX9_feed (sh : AwS) (M : AwM) (v0 : Int) (v1 : Int) (v2 : Int) (v3 : Int) (v4 : Int) (v5 : Int) : Option (Int × AwM) :=
  gd_ (kd_ sh v0 = (0, 9)) ((if 1600 < (w32 ((M v0 1) + 20)) then pb (fX9_refuses sh M v0 0) <| u2 fun (x14 : Int) (M15 : AwM) => (some (x14, M15)) else pb (fX9_put sh M v0 v1) <| u1 fun (M4 : AwM) => (pb (fX9_put sh M4 v0 v2) <| u1 fun (M6 : AwM) => (pb (fX9_put sh M6 v0 v3) <| u1 fun (M8 : AwM) => (pb (fX9_put sh M8 v0 v4) <| u1 fun (M10 : AwM) => (pb (fX9_put sh M10 v0 v5) <| u1 fun (M12 : AwM) => (some ((M12 v0 1), M12))))))))
set_option maxRecDepth 100000 in
set_option maxHeartbeats 4000000 in
theorem mX9_feed {sh : AwS} {M : AwM} {v0 : Int} {v1 : Int} {v2 : Int} {v3 : Int} {v4 : Int} {v5 : Int} {r : Int} {M' : AwM} (h : fX9_feed sh M v0 v1 v2 v3 v4 v5 = some (r, M')) : AMet yX9_feed cX9_feed 6 (some .int) 2 0 0 [.inr (.inr v0), .inl v1, .inl v2, .inl v3, .inl v4, .inl v5] sh M (some (.inl r)) sh M' := by
  refine amet_of (by decide +kernel) (Nat.le_of_ble_eq_true rfl) (fun Γ hC => ?_)
  replace hC : AOK Γ RX9 cX9_feed 6 2 0 0 "feed" (some .int) := hC
  unfold fX9_feed at h
  refine aw_sub hC [some (.inr (.inr v0)), some (.inl v1), some (.inl v2), some (.inl v3), some (.inl v4), some (.inl v5)] ⟨rfl, ⟨rfl, ⟨rfl, ⟨rfl, ⟨rfl, ⟨rfl, trivial⟩⟩⟩⟩⟩⟩ (Nat.le_of_ble_eq_true rfl) ?_
  refine aw_aload_n (pc' := 1) (i := 0) hC dX9_feed_0 rfl rfl rfl ?_
  obtain ⟨g1, h⟩ := gd_s h
  refine aw_getfield (pc' := 4) (v := (.inl (M v0 1))) hC dX9_feed_1 rfl fl_X9_13 g1 rfl ?_
  refine aw_bipush (pc' := 6) hC dX9_feed_4 rfl (by decide) ?_
  refine aw_iadd (pc' := 7) hC dX9_feed_6 rfl  ?_
  refine aw_sipush (pc' := 10) hC dX9_feed_7 rfl (by decide) ?_
  refine aw_icmp_le (tgt := 19) (pc' := 13) hC dX9_feed_10 (by decide) rfl (fun c2 => ?_) (fun c2 => ?_)
  · replace h := it_n c2 h
    refine aw_aload_n (pc' := 20) (i := 0) hC dX9_feed_19 rfl rfl rfl ?_
    refine aw_iload_n (pc' := 21) (i := 1) hC dX9_feed_20 rfl rfl rfl ?_
    obtain ⟨M4, q3, h⟩ := pb_s h
    replace h := u1_s h
    refine aw_cV (pc' := 24) (k2 := 0) (n2 := 0) (st := []) (stN := []) hC [.inl v1] (mX9_put q3) lk_X9_232 g1 dX9_feed_21 rfl rfl (Nat.le_of_ble_eq_true rfl) (Nat.le_of_ble_eq_true rfl) (Nat.le_of_ble_eq_true rfl) rfl (Nat.le_of_ble_eq_true rfl) rfl rfl rfl ?_
    refine aw_aload_n (pc' := 25) (i := 0) hC dX9_feed_24 rfl rfl rfl ?_
    refine aw_iload_n (pc' := 26) (i := 2) hC dX9_feed_25 rfl rfl rfl ?_
    obtain ⟨M6, q5, h⟩ := pb_s h
    replace h := u1_s h
    refine aw_cV (pc' := 29) (k2 := 0) (n2 := 0) (st := []) (stN := []) hC [.inl v2] (mX9_put q5) lk_X9_232 g1 dX9_feed_26 rfl rfl (Nat.le_of_ble_eq_true rfl) (Nat.le_of_ble_eq_true rfl) (Nat.le_of_ble_eq_true rfl) rfl (Nat.le_of_ble_eq_true rfl) rfl rfl rfl ?_
    refine aw_aload_n (pc' := 30) (i := 0) hC dX9_feed_29 rfl rfl rfl ?_
    refine aw_iload_n (pc' := 31) (i := 3) hC dX9_feed_30 rfl rfl rfl ?_
    obtain ⟨M8, q7, h⟩ := pb_s h
    replace h := u1_s h
    refine aw_cV (pc' := 34) (k2 := 0) (n2 := 0) (st := []) (stN := []) hC [.inl v3] (mX9_put q7) lk_X9_232 g1 dX9_feed_31 rfl rfl (Nat.le_of_ble_eq_true rfl) (Nat.le_of_ble_eq_true rfl) (Nat.le_of_ble_eq_true rfl) rfl (Nat.le_of_ble_eq_true rfl) rfl rfl rfl ?_
    refine aw_aload_n (pc' := 35) (i := 0) hC dX9_feed_34 rfl rfl rfl ?_
    refine aw_iload (pc' := 37) hC dX9_feed_35 rfl rfl ?_
    obtain ⟨M10, q9, h⟩ := pb_s h
    replace h := u1_s h
    refine aw_cV (pc' := 40) (k2 := 0) (n2 := 0) (st := []) (stN := []) hC [.inl v4] (mX9_put q9) lk_X9_232 g1 dX9_feed_37 rfl rfl (Nat.le_of_ble_eq_true rfl) (Nat.le_of_ble_eq_true rfl) (Nat.le_of_ble_eq_true rfl) rfl (Nat.le_of_ble_eq_true rfl) rfl rfl rfl ?_
    refine aw_aload_n (pc' := 41) (i := 0) hC dX9_feed_40 rfl rfl rfl ?_
    refine aw_iload (pc' := 43) hC dX9_feed_41 rfl rfl ?_
    obtain ⟨M12, q11, h⟩ := pb_s h
    replace h := u1_s h
    refine aw_cV (pc' := 46) (k2 := 0) (n2 := 0) (st := []) (stN := []) hC [.inl v5] (mX9_put q11) lk_X9_232 g1 dX9_feed_43 rfl rfl (Nat.le_of_ble_eq_true rfl) (Nat.le_of_ble_eq_true rfl) (Nat.le_of_ble_eq_true rfl) rfl (Nat.le_of_ble_eq_true rfl) rfl rfl rfl ?_
    refine aw_aload_n (pc' := 47) (i := 0) hC dX9_feed_46 rfl rfl rfl ?_
    refine aw_getfield (pc' := 50) (v := (.inl (M12 v0 1))) hC dX9_feed_47 rfl fl_X9_13 g1 rfl ?_
    cases h
    exact aw_iret hC dX9_feed_50 (Nat.le_of_ble_eq_true rfl) (Nat.le_of_ble_eq_true rfl)
  · replace h := it_p c2 h
    refine aw_aload_n (pc' := 14) (i := 0) hC dX9_feed_13 rfl rfl rfl ?_
    refine aw_iconst (pc' := 15) hC dX9_feed_14 rfl (by decide) ?_
    obtain ⟨⟨x14, M15⟩, q13, h⟩ := pb_s h
    replace h := u2_s h
    refine aw_cV (pc' := 18) (k2 := 0) (n2 := 0) (st := []) (stN := [.inl x14]) hC [.inl 0] (mX9_refuses q13) lk_X9_228 g1 dX9_feed_15 rfl rfl (Nat.le_of_ble_eq_true rfl) (Nat.le_of_ble_eq_true rfl) (Nat.le_of_ble_eq_true rfl) rfl (Nat.le_of_ble_eq_true rfl) rfl rfl rfl ?_
    cases h
    exact aw_iret hC dX9_feed_18 (Nat.le_of_ble_eq_true rfl) (Nat.le_of_ble_eq_true rfl)
-- CoinCircleModel.end(I)Z
def fX9_end (sh : AwS) (M : AwM) (v0 : Int) (v1 : Int) : Option (Int × AwM) :=
  (if v1 < 0 then gd_ (kd_ sh v0 = (0, 9)) (pb (fX9_refuses sh M v0 0) <| u2 fun (x4 : Int) (M5 : AwM) => ((if x4 < 0 then some (0, M5) else some (1, M5)))) else gd_ (kd_ sh v0 = (0, 9)) ((if (M v0 1) < v1 then pb (fX9_refuses sh M v0 0) <| u2 fun (x12 : Int) (M13 : AwM) => ((if x12 < 0 then some (0, M13) else some (1, M13))) else bd_ (up_ M v0 1 v1) fun (M9 : AwM) => (some (1, M9)))))
set_option maxRecDepth 100000 in
set_option maxHeartbeats 4000000 in
theorem mX9_end {sh : AwS} {M : AwM} {v0 : Int} {v1 : Int} {r : Int} {M' : AwM} (h : fX9_end sh M v0 v1 = some (r, M')) : AMet yX9_end cX9_end 2 (some .boolean) 2 0 0 [.inr (.inr v0), .inl v1] sh M (some (.inl r)) sh M' := by
  refine amet_of (by decide +kernel) (Nat.le_of_ble_eq_true rfl) (fun Γ hC => ?_)
  replace hC : AOK Γ RX9 cX9_end 2 2 0 0 "end" (some .boolean) := hC
  unfold fX9_end at h
  refine aw_sub hC [some (.inr (.inr v0)), some (.inl v1)] ⟨rfl, ⟨rfl, trivial⟩⟩ (Nat.le_of_ble_eq_true rfl) ?_
  refine aw_iload_n (pc' := 1) (i := 1) hC dX9_end_0 rfl rfl rfl ?_
  refine aw_if_lt (tgt := 12) (pc' := 4) hC dX9_end_1 (by decide) rfl (fun c1 => ?_) (fun c1 => ?_)
  · replace h := it_p c1 h
    refine aw_aload_n (pc' := 13) (i := 0) hC dX9_end_12 rfl rfl rfl ?_
    refine aw_iconst (pc' := 14) hC dX9_end_13 rfl (by decide) ?_
    obtain ⟨g3, h⟩ := gd_s h
    obtain ⟨⟨x4, M5⟩, q2, h⟩ := pb_s h
    replace h := u2_s h
    refine aw_cV (pc' := 17) (k2 := 0) (n2 := 0) (st := []) (stN := [.inl x4]) hC [.inl 0] (mX9_refuses q2) lk_X9_228 g3 dX9_end_14 rfl rfl (Nat.le_of_ble_eq_true rfl) (Nat.le_of_ble_eq_true rfl) (Nat.le_of_ble_eq_true rfl) rfl (Nat.le_of_ble_eq_true rfl) rfl rfl rfl ?_
    refine aw_if_lt (tgt := 24) (pc' := 20) hC dX9_end_17 (by decide) rfl (fun c6 => ?_) (fun c6 => ?_)
    · replace h := it_p c6 h
      refine aw_iconst (pc' := 25) hC dX9_end_24 rfl (by decide) ?_
      cases h
      exact aw_zret hC (Or.inl rfl) dX9_end_25 (Nat.le_of_ble_eq_true rfl) (Nat.le_of_ble_eq_true rfl)
    · replace h := it_n c6 h
      refine aw_iconst (pc' := 21) hC dX9_end_20 rfl (by decide) ?_
      refine aw_goto (tgt := 25) hC dX9_end_21 (by decide) ?_
      cases h
      exact aw_zret hC (Or.inr rfl) dX9_end_25 (Nat.le_of_ble_eq_true rfl) (Nat.le_of_ble_eq_true rfl)
  · replace h := it_n c1 h
    refine aw_iload_n (pc' := 5) (i := 1) hC dX9_end_4 rfl rfl rfl ?_
    refine aw_aload_n (pc' := 6) (i := 0) hC dX9_end_5 rfl rfl rfl ?_
    obtain ⟨g7, h⟩ := gd_s h
    refine aw_getfield (pc' := 9) (v := (.inl (M v0 1))) hC dX9_end_6 rfl fl_X9_13 g7 rfl ?_
    refine aw_icmp_le (tgt := 26) (pc' := 12) hC dX9_end_9 (by decide) rfl (fun c8 => ?_) (fun c8 => ?_)
    · replace h := it_n c8 h
      refine aw_aload_n (pc' := 27) (i := 0) hC dX9_end_26 rfl rfl rfl ?_
      refine aw_iload_n (pc' := 28) (i := 1) hC dX9_end_27 rfl rfl rfl ?_
      obtain ⟨M9, e10, h⟩ := bd_s h
      refine aw_pf (pc' := 31) hC dX9_end_28 rfl fp_X9_13 g7 rfl trivial e10 ?_
      refine aw_iconst (pc' := 32) hC dX9_end_31 rfl (by decide) ?_
      cases h
      exact aw_zret hC (Or.inr rfl) dX9_end_32 (Nat.le_of_ble_eq_true rfl) (Nat.le_of_ble_eq_true rfl)
    · replace h := it_p c8 h
      refine aw_aload_n (pc' := 13) (i := 0) hC dX9_end_12 rfl rfl rfl ?_
      refine aw_iconst (pc' := 14) hC dX9_end_13 rfl (by decide) ?_
      obtain ⟨⟨x12, M13⟩, q11, h⟩ := pb_s h
      replace h := u2_s h
      refine aw_cV (pc' := 17) (k2 := 0) (n2 := 0) (st := []) (stN := [.inl x12]) hC [.inl 0] (mX9_refuses q11) lk_X9_228 g7 dX9_end_14 rfl rfl (Nat.le_of_ble_eq_true rfl) (Nat.le_of_ble_eq_true rfl) (Nat.le_of_ble_eq_true rfl) rfl (Nat.le_of_ble_eq_true rfl) rfl rfl rfl ?_
      refine aw_if_lt (tgt := 24) (pc' := 20) hC dX9_end_17 (by decide) rfl (fun c14 => ?_) (fun c14 => ?_)
      · replace h := it_p c14 h
        refine aw_iconst (pc' := 25) hC dX9_end_24 rfl (by decide) ?_
        cases h
        exact aw_zret hC (Or.inl rfl) dX9_end_25 (Nat.le_of_ble_eq_true rfl) (Nat.le_of_ble_eq_true rfl)
      · replace h := it_n c14 h
        refine aw_iconst (pc' := 21) hC dX9_end_20 rfl (by decide) ?_
        refine aw_goto (tgt := 25) hC dX9_end_21 (by decide) ?_
        cases h
        exact aw_zret hC (Or.inr rfl) dX9_end_25 (Nat.le_of_ble_eq_true rfl) (Nat.le_of_ble_eq_true rfl)
-- CoinCircleModel.blame(II)V
def fX9_blame (sh : AwS) (M : AwM) (v0 : Int) (v1 : Int) (v2 : Int) : Option (AwM) :=
  gd_ (kd_ sh v0 = (0, 9)) ((if 0 < (M v0 8) then some M else bd_ (up_ M v0 8 v1) fun (M3 : AwM) => (bd_ (up_ M3 v0 9 v2) fun (M5 : AwM) => (some M5))))
set_option maxRecDepth 100000 in
set_option maxHeartbeats 4000000 in
theorem mX9_blame {sh : AwS} {M : AwM} {v0 : Int} {v1 : Int} {v2 : Int} {M' : AwM} (h : fX9_blame sh M v0 v1 v2 = some M') : AMet yX9_blame cX9_blame 3 none 1 0 0 [.inr (.inr v0), .inl v1, .inl v2] sh M none sh M' := by
  refine amet_of (by decide +kernel) (Nat.le_of_ble_eq_true rfl) (fun Γ hC => ?_)
  replace hC : AOK Γ RX9 cX9_blame 3 1 0 0 "blame" none := hC
  unfold fX9_blame at h
  refine aw_sub hC [some (.inr (.inr v0)), some (.inl v1), some (.inl v2)] ⟨rfl, ⟨rfl, ⟨rfl, trivial⟩⟩⟩ (Nat.le_of_ble_eq_true rfl) ?_
  refine aw_aload_n (pc' := 1) (i := 0) hC dX9_blame_0 rfl rfl rfl ?_
  obtain ⟨g1, h⟩ := gd_s h
  refine aw_getfield (pc' := 4) (v := (.inl (M v0 8))) hC dX9_blame_1 rfl fl_X9_36 g1 rfl ?_
  refine aw_if_le (tgt := 8) (pc' := 7) hC dX9_blame_4 (by decide) rfl (fun c2 => ?_) (fun c2 => ?_)
  · replace h := it_n c2 h
    refine aw_aload_n (pc' := 9) (i := 0) hC dX9_blame_8 rfl rfl rfl ?_
    refine aw_iload_n (pc' := 10) (i := 1) hC dX9_blame_9 rfl rfl rfl ?_
    obtain ⟨M3, e4, h⟩ := bd_s h
    refine aw_pf (pc' := 13) hC dX9_blame_10 rfl fp_X9_36 g1 rfl trivial e4 ?_
    refine aw_aload_n (pc' := 14) (i := 0) hC dX9_blame_13 rfl rfl rfl ?_
    refine aw_iload_n (pc' := 15) (i := 2) hC dX9_blame_14 rfl rfl rfl ?_
    obtain ⟨M5, e6, h⟩ := bd_s h
    refine aw_pf (pc' := 18) hC dX9_blame_15 rfl fp_X9_39 g1 rfl trivial e6 ?_
    cases h
    exact aw_vret hC dX9_blame_18 (Nat.le_of_ble_eq_true rfl) (Nat.le_of_ble_eq_true rfl)
  · replace h := it_p c2 h
    cases h
    exact aw_vret hC dX9_blame_7 (Nat.le_of_ble_eq_true rfl) (Nat.le_of_ble_eq_true rfl)
-- CoinCircleModel.isLetter(I)Z
def fX9_isLetter (sh : AwS) (M : AwM) (v0 : Int) : Option Int :=
  (if v0 < 97 then some 0 else (if 122 < v0 then some 0 else some 1))
set_option maxRecDepth 100000 in
set_option maxHeartbeats 4000000 in
theorem mX9_isLetter {sh : AwS} {M : AwM} {v0 : Int} {r : Int} (h : fX9_isLetter sh M v0 = some r) : AMet yX9_isLetter cX9_isLetter 1 (some .boolean) 1 0 0 [.inl v0] sh M (some (.inl r)) sh M := by
  refine amet_of (by decide +kernel) (Nat.le_of_ble_eq_true rfl) (fun Γ hC => ?_)
  replace hC : AOK Γ RX9 cX9_isLetter 1 1 0 0 "isLetter" (some .boolean) := hC
  unfold fX9_isLetter at h
  refine aw_sub hC [some (.inl v0)] ⟨rfl, trivial⟩ (Nat.le_of_ble_eq_true rfl) ?_
  refine aw_iload_n (pc' := 1) (i := 0) hC dX9_isLetter_0 rfl rfl rfl ?_
  refine aw_bipush (pc' := 3) hC dX9_isLetter_1 rfl (by decide) ?_
  refine aw_icmp_lt (tgt := 16) (pc' := 6) hC dX9_isLetter_3 (by decide) rfl (fun c1 => ?_) (fun c1 => ?_)
  · replace h := it_p c1 h
    refine aw_iconst (pc' := 17) hC dX9_isLetter_16 rfl (by decide) ?_
    cases h
    exact aw_zret hC (Or.inl rfl) dX9_isLetter_17 (Nat.le_of_ble_eq_true rfl) (Nat.le_of_ble_eq_true rfl)
  · replace h := it_n c1 h
    refine aw_iload_n (pc' := 7) (i := 0) hC dX9_isLetter_6 rfl rfl rfl ?_
    refine aw_bipush (pc' := 9) hC dX9_isLetter_7 rfl (by decide) ?_
    refine aw_icmp_gt (tgt := 16) (pc' := 12) hC dX9_isLetter_9 (by decide) rfl (fun c2 => ?_) (fun c2 => ?_)
    · replace h := it_p c2 h
      refine aw_iconst (pc' := 17) hC dX9_isLetter_16 rfl (by decide) ?_
      cases h
      exact aw_zret hC (Or.inl rfl) dX9_isLetter_17 (Nat.le_of_ble_eq_true rfl) (Nat.le_of_ble_eq_true rfl)
    · replace h := it_n c2 h
      refine aw_iconst (pc' := 13) hC dX9_isLetter_12 rfl (by decide) ?_
      refine aw_goto (tgt := 17) hC dX9_isLetter_13 (by decide) ?_
      cases h
      exact aw_zret hC (Or.inr rfl) dX9_isLetter_17 (Nat.le_of_ble_eq_true rfl) (Nat.le_of_ble_eq_true rfl)
-- CoinCircleModel.isDigit(I)Z
def fX9_isDigit (sh : AwS) (M : AwM) (v0 : Int) : Option Int :=
  (if v0 < 48 then some 0 else (if 57 < v0 then some 0 else some 1))
set_option maxRecDepth 100000 in
set_option maxHeartbeats 4000000 in
theorem mX9_isDigit {sh : AwS} {M : AwM} {v0 : Int} {r : Int} (h : fX9_isDigit sh M v0 = some r) : AMet yX9_isDigit cX9_isDigit 1 (some .boolean) 1 0 0 [.inl v0] sh M (some (.inl r)) sh M := by
  refine amet_of (by decide +kernel) (Nat.le_of_ble_eq_true rfl) (fun Γ hC => ?_)
  replace hC : AOK Γ RX9 cX9_isDigit 1 1 0 0 "isDigit" (some .boolean) := hC
  unfold fX9_isDigit at h
  refine aw_sub hC [some (.inl v0)] ⟨rfl, trivial⟩ (Nat.le_of_ble_eq_true rfl) ?_
  refine aw_iload_n (pc' := 1) (i := 0) hC dX9_isDigit_0 rfl rfl rfl ?_
  refine aw_bipush (pc' := 3) hC dX9_isDigit_1 rfl (by decide) ?_
  refine aw_icmp_lt (tgt := 16) (pc' := 6) hC dX9_isDigit_3 (by decide) rfl (fun c1 => ?_) (fun c1 => ?_)
  · replace h := it_p c1 h
    refine aw_iconst (pc' := 17) hC dX9_isDigit_16 rfl (by decide) ?_
    cases h
    exact aw_zret hC (Or.inl rfl) dX9_isDigit_17 (Nat.le_of_ble_eq_true rfl) (Nat.le_of_ble_eq_true rfl)
  · replace h := it_n c1 h
    refine aw_iload_n (pc' := 7) (i := 0) hC dX9_isDigit_6 rfl rfl rfl ?_
    refine aw_bipush (pc' := 9) hC dX9_isDigit_7 rfl (by decide) ?_
    refine aw_icmp_gt (tgt := 16) (pc' := 12) hC dX9_isDigit_9 (by decide) rfl (fun c2 => ?_) (fun c2 => ?_)
    · replace h := it_p c2 h
      refine aw_iconst (pc' := 17) hC dX9_isDigit_16 rfl (by decide) ?_
      cases h
      exact aw_zret hC (Or.inl rfl) dX9_isDigit_17 (Nat.le_of_ble_eq_true rfl) (Nat.le_of_ble_eq_true rfl)
    · replace h := it_n c2 h
      refine aw_iconst (pc' := 13) hC dX9_isDigit_12 rfl (by decide) ?_
      refine aw_goto (tgt := 17) hC dX9_isDigit_13 (by decide) ?_
      cases h
      exact aw_zret hC (Or.inr rfl) dX9_isDigit_17 (Nat.le_of_ble_eq_true rfl) (Nat.le_of_ble_eq_true rfl)
-- CoinCircleModel.lex()V
def fX9_lex (sh : AwS) (M : AwM) (v0 : Int) : Option (AwM) :=
  gd_ (kd_ sh v0 = (0, 9)) ((if (M v0 12) = (-1) then some M else pb (fX9_blame sh M v0 1 (M v0 12)) <| u1 fun (M4 : AwM) => (some M4)))
set_option maxRecDepth 100000 in
set_option maxHeartbeats 4000000 in
theorem mX9_lex {sh : AwS} {M : AwM} {v0 : Int} {M' : AwM} (h : fX9_lex sh M v0 = some M') : AMet yX9_lex cX9_lex 1 none 2 0 0 [.inr (.inr v0)] sh M none sh M' := by
  refine amet_of (by decide +kernel) (Nat.le_of_ble_eq_true rfl) (fun Γ hC => ?_)
  replace hC : AOK Γ RX9 cX9_lex 1 2 0 0 "lex" none := hC
  unfold fX9_lex at h
  refine aw_sub hC [some (.inr (.inr v0))] ⟨rfl, trivial⟩ (Nat.le_of_ble_eq_true rfl) ?_
  refine aw_aload_n (pc' := 1) (i := 0) hC dX9_lex_0 rfl rfl rfl ?_
  obtain ⟨g1, h⟩ := gd_s h
  refine aw_getfield (pc' := 4) (v := (.inl (M v0 12))) hC dX9_lex_1 rfl fl_X9_48 g1 rfl ?_
  refine aw_iconst (pc' := 5) hC dX9_lex_4 rfl (by decide) ?_
  refine aw_icmp_eq (tgt := 17) (pc' := 8) hC dX9_lex_5 (by decide) rfl (fun c2 => ?_) (fun c2 => ?_)
  · replace h := it_p c2 h
    cases h
    exact aw_vret hC dX9_lex_17 (Nat.le_of_ble_eq_true rfl) (Nat.le_of_ble_eq_true rfl)
  · replace h := it_n c2 h
    refine aw_aload_n (pc' := 9) (i := 0) hC dX9_lex_8 rfl rfl rfl ?_
    refine aw_iconst (pc' := 10) hC dX9_lex_9 rfl (by decide) ?_
    refine aw_aload_n (pc' := 11) (i := 0) hC dX9_lex_10 rfl rfl rfl ?_
    refine aw_getfield (pc' := 14) (v := (.inl (M v0 12))) hC dX9_lex_11 rfl fl_X9_48 g1 rfl ?_
    obtain ⟨M4, q3, h⟩ := pb_s h
    replace h := u1_s h
    refine aw_cV (pc' := 17) (k2 := 0) (n2 := 0) (st := []) (stN := []) hC [.inl 1, .inl (M v0 12)] (mX9_blame q3) lk_X9_236 g1 dX9_lex_14 rfl rfl (Nat.le_of_ble_eq_true rfl) (Nat.le_of_ble_eq_true rfl) (Nat.le_of_ble_eq_true rfl) rfl (Nat.le_of_ble_eq_true rfl) rfl rfl rfl ?_
    cases h
    exact aw_vret hC dX9_lex_17 (Nat.le_of_ble_eq_true rfl) (Nat.le_of_ble_eq_true rfl)
-- CoinCircleModel.isOwn(J)Z
def fX9_isOwn (sh : AwS) (M : AwM) (v0 : Int) (v1 : Int) : Option Int :=
  (if (cmp_ v1 123581014175598) = 0 then some 1 else (if (cmp_ v1 1918987883) = 0 then some 1 else (if (cmp_ v1 1668245870) = 0 then some 1 else (if (cmp_ v1 512970880104) = 0 then some 1 else (if (cmp_ v1 28518) = 0 then some 1 else (if (cmp_ v1 461414299507) = 0 then some 1 else (if (cmp_ v1 444251202675) = 0 then some 1 else (if (cmp_ v1 25209) = 0 then some 1 else (if (cmp_ v1 1936618850) = 0 then some 1 else (if (cmp_ v1 439720633715) = 0 then some 1 else (if (cmp_ v1 508675192165) = 0 then some 1 else (if (cmp_ v1 8102650225890325619) = 0 then some 1 else (if (cmp_ v1 482955846501) = 0 then some 1 else (if (cmp_ v1 478694368626) = 0 then some 1 else (if (cmp_ v1 109304541834341) = 0 then some 1 else (if (cmp_ v1 6578553) = 0 then some 1 else (if (cmp_ v1 448545973363) = 0 then some 1 else (if (cmp_ v1 28530) = 0 then some 1 else (if (cmp_ v1 6385252) = 0 then some 1 else (if (cmp_ v1 7237492) = 0 then some 1 else (if (cmp_ v1 6384748) = 0 then some 1 else (if (cmp_ v1 7170414) = 0 then some 1 else (if (cmp_ v1 7168376) = 0 then some 1 else some 0)))))))))))))))))))))))
set_option maxRecDepth 100000 in
set_option maxHeartbeats 4000000 in
theorem mX9_isOwn {sh : AwS} {M : AwM} {v0 : Int} {v1 : Int} {r : Int} (h : fX9_isOwn sh M v0 v1 = some r) : AMet yX9_isOwn cX9_isOwn 3 (some .boolean) 1 0 0 [.inr (.inr v0), .inr (.inl v1)] sh M (some (.inl r)) sh M := by
  refine amet_of (by decide +kernel) (Nat.le_of_ble_eq_true rfl) (fun Γ hC => ?_)
  replace hC : AOK Γ RX9 cX9_isOwn 3 1 0 0 "isOwn" (some .boolean) := hC
  unfold fX9_isOwn at h
  refine aw_sub hC [some (.inr (.inr v0)), some (.inr (.inl v1)), none] ⟨rfl, ⟨rfl, trivial⟩⟩ (Nat.le_of_ble_eq_true rfl) ?_
  refine aw_lload_n (pc' := 1) (i := 1) hC dX9_isOwn_0 rfl rfl rfl ?_
  refine aw_ldc2 (pc' := 4) (v := 123581014175598) hC dX9_isOwn_1 rfl ck_X9_260 (by unfold I64; omega) ?_
  refine aw_lcmp (pc' := 5) hC dX9_isOwn_4 rfl  ?_
  refine aw_if_eq (tgt := 40) (pc' := 8) hC dX9_isOwn_5 (by decide) rfl (fun c1 => ?_) (fun c1 => ?_)
  · replace h := it_p c1 h
    refine aw_iconst (pc' := 41) hC dX9_isOwn_40 rfl (by decide) ?_
    cases h
    exact aw_zret hC (Or.inr rfl) dX9_isOwn_41 (Nat.le_of_ble_eq_true rfl) (Nat.le_of_ble_eq_true rfl)
  · replace h := it_n c1 h
    refine aw_lload_n (pc' := 9) (i := 1) hC dX9_isOwn_8 rfl rfl rfl ?_
    refine aw_ldc2 (pc' := 12) (v := 1918987883) hC dX9_isOwn_9 rfl ck_X9_262 (by unfold I64; omega) ?_
    refine aw_lcmp (pc' := 13) hC dX9_isOwn_12 rfl  ?_
    refine aw_if_eq (tgt := 40) (pc' := 16) hC dX9_isOwn_13 (by decide) rfl (fun c2 => ?_) (fun c2 => ?_)
    · replace h := it_p c2 h
      refine aw_iconst (pc' := 41) hC dX9_isOwn_40 rfl (by decide) ?_
      cases h
      exact aw_zret hC (Or.inr rfl) dX9_isOwn_41 (Nat.le_of_ble_eq_true rfl) (Nat.le_of_ble_eq_true rfl)
    · replace h := it_n c2 h
      refine aw_lload_n (pc' := 17) (i := 1) hC dX9_isOwn_16 rfl rfl rfl ?_
      refine aw_ldc2 (pc' := 20) (v := 1668245870) hC dX9_isOwn_17 rfl ck_X9_264 (by unfold I64; omega) ?_
      refine aw_lcmp (pc' := 21) hC dX9_isOwn_20 rfl  ?_
      refine aw_if_eq (tgt := 40) (pc' := 24) hC dX9_isOwn_21 (by decide) rfl (fun c3 => ?_) (fun c3 => ?_)
      · replace h := it_p c3 h
        refine aw_iconst (pc' := 41) hC dX9_isOwn_40 rfl (by decide) ?_
        cases h
        exact aw_zret hC (Or.inr rfl) dX9_isOwn_41 (Nat.le_of_ble_eq_true rfl) (Nat.le_of_ble_eq_true rfl)
      · replace h := it_n c3 h
        refine aw_lload_n (pc' := 25) (i := 1) hC dX9_isOwn_24 rfl rfl rfl ?_
        refine aw_ldc2 (pc' := 28) (v := 512970880104) hC dX9_isOwn_25 rfl ck_X9_266 (by unfold I64; omega) ?_
        refine aw_lcmp (pc' := 29) hC dX9_isOwn_28 rfl  ?_
        refine aw_if_eq (tgt := 40) (pc' := 32) hC dX9_isOwn_29 (by decide) rfl (fun c4 => ?_) (fun c4 => ?_)
        · replace h := it_p c4 h
          refine aw_iconst (pc' := 41) hC dX9_isOwn_40 rfl (by decide) ?_
          cases h
          exact aw_zret hC (Or.inr rfl) dX9_isOwn_41 (Nat.le_of_ble_eq_true rfl) (Nat.le_of_ble_eq_true rfl)
        · replace h := it_n c4 h
          refine aw_lload_n (pc' := 33) (i := 1) hC dX9_isOwn_32 rfl rfl rfl ?_
          refine aw_ldc2 (pc' := 36) (v := 28518) hC dX9_isOwn_33 rfl ck_X9_268 (by unfold I64; omega) ?_
          refine aw_lcmp (pc' := 37) hC dX9_isOwn_36 rfl  ?_
          refine aw_if_ne (tgt := 42) (pc' := 40) hC dX9_isOwn_37 (by decide) rfl (fun c5 => ?_) (fun c5 => ?_)
          · replace h := it_n c5 h
            refine aw_lload_n (pc' := 43) (i := 1) hC dX9_isOwn_42 rfl rfl rfl ?_
            refine aw_ldc2 (pc' := 46) (v := 461414299507) hC dX9_isOwn_43 rfl ck_X9_270 (by unfold I64; omega) ?_
            refine aw_lcmp (pc' := 47) hC dX9_isOwn_46 rfl  ?_
            refine aw_if_eq (tgt := 82) (pc' := 50) hC dX9_isOwn_47 (by decide) rfl (fun c6 => ?_) (fun c6 => ?_)
            · replace h := it_p c6 h
              refine aw_iconst (pc' := 83) hC dX9_isOwn_82 rfl (by decide) ?_
              cases h
              exact aw_zret hC (Or.inr rfl) dX9_isOwn_83 (Nat.le_of_ble_eq_true rfl) (Nat.le_of_ble_eq_true rfl)
            · replace h := it_n c6 h
              refine aw_lload_n (pc' := 51) (i := 1) hC dX9_isOwn_50 rfl rfl rfl ?_
              refine aw_ldc2 (pc' := 54) (v := 444251202675) hC dX9_isOwn_51 rfl ck_X9_272 (by unfold I64; omega) ?_
              refine aw_lcmp (pc' := 55) hC dX9_isOwn_54 rfl  ?_
              refine aw_if_eq (tgt := 82) (pc' := 58) hC dX9_isOwn_55 (by decide) rfl (fun c7 => ?_) (fun c7 => ?_)
              · replace h := it_p c7 h
                refine aw_iconst (pc' := 83) hC dX9_isOwn_82 rfl (by decide) ?_
                cases h
                exact aw_zret hC (Or.inr rfl) dX9_isOwn_83 (Nat.le_of_ble_eq_true rfl) (Nat.le_of_ble_eq_true rfl)
              · replace h := it_n c7 h
                refine aw_lload_n (pc' := 59) (i := 1) hC dX9_isOwn_58 rfl rfl rfl ?_
                refine aw_ldc2 (pc' := 62) (v := 25209) hC dX9_isOwn_59 rfl ck_X9_274 (by unfold I64; omega) ?_
                refine aw_lcmp (pc' := 63) hC dX9_isOwn_62 rfl  ?_
                refine aw_if_eq (tgt := 82) (pc' := 66) hC dX9_isOwn_63 (by decide) rfl (fun c8 => ?_) (fun c8 => ?_)
                · replace h := it_p c8 h
                  refine aw_iconst (pc' := 83) hC dX9_isOwn_82 rfl (by decide) ?_
                  cases h
                  exact aw_zret hC (Or.inr rfl) dX9_isOwn_83 (Nat.le_of_ble_eq_true rfl) (Nat.le_of_ble_eq_true rfl)
                · replace h := it_n c8 h
                  refine aw_lload_n (pc' := 67) (i := 1) hC dX9_isOwn_66 rfl rfl rfl ?_
                  refine aw_ldc2 (pc' := 70) (v := 1936618850) hC dX9_isOwn_67 rfl ck_X9_276 (by unfold I64; omega) ?_
                  refine aw_lcmp (pc' := 71) hC dX9_isOwn_70 rfl  ?_
                  refine aw_if_eq (tgt := 82) (pc' := 74) hC dX9_isOwn_71 (by decide) rfl (fun c9 => ?_) (fun c9 => ?_)
                  · replace h := it_p c9 h
                    refine aw_iconst (pc' := 83) hC dX9_isOwn_82 rfl (by decide) ?_
                    cases h
                    exact aw_zret hC (Or.inr rfl) dX9_isOwn_83 (Nat.le_of_ble_eq_true rfl) (Nat.le_of_ble_eq_true rfl)
                  · replace h := it_n c9 h
                    refine aw_lload_n (pc' := 75) (i := 1) hC dX9_isOwn_74 rfl rfl rfl ?_
                    refine aw_ldc2 (pc' := 78) (v := 439720633715) hC dX9_isOwn_75 rfl ck_X9_278 (by unfold I64; omega) ?_
                    refine aw_lcmp (pc' := 79) hC dX9_isOwn_78 rfl  ?_
                    refine aw_if_ne (tgt := 84) (pc' := 82) hC dX9_isOwn_79 (by decide) rfl (fun c10 => ?_) (fun c10 => ?_)
                    · replace h := it_n c10 h
                      refine aw_lload_n (pc' := 85) (i := 1) hC dX9_isOwn_84 rfl rfl rfl ?_
                      refine aw_ldc2 (pc' := 88) (v := 508675192165) hC dX9_isOwn_85 rfl ck_X9_280 (by unfold I64; omega) ?_
                      refine aw_lcmp (pc' := 89) hC dX9_isOwn_88 rfl  ?_
                      refine aw_if_eq (tgt := 124) (pc' := 92) hC dX9_isOwn_89 (by decide) rfl (fun c11 => ?_) (fun c11 => ?_)
                      · replace h := it_p c11 h
                        refine aw_iconst (pc' := 125) hC dX9_isOwn_124 rfl (by decide) ?_
                        cases h
                        exact aw_zret hC (Or.inr rfl) dX9_isOwn_125 (Nat.le_of_ble_eq_true rfl) (Nat.le_of_ble_eq_true rfl)
                      · replace h := it_n c11 h
                        refine aw_lload_n (pc' := 93) (i := 1) hC dX9_isOwn_92 rfl rfl rfl ?_
                        refine aw_ldc2 (pc' := 96) (v := 8102650225890325619) hC dX9_isOwn_93 rfl ck_X9_282 (by unfold I64; omega) ?_
                        refine aw_lcmp (pc' := 97) hC dX9_isOwn_96 rfl  ?_
                        refine aw_if_eq (tgt := 124) (pc' := 100) hC dX9_isOwn_97 (by decide) rfl (fun c12 => ?_) (fun c12 => ?_)
                        · replace h := it_p c12 h
                          refine aw_iconst (pc' := 125) hC dX9_isOwn_124 rfl (by decide) ?_
                          cases h
                          exact aw_zret hC (Or.inr rfl) dX9_isOwn_125 (Nat.le_of_ble_eq_true rfl) (Nat.le_of_ble_eq_true rfl)
                        · replace h := it_n c12 h
                          refine aw_lload_n (pc' := 101) (i := 1) hC dX9_isOwn_100 rfl rfl rfl ?_
                          refine aw_ldc2 (pc' := 104) (v := 482955846501) hC dX9_isOwn_101 rfl ck_X9_284 (by unfold I64; omega) ?_
                          refine aw_lcmp (pc' := 105) hC dX9_isOwn_104 rfl  ?_
                          refine aw_if_eq (tgt := 124) (pc' := 108) hC dX9_isOwn_105 (by decide) rfl (fun c13 => ?_) (fun c13 => ?_)
                          · replace h := it_p c13 h
                            refine aw_iconst (pc' := 125) hC dX9_isOwn_124 rfl (by decide) ?_
                            cases h
                            exact aw_zret hC (Or.inr rfl) dX9_isOwn_125 (Nat.le_of_ble_eq_true rfl) (Nat.le_of_ble_eq_true rfl)
                          · replace h := it_n c13 h
                            refine aw_lload_n (pc' := 109) (i := 1) hC dX9_isOwn_108 rfl rfl rfl ?_
                            refine aw_ldc2 (pc' := 112) (v := 478694368626) hC dX9_isOwn_109 rfl ck_X9_286 (by unfold I64; omega) ?_
                            refine aw_lcmp (pc' := 113) hC dX9_isOwn_112 rfl  ?_
                            refine aw_if_eq (tgt := 124) (pc' := 116) hC dX9_isOwn_113 (by decide) rfl (fun c14 => ?_) (fun c14 => ?_)
                            · replace h := it_p c14 h
                              refine aw_iconst (pc' := 125) hC dX9_isOwn_124 rfl (by decide) ?_
                              cases h
                              exact aw_zret hC (Or.inr rfl) dX9_isOwn_125 (Nat.le_of_ble_eq_true rfl) (Nat.le_of_ble_eq_true rfl)
                            · replace h := it_n c14 h
                              refine aw_lload_n (pc' := 117) (i := 1) hC dX9_isOwn_116 rfl rfl rfl ?_
                              refine aw_ldc2 (pc' := 120) (v := 109304541834341) hC dX9_isOwn_117 rfl ck_X9_288 (by unfold I64; omega) ?_
                              refine aw_lcmp (pc' := 121) hC dX9_isOwn_120 rfl  ?_
                              refine aw_if_ne (tgt := 126) (pc' := 124) hC dX9_isOwn_121 (by decide) rfl (fun c15 => ?_) (fun c15 => ?_)
                              · replace h := it_n c15 h
                                refine aw_lload_n (pc' := 127) (i := 1) hC dX9_isOwn_126 rfl rfl rfl ?_
                                refine aw_ldc2 (pc' := 130) (v := 6578553) hC dX9_isOwn_127 rfl ck_X9_290 (by unfold I64; omega) ?_
                                refine aw_lcmp (pc' := 131) hC dX9_isOwn_130 rfl  ?_
                                refine aw_if_eq (tgt := 166) (pc' := 134) hC dX9_isOwn_131 (by decide) rfl (fun c16 => ?_) (fun c16 => ?_)
                                · replace h := it_p c16 h
                                  refine aw_iconst (pc' := 167) hC dX9_isOwn_166 rfl (by decide) ?_
                                  cases h
                                  exact aw_zret hC (Or.inr rfl) dX9_isOwn_167 (Nat.le_of_ble_eq_true rfl) (Nat.le_of_ble_eq_true rfl)
                                · replace h := it_n c16 h
                                  refine aw_lload_n (pc' := 135) (i := 1) hC dX9_isOwn_134 rfl rfl rfl ?_
                                  refine aw_ldc2 (pc' := 138) (v := 448545973363) hC dX9_isOwn_135 rfl ck_X9_292 (by unfold I64; omega) ?_
                                  refine aw_lcmp (pc' := 139) hC dX9_isOwn_138 rfl  ?_
                                  refine aw_if_eq (tgt := 166) (pc' := 142) hC dX9_isOwn_139 (by decide) rfl (fun c17 => ?_) (fun c17 => ?_)
                                  · replace h := it_p c17 h
                                    refine aw_iconst (pc' := 167) hC dX9_isOwn_166 rfl (by decide) ?_
                                    cases h
                                    exact aw_zret hC (Or.inr rfl) dX9_isOwn_167 (Nat.le_of_ble_eq_true rfl) (Nat.le_of_ble_eq_true rfl)
                                  · replace h := it_n c17 h
                                    refine aw_lload_n (pc' := 143) (i := 1) hC dX9_isOwn_142 rfl rfl rfl ?_
                                    refine aw_ldc2 (pc' := 146) (v := 28530) hC dX9_isOwn_143 rfl ck_X9_294 (by unfold I64; omega) ?_
                                    refine aw_lcmp (pc' := 147) hC dX9_isOwn_146 rfl  ?_
                                    refine aw_if_eq (tgt := 166) (pc' := 150) hC dX9_isOwn_147 (by decide) rfl (fun c18 => ?_) (fun c18 => ?_)
                                    · replace h := it_p c18 h
                                      refine aw_iconst (pc' := 167) hC dX9_isOwn_166 rfl (by decide) ?_
                                      cases h
                                      exact aw_zret hC (Or.inr rfl) dX9_isOwn_167 (Nat.le_of_ble_eq_true rfl) (Nat.le_of_ble_eq_true rfl)
                                    · replace h := it_n c18 h
                                      refine aw_lload_n (pc' := 151) (i := 1) hC dX9_isOwn_150 rfl rfl rfl ?_
                                      refine aw_ldc2 (pc' := 154) (v := 6385252) hC dX9_isOwn_151 rfl ck_X9_296 (by unfold I64; omega) ?_
                                      refine aw_lcmp (pc' := 155) hC dX9_isOwn_154 rfl  ?_
                                      refine aw_if_eq (tgt := 166) (pc' := 158) hC dX9_isOwn_155 (by decide) rfl (fun c19 => ?_) (fun c19 => ?_)
                                      · replace h := it_p c19 h
                                        refine aw_iconst (pc' := 167) hC dX9_isOwn_166 rfl (by decide) ?_
                                        cases h
                                        exact aw_zret hC (Or.inr rfl) dX9_isOwn_167 (Nat.le_of_ble_eq_true rfl) (Nat.le_of_ble_eq_true rfl)
                                      · replace h := it_n c19 h
                                        refine aw_lload_n (pc' := 159) (i := 1) hC dX9_isOwn_158 rfl rfl rfl ?_
                                        refine aw_ldc2 (pc' := 162) (v := 7237492) hC dX9_isOwn_159 rfl ck_X9_298 (by unfold I64; omega) ?_
                                        refine aw_lcmp (pc' := 163) hC dX9_isOwn_162 rfl  ?_
                                        refine aw_if_ne (tgt := 168) (pc' := 166) hC dX9_isOwn_163 (by decide) rfl (fun c20 => ?_) (fun c20 => ?_)
                                        · replace h := it_n c20 h
                                          refine aw_lload_n (pc' := 169) (i := 1) hC dX9_isOwn_168 rfl rfl rfl ?_
                                          refine aw_ldc2 (pc' := 172) (v := 6384748) hC dX9_isOwn_169 rfl ck_X9_300 (by unfold I64; omega) ?_
                                          refine aw_lcmp (pc' := 173) hC dX9_isOwn_172 rfl  ?_
                                          refine aw_if_eq (tgt := 192) (pc' := 176) hC dX9_isOwn_173 (by decide) rfl (fun c21 => ?_) (fun c21 => ?_)
                                          · replace h := it_p c21 h
                                            refine aw_iconst (pc' := 193) hC dX9_isOwn_192 rfl (by decide) ?_
                                            cases h
                                            exact aw_zret hC (Or.inr rfl) dX9_isOwn_193 (Nat.le_of_ble_eq_true rfl) (Nat.le_of_ble_eq_true rfl)
                                          · replace h := it_n c21 h
                                            refine aw_lload_n (pc' := 177) (i := 1) hC dX9_isOwn_176 rfl rfl rfl ?_
                                            refine aw_ldc2 (pc' := 180) (v := 7170414) hC dX9_isOwn_177 rfl ck_X9_302 (by unfold I64; omega) ?_
                                            refine aw_lcmp (pc' := 181) hC dX9_isOwn_180 rfl  ?_
                                            refine aw_if_eq (tgt := 192) (pc' := 184) hC dX9_isOwn_181 (by decide) rfl (fun c22 => ?_) (fun c22 => ?_)
                                            · replace h := it_p c22 h
                                              refine aw_iconst (pc' := 193) hC dX9_isOwn_192 rfl (by decide) ?_
                                              cases h
                                              exact aw_zret hC (Or.inr rfl) dX9_isOwn_193 (Nat.le_of_ble_eq_true rfl) (Nat.le_of_ble_eq_true rfl)
                                            · replace h := it_n c22 h
                                              refine aw_lload_n (pc' := 185) (i := 1) hC dX9_isOwn_184 rfl rfl rfl ?_
                                              refine aw_ldc2 (pc' := 188) (v := 7168376) hC dX9_isOwn_185 rfl ck_X9_304 (by unfold I64; omega) ?_
                                              refine aw_lcmp (pc' := 189) hC dX9_isOwn_188 rfl  ?_
                                              refine aw_if_ne (tgt := 194) (pc' := 192) hC dX9_isOwn_189 (by decide) rfl (fun c23 => ?_) (fun c23 => ?_)
                                              · replace h := it_n c23 h
                                                refine aw_iconst (pc' := 195) hC dX9_isOwn_194 rfl (by decide) ?_
                                                cases h
                                                exact aw_zret hC (Or.inl rfl) dX9_isOwn_195 (Nat.le_of_ble_eq_true rfl) (Nat.le_of_ble_eq_true rfl)
                                              · replace h := it_p c23 h
                                                refine aw_iconst (pc' := 193) hC dX9_isOwn_192 rfl (by decide) ?_
                                                cases h
                                                exact aw_zret hC (Or.inr rfl) dX9_isOwn_193 (Nat.le_of_ble_eq_true rfl) (Nat.le_of_ble_eq_true rfl)
                                        · replace h := it_p c20 h
                                          refine aw_iconst (pc' := 167) hC dX9_isOwn_166 rfl (by decide) ?_
                                          cases h
                                          exact aw_zret hC (Or.inr rfl) dX9_isOwn_167 (Nat.le_of_ble_eq_true rfl) (Nat.le_of_ble_eq_true rfl)
                              · replace h := it_p c15 h
                                refine aw_iconst (pc' := 125) hC dX9_isOwn_124 rfl (by decide) ?_
                                cases h
                                exact aw_zret hC (Or.inr rfl) dX9_isOwn_125 (Nat.le_of_ble_eq_true rfl) (Nat.le_of_ble_eq_true rfl)
                    · replace h := it_p c10 h
                      refine aw_iconst (pc' := 83) hC dX9_isOwn_82 rfl (by decide) ?_
                      cases h
                      exact aw_zret hC (Or.inr rfl) dX9_isOwn_83 (Nat.le_of_ble_eq_true rfl) (Nat.le_of_ble_eq_true rfl)
          · replace h := it_p c5 h
            refine aw_iconst (pc' := 41) hC dX9_isOwn_40 rfl (by decide) ?_
            cases h
            exact aw_zret hC (Or.inr rfl) dX9_isOwn_41 (Nat.le_of_ble_eq_true rfl) (Nat.le_of_ble_eq_true rfl)
-- CoinCircleModel.ahead()V
def fX9_ahead_L5 (sh : AwS) (M : AwM) (v0 : Int) (v1 : Int) : Option ((Int) ⊕ (Int)) :=
  gd_ (kd_ sh v0 = (0, 9)) ((if v1 < (M v0 2) then gd_ ((kd_ sh (M v0 0)).1 = 1 ∧ (0 : Int) ≤ v1 ∧ v1 < ((kd_ sh (M v0 0)).2 : Int)) ((if (M (M v0 0) v1) = 32 then some (.inl (w32 (v1 + 1))) else (if (M (M v0 0) v1) = 10 then some (.inl (w32 (v1 + 1))) else some (.inr v1)))) else some (.inr v1)))
def p_X9_ahead_L5 (Γ : AwC) (sh : AwS) (M : AwM) (v0 : Int) (Q : State → Prop) (s : Int) : Prop := AW Γ sh M 0 0 5 [some (.inr (.inr v0)), some (.inl (s)), none, none, none, none] [] Q
def x_X9_ahead_L5 (Γ : AwC) (sh : AwS) (M : AwM) (v0 : Int) (Q : State → Prop) : (Int) → Prop := (fun (t : Int) => AW Γ sh M 0 0 41 [some (.inr (.inr v0)), some (.inl (t)), none, none, none, none] [] Q)
def fX9_ahead_J293_204 (sh : AwS) (M : AwM) (v0 : Int) (v1 : Int) (v2 : Int) (v3 : Int) (v4 : Int) (v5 : Int) : Option ((Int × Int × AwM) ⊕ (Int × Int × AwM)) :=
  (if v5 < v4 then (if v3 = 0 then some (.inl ((w32 (v1 + 1)), (w32 (v5 + 1)), M)) else gd_ (kd_ sh v0 = (0, 9)) (gd_ ((kd_ sh (M v0 0)).1 = 1 ∧ (0 : Int) ≤ v1 ∧ v1 < ((kd_ sh (M v0 0)).2 : Int)) (bd_ (up_ M v0 6 (w32 ((w32 ((w32 (10 * (M v0 6))) + (M (M v0 0) v1))) - 48))) fun (M53 : AwM) => (some (.inl ((w32 (v1 + 1)), (w32 (v5 + 1)), M53)))))) else some (.inl ((w32 (v1 + 1)), (w32 (v5 + 1)), M)))
def fX9_ahead_J263_204 (sh : AwS) (M : AwM) (v0 : Int) (v1 : Int) (v2 : Int) (v3 : Int) (v4 : Int) (v5 : Int) : Option ((Int × Int × AwM) ⊕ (Int × Int × AwM)) :=
  (if v5 < 8 then (if v2 = 0 then fX9_ahead_J293_204 sh M v0 v1 v2 v3 v4 v5 else gd_ (kd_ sh v0 = (0, 9)) (gd_ ((kd_ sh (M v0 0)).1 = 1 ∧ (0 : Int) ≤ v1 ∧ v1 < ((kd_ sh (M v0 0)).2 : Int)) (bd_ (up_ M v0 7 (orl_ (sll_ (M v0 7) 8) (M (M v0 0) v1))) fun (M58 : AwM) => (fX9_ahead_J293_204 sh M58 v0 v1 v2 v3 v4 v5)))) else fX9_ahead_J293_204 sh M v0 v1 v2 v3 v4 v5)
def fX9_ahead_J243_204 (sh : AwS) (M : AwM) (v0 : Int) (v1 : Int) (v2 : Int) (v3 : Int) (v4 : Int) (v5 : Int) : Option ((Int × Int × AwM) ⊕ (Int × Int × AwM)) :=
  (if v5 = v4 then gd_ (kd_ sh v0 = (0, 9)) ((if (M v0 12) = (-1) then bd_ (up_ M v0 12 v1) fun (M62 : AwM) => (fX9_ahead_J263_204 sh M62 v0 v1 v2 v3 v4 v5) else fX9_ahead_J263_204 sh M v0 v1 v2 v3 v4 v5)) else fX9_ahead_J263_204 sh M v0 v1 v2 v3 v4 v5)
def fX9_ahead_L204 (sh : AwS) (v0 : Int) (v2 : Int) (v3 : Int) (v4 : Int) (v1 : Int) (v5 : Int) (M : AwM) : Option ((Int × Int × AwM) ⊕ (Int × Int × AwM)) :=
  gd_ (kd_ sh v0 = (0, 9)) ((if v1 < (M v0 2) then (if v2 = 0 then gd_ ((kd_ sh (M v0 0)).1 = 1 ∧ (0 : Int) ≤ v1 ∧ v1 < ((kd_ sh (M v0 0)).2 : Int)) (pb (fX9_isDigit sh M (M (M v0 0) v1)) <| u1 fun (x45 : Int) => ((if x45 = 0 then some (.inr (v1, v5, M)) else fX9_ahead_J243_204 sh M v0 v1 v2 v3 v4 v5))) else gd_ ((kd_ sh (M v0 0)).1 = 1 ∧ (0 : Int) ≤ v1 ∧ v1 < ((kd_ sh (M v0 0)).2 : Int)) (pb (fX9_isLetter sh M (M (M v0 0) v1)) <| u1 fun (x66 : Int) => ((if x66 = 0 then some (.inr (v1, v5, M)) else fX9_ahead_J243_204 sh M v0 v1 v2 v3 v4 v5)))) else some (.inr (v1, v5, M))))
def p_X9_ahead_L204 (Γ : AwC) (sh : AwS) (v0 : Int) (v2 : Int) (v3 : Int) (v4 : Int) (Q : State → Prop) (s : Int × Int × AwM) : Prop := AW Γ sh (s.2.2) 0 0 204 [some (.inr (.inr v0)), some (.inl (s.1)), some (.inl v2), some (.inl v3), some (.inl v4), some (.inl (s.2.1))] [] Q
def x_X9_ahead_L204 (Γ : AwC) (sh : AwS) (v0 : Int) (v2 : Int) (v3 : Int) (v4 : Int) (Q : State → Prop) : (Int × Int × AwM) → Prop := (fun (t : Int × Int × AwM) => AW Γ sh (t.2.2) 0 0 334 [some (.inr (.inr v0)), some (.inl (t.1)), some (.inl v2), none, some (.inl v4), some (.inl (t.2.1))] [] Q)
def fX9_ahead_J334 (sh : AwS) (M : AwM) (v0 : Int) (v1 : Int) (v2 : Int) (v4 : Int) (v5 : Int) : Option (AwM) :=
  gd_ (kd_ sh v0 = (0, 9)) (bd_ (up_ M v0 5 v1) fun (M73 : AwM) => ((if v2 = 0 then some M73 else (if 8 < v5 then some M73 else (if (M73 v0 12) = (w32 ((M73 v0 4) + v4)) then pb (fX9_isOwn sh M73 v0 (M73 v0 7)) <| u1 fun (x79 : Int) => ((if x79 = 0 then some M73 else bd_ (up_ M73 v0 12 (-1)) fun (M81 : AwM) => (some M81))) else some M73)))))
def fX9_ahead_J186 (sh : AwS) (M : AwM) (v0 : Int) (v1 : Int) (v2 : Int) (v3 : Int) (s0 : Int) (s1 : Int) : Option (AwM) :=
  gd_ (kd_ sh s0 = (0, 9)) (bd_ (up_ M s0 3 s1) fun (M37 : AwM) => ((if v2 = 0 then pb (lp (u3 (fX9_ahead_L204 sh v0 v2 v3 4)) FU (v1, 0, M37)) (u3 (fun (x69 : Int) (x70 : Int) (M71 : AwM) => fX9_ahead_J334 sh M71 v0 x69 v2 4 x70)) else pb (lp (u3 (fX9_ahead_L204 sh v0 v2 v3 6)) FU (v1, 0, M37)) (u3 (fun (x84 : Int) (x85 : Int) (M86 : AwM) => fX9_ahead_J334 sh M86 v0 x84 v2 6 x85)))))
def fX9_ahead_J176 (sh : AwS) (M : AwM) (v0 : Int) (v1 : Int) (v2 : Int) (v3 : Int) : Option (AwM) :=
  (if v2 = 0 then fX9_ahead_J186 sh M v0 v1 v2 v3 v0 2 else fX9_ahead_J186 sh M v0 v1 v2 v3 v0 1)
def fX9_ahead_J135 (sh : AwS) (M : AwM) (v0 : Int) (v1 : Int) (v2 : Int) (v3 : Int) : Option (AwM) :=
  gd_ (kd_ sh v0 = (0, 9)) (bd_ (up_ M v0 6 0) fun (M26 : AwM) => (bd_ (up_ M26 v0 7 0) fun (M28 : AwM) => (bd_ (up_ M28 v0 3 3) fun (M30 : AwM) => (bd_ (up_ M30 v0 5 (w32 (v1 + 1))) fun (M32 : AwM) => ((if v2 = 0 then (if v3 = 0 then gd_ ((kd_ sh (M32 v0 0)).1 = 1 ∧ (0 : Int) ≤ v1 ∧ v1 < ((kd_ sh (M32 v0 0)).2 : Int)) (bd_ (up_ M32 v0 6 (M32 (M32 v0 0) v1)) fun (M89 : AwM) => (some M89)) else fX9_ahead_J176 sh M32 v0 v1 v2 v3) else fX9_ahead_J176 sh M32 v0 v1 v2 v3))))))
def fX9_ahead_J130 (sh : AwS) (M : AwM) (v0 : Int) (v1 : Int) (v2 : Int) (v3 : Int) : Option (AwM) :=
  gd_ (kd_ sh v0 = (0, 9)) (bd_ (up_ M v0 12 v1) fun (M97 : AwM) => (fX9_ahead_J135 sh M97 v0 v1 v2 v3))
def fX9_ahead_J98 (sh : AwS) (M : AwM) (v0 : Int) (v1 : Int) (v2 : Int) (v3 : Int) : Option (AwM) :=
  (if 0 < v1 then gd_ (kd_ sh v0 = (0, 9)) (gd_ ((kd_ sh (M v0 0)).1 = 1 ∧ (0 : Int) ≤ (w32 (v1 - 1)) ∧ (w32 (v1 - 1)) < ((kd_ sh (M v0 0)).2 : Int)) (pb (fX9_isLetter sh M (M (M v0 0) (w32 (v1 - 1)))) <| u1 fun (x94 : Int) => ((if x94 = 0 then pb (fX9_isDigit sh M (M (M v0 0) (w32 (v1 - 1)))) <| u1 fun (x100 : Int) => ((if x100 = 0 then fX9_ahead_J135 sh M v0 v1 v2 v3 else fX9_ahead_J130 sh M v0 v1 v2 v3)) else fX9_ahead_J130 sh M v0 v1 v2 v3)))) else fX9_ahead_J135 sh M v0 v1 v2 v3)
def fX9_ahead_J41 (sh : AwS) (M : AwM) (v0 : Int) (v1 : Int) : Option (AwM) :=
  gd_ (kd_ sh v0 = (0, 9)) (bd_ (up_ M v0 4 v1) fun (M9 : AwM) => (bd_ (up_ M9 v0 5 v1) fun (M11 : AwM) => (bd_ (up_ M11 v0 3 0) fun (M13 : AwM) => (bd_ (up_ M13 v0 12 (-1)) fun (M15 : AwM) => ((if v1 < (M15 v0 2) then gd_ ((kd_ sh (M15 v0 0)).1 = 1 ∧ (0 : Int) ≤ v1 ∧ v1 < ((kd_ sh (M15 v0 0)).2 : Int)) (pb (fX9_isLetter sh M15 (M15 (M15 v0 0) v1)) <| u1 fun (x20 : Int) => (pb (fX9_isDigit sh M15 (M15 (M15 v0 0) v1)) <| u1 fun (x22 : Int) => ((if x20 = 0 then (if x22 = 0 then fX9_ahead_J135 sh M15 v0 v1 x20 x22 else fX9_ahead_J98 sh M15 v0 v1 x20 x22) else fX9_ahead_J98 sh M15 v0 v1 x20 x22)))) else some M15))))))
def fX9_ahead (sh : AwS) (M : AwM) (v0 : Int) : Option (AwM) :=
  gd_ (kd_ sh v0 = (0, 9)) (pb (lp (u1 (fX9_ahead_L5 sh M v0)) FU (M v0 5)) (u1 (fun (tq7 : Int) => fX9_ahead_J41 sh M v0 tq7)))
set_option maxRecDepth 100000 in
set_option maxHeartbeats 4000000 in
theorem w_X9_ahead_L5 {Γ : AwC} (hC : AOK Γ RX9 cX9_ahead 6 2 0 0 "ahead" none) {sh : AwS} {M : AwM} {v0 : Int} {Q : State → Prop} : ∀ s r, u1 (fX9_ahead_L5 sh M v0) s = some r → (∀ s', r = .inl s' → p_X9_ahead_L5 Γ sh M v0 Q s') → (∀ t, r = .inr t → x_X9_ahead_L5 Γ sh M v0 Q t) → p_X9_ahead_L5 Γ sh M v0 Q s := by
  intro v1 r h hL hX
  replace h := u1_s h
  unfold fX9_ahead_L5 at h
  show AW Γ sh M 0 0 5 [some (.inr (.inr v0)), some (.inl v1), none, none, none, none] [] Q
  refine aw_iload_n (pc' := 6) (i := 1) hC dX9_ahead_5 rfl rfl rfl ?_
  refine aw_aload_n (pc' := 7) (i := 0) hC dX9_ahead_6 rfl rfl rfl ?_
  obtain ⟨g2, h⟩ := gd_s h
  refine aw_getfield (pc' := 10) (v := (.inl (M v0 2))) hC dX9_ahead_7 rfl fl_X9_17 g2 rfl ?_
  refine aw_icmp_ge (tgt := 41) (pc' := 13) hC dX9_ahead_10 (by decide) rfl (fun c3 => ?_) (fun c3 => ?_)
  · replace h := it_n c3 h
    refine aw_sub hC [some (.inr (.inr v0)), some (.inl v1), none, none, none, none] ⟨rfl, ⟨rfl, trivial⟩⟩ (Nat.le_of_ble_eq_true rfl) ?_
    cases h
    exact hX _ rfl
  · replace h := it_p c3 h
    refine aw_aload_n (pc' := 14) (i := 0) hC dX9_ahead_13 rfl rfl rfl ?_
    refine aw_getfield (pc' := 17) (v := (.inr (.inr (M v0 0)))) hC dX9_ahead_14 rfl fl_X9_7 g2 rfl ?_
    refine aw_iload_n (pc' := 18) (i := 1) hC dX9_ahead_17 rfl rfl rfl ?_
    obtain ⟨g4, h⟩ := gd_s h
    refine aw_iaload (pc' := 19) hC dX9_ahead_18 rfl g4 ?_
    refine aw_bipush (pc' := 21) hC dX9_ahead_19 rfl (by decide) ?_
    refine aw_icmp_eq (tgt := 35) (pc' := 24) hC dX9_ahead_21 (by decide) rfl (fun c5 => ?_) (fun c5 => ?_)
    · replace h := it_p c5 h
      refine aw_iinc (pc' := 38) (ls' := [some (.inr (.inr v0)), some (.inl (w32 (v1 + 1))), none, none, none, none]) hC dX9_ahead_35 rfl rfl rfl rfl ?_
      refine aw_goto (tgt := 5) hC dX9_ahead_38 (by decide) ?_
      refine aw_sub hC [some (.inr (.inr v0)), some (.inl (w32 (v1 + 1))), none, none, none, none] ⟨rfl, ⟨rfl, trivial⟩⟩ (Nat.le_of_ble_eq_true rfl) ?_
      cases h
      exact hL _ rfl
    · replace h := it_n c5 h
      refine aw_aload_n (pc' := 25) (i := 0) hC dX9_ahead_24 rfl rfl rfl ?_
      refine aw_getfield (pc' := 28) (v := (.inr (.inr (M v0 0)))) hC dX9_ahead_25 rfl fl_X9_7 g2 rfl ?_
      refine aw_iload_n (pc' := 29) (i := 1) hC dX9_ahead_28 rfl rfl rfl ?_
      refine aw_iaload (pc' := 30) hC dX9_ahead_29 rfl g4 ?_
      refine aw_bipush (pc' := 32) hC dX9_ahead_30 rfl (by decide) ?_
      refine aw_icmp_ne (tgt := 41) (pc' := 35) hC dX9_ahead_32 (by decide) rfl (fun c6 => ?_) (fun c6 => ?_)
      · replace h := it_n c6 h
        refine aw_sub hC [some (.inr (.inr v0)), some (.inl v1), none, none, none, none] ⟨rfl, ⟨rfl, trivial⟩⟩ (Nat.le_of_ble_eq_true rfl) ?_
        cases h
        exact hX _ rfl
      · replace h := it_p c6 h
        refine aw_iinc (pc' := 38) (ls' := [some (.inr (.inr v0)), some (.inl (w32 (v1 + 1))), none, none, none, none]) hC dX9_ahead_35 rfl rfl rfl rfl ?_
        refine aw_goto (tgt := 5) hC dX9_ahead_38 (by decide) ?_
        refine aw_sub hC [some (.inr (.inr v0)), some (.inl (w32 (v1 + 1))), none, none, none, none] ⟨rfl, ⟨rfl, trivial⟩⟩ (Nat.le_of_ble_eq_true rfl) ?_
        cases h
        exact hL _ rfl
set_option maxRecDepth 100000 in
set_option maxHeartbeats 4000000 in
theorem w_X9_ahead_J293_204 {Γ : AwC} (hC : AOK Γ RX9 cX9_ahead 6 2 0 0 "ahead" none) {sh : AwS} {M : AwM} {v0 : Int} {v1 : Int} {v2 : Int} {v3 : Int} {v4 : Int} {v5 : Int} {Q : State → Prop} {r : (Int × Int × AwM) ⊕ (Int × Int × AwM)} (h : fX9_ahead_J293_204 sh M v0 v1 v2 v3 v4 v5 = some r) (hL : ∀ s', r = .inl s' → p_X9_ahead_L204 Γ sh v0 v2 v3 v4 Q s') (hX : ∀ t, r = .inr t → x_X9_ahead_L204 Γ sh v0 v2 v3 v4 Q t) : AW Γ sh M 0 0 293 [some (.inr (.inr v0)), some (.inl v1), some (.inl v2), some (.inl v3), some (.inl v4), some (.inl v5)] [] Q := by
  unfold fX9_ahead_J293_204 at h
  refine aw_iload (pc' := 295) hC dX9_ahead_293 rfl rfl ?_
  refine aw_iload (pc' := 297) hC dX9_ahead_295 rfl rfl ?_
  refine aw_icmp_ge (tgt := 325) (pc' := 300) hC dX9_ahead_297 (by decide) rfl (fun c49 => ?_) (fun c49 => ?_)
  · replace h := it_n c49 h
    refine aw_iinc (pc' := 328) (ls' := [some (.inr (.inr v0)), some (.inl v1), some (.inl v2), some (.inl v3), some (.inl v4), some (.inl (w32 (v5 + 1)))]) hC dX9_ahead_325 rfl rfl rfl rfl ?_
    refine aw_iinc (pc' := 331) (ls' := [some (.inr (.inr v0)), some (.inl (w32 (v1 + 1))), some (.inl v2), some (.inl v3), some (.inl v4), some (.inl (w32 (v5 + 1)))]) hC dX9_ahead_328 rfl rfl rfl rfl ?_
    refine aw_goto (tgt := 204) hC dX9_ahead_331 (by decide) ?_
    refine aw_sub hC [some (.inr (.inr v0)), some (.inl (w32 (v1 + 1))), some (.inl v2), some (.inl v3), some (.inl v4), some (.inl (w32 (v5 + 1)))] ⟨rfl, ⟨rfl, ⟨rfl, ⟨rfl, ⟨rfl, ⟨rfl, trivial⟩⟩⟩⟩⟩⟩ (Nat.le_of_ble_eq_true rfl) ?_
    cases h
    exact hL _ rfl
  · replace h := it_p c49 h
    refine aw_iload_n (pc' := 301) (i := 3) hC dX9_ahead_300 rfl rfl rfl ?_
    refine aw_if_eq (tgt := 325) (pc' := 304) hC dX9_ahead_301 (by decide) rfl (fun c50 => ?_) (fun c50 => ?_)
    · replace h := it_p c50 h
      refine aw_iinc (pc' := 328) (ls' := [some (.inr (.inr v0)), some (.inl v1), some (.inl v2), some (.inl v3), some (.inl v4), some (.inl (w32 (v5 + 1)))]) hC dX9_ahead_325 rfl rfl rfl rfl ?_
      refine aw_iinc (pc' := 331) (ls' := [some (.inr (.inr v0)), some (.inl (w32 (v1 + 1))), some (.inl v2), some (.inl v3), some (.inl v4), some (.inl (w32 (v5 + 1)))]) hC dX9_ahead_328 rfl rfl rfl rfl ?_
      refine aw_goto (tgt := 204) hC dX9_ahead_331 (by decide) ?_
      refine aw_sub hC [some (.inr (.inr v0)), some (.inl (w32 (v1 + 1))), some (.inl v2), some (.inl v3), some (.inl v4), some (.inl (w32 (v5 + 1)))] ⟨rfl, ⟨rfl, ⟨rfl, ⟨rfl, ⟨rfl, ⟨rfl, trivial⟩⟩⟩⟩⟩⟩ (Nat.le_of_ble_eq_true rfl) ?_
      cases h
      exact hL _ rfl
    · replace h := it_n c50 h
      refine aw_aload_n (pc' := 305) (i := 0) hC dX9_ahead_304 rfl rfl rfl ?_
      refine aw_bipush (pc' := 307) hC dX9_ahead_305 rfl (by decide) ?_
      refine aw_aload_n (pc' := 308) (i := 0) hC dX9_ahead_307 rfl rfl rfl ?_
      obtain ⟨g51, h⟩ := gd_s h
      refine aw_getfield (pc' := 311) (v := (.inl (M v0 6))) hC dX9_ahead_308 rfl fl_X9_29 g51 rfl ?_
      refine aw_imul (pc' := 312) hC dX9_ahead_311 rfl  ?_
      refine aw_aload_n (pc' := 313) (i := 0) hC dX9_ahead_312 rfl rfl rfl ?_
      refine aw_getfield (pc' := 316) (v := (.inr (.inr (M v0 0)))) hC dX9_ahead_313 rfl fl_X9_7 g51 rfl ?_
      refine aw_iload_n (pc' := 317) (i := 1) hC dX9_ahead_316 rfl rfl rfl ?_
      obtain ⟨g52, h⟩ := gd_s h
      refine aw_iaload (pc' := 318) hC dX9_ahead_317 rfl g52 ?_
      refine aw_iadd (pc' := 319) hC dX9_ahead_318 rfl  ?_
      refine aw_bipush (pc' := 321) hC dX9_ahead_319 rfl (by decide) ?_
      refine aw_isub (pc' := 322) hC dX9_ahead_321 rfl  ?_
      obtain ⟨M53, e54, h⟩ := bd_s h
      refine aw_pf (pc' := 325) hC dX9_ahead_322 rfl fp_X9_29 g51 rfl trivial e54 ?_
      refine aw_iinc (pc' := 328) (ls' := [some (.inr (.inr v0)), some (.inl v1), some (.inl v2), some (.inl v3), some (.inl v4), some (.inl (w32 (v5 + 1)))]) hC dX9_ahead_325 rfl rfl rfl rfl ?_
      refine aw_iinc (pc' := 331) (ls' := [some (.inr (.inr v0)), some (.inl (w32 (v1 + 1))), some (.inl v2), some (.inl v3), some (.inl v4), some (.inl (w32 (v5 + 1)))]) hC dX9_ahead_328 rfl rfl rfl rfl ?_
      refine aw_goto (tgt := 204) hC dX9_ahead_331 (by decide) ?_
      refine aw_sub hC [some (.inr (.inr v0)), some (.inl (w32 (v1 + 1))), some (.inl v2), some (.inl v3), some (.inl v4), some (.inl (w32 (v5 + 1)))] ⟨rfl, ⟨rfl, ⟨rfl, ⟨rfl, ⟨rfl, ⟨rfl, trivial⟩⟩⟩⟩⟩⟩ (Nat.le_of_ble_eq_true rfl) ?_
      cases h
      exact hL _ rfl
set_option maxRecDepth 100000 in
set_option maxHeartbeats 4000000 in
theorem w_X9_ahead_J263_204 {Γ : AwC} (hC : AOK Γ RX9 cX9_ahead 6 2 0 0 "ahead" none) {sh : AwS} {M : AwM} {v0 : Int} {v1 : Int} {v2 : Int} {v3 : Int} {v4 : Int} {v5 : Int} {Q : State → Prop} {r : (Int × Int × AwM) ⊕ (Int × Int × AwM)} (h : fX9_ahead_J263_204 sh M v0 v1 v2 v3 v4 v5 = some r) (hL : ∀ s', r = .inl s' → p_X9_ahead_L204 Γ sh v0 v2 v3 v4 Q s') (hX : ∀ t, r = .inr t → x_X9_ahead_L204 Γ sh v0 v2 v3 v4 Q t) : AW Γ sh M 0 0 263 [some (.inr (.inr v0)), some (.inl v1), some (.inl v2), some (.inl v3), some (.inl v4), some (.inl v5)] [] Q := by
  unfold fX9_ahead_J263_204 at h
  refine aw_iload (pc' := 265) hC dX9_ahead_263 rfl rfl ?_
  refine aw_bipush (pc' := 267) hC dX9_ahead_265 rfl (by decide) ?_
  refine aw_icmp_ge (tgt := 293) (pc' := 270) hC dX9_ahead_267 (by decide) rfl (fun c48 => ?_) (fun c48 => ?_)
  · replace h := it_n c48 h
    refine aw_sub hC [some (.inr (.inr v0)), some (.inl v1), some (.inl v2), some (.inl v3), some (.inl v4), some (.inl v5)] ⟨rfl, ⟨rfl, ⟨rfl, ⟨rfl, ⟨rfl, ⟨rfl, trivial⟩⟩⟩⟩⟩⟩ (Nat.le_of_ble_eq_true rfl) ?_
    exact w_X9_ahead_J293_204 hC h hL hX
  · replace h := it_p c48 h
    refine aw_iload_n (pc' := 271) (i := 2) hC dX9_ahead_270 rfl rfl rfl ?_
    refine aw_if_eq (tgt := 293) (pc' := 274) hC dX9_ahead_271 (by decide) rfl (fun c55 => ?_) (fun c55 => ?_)
    · replace h := it_p c55 h
      refine aw_sub hC [some (.inr (.inr v0)), some (.inl v1), some (.inl v2), some (.inl v3), some (.inl v4), some (.inl v5)] ⟨rfl, ⟨rfl, ⟨rfl, ⟨rfl, ⟨rfl, ⟨rfl, trivial⟩⟩⟩⟩⟩⟩ (Nat.le_of_ble_eq_true rfl) ?_
      exact w_X9_ahead_J293_204 hC h hL hX
    · replace h := it_n c55 h
      refine aw_aload_n (pc' := 275) (i := 0) hC dX9_ahead_274 rfl rfl rfl ?_
      refine aw_aload_n (pc' := 276) (i := 0) hC dX9_ahead_275 rfl rfl rfl ?_
      obtain ⟨g56, h⟩ := gd_s h
      refine aw_getfield (pc' := 279) (v := (.inr (.inl (M v0 7)))) hC dX9_ahead_276 rfl fl_X9_32 g56 rfl ?_
      refine aw_bipush (pc' := 281) hC dX9_ahead_279 rfl (by decide) ?_
      refine aw_lshl (pc' := 282) hC dX9_ahead_281 rfl  ?_
      refine aw_aload_n (pc' := 283) (i := 0) hC dX9_ahead_282 rfl rfl rfl ?_
      refine aw_getfield (pc' := 286) (v := (.inr (.inr (M v0 0)))) hC dX9_ahead_283 rfl fl_X9_7 g56 rfl ?_
      refine aw_iload_n (pc' := 287) (i := 1) hC dX9_ahead_286 rfl rfl rfl ?_
      obtain ⟨g57, h⟩ := gd_s h
      refine aw_iaload (pc' := 288) hC dX9_ahead_287 rfl g57 ?_
      refine aw_i2l (pc' := 289) hC dX9_ahead_288 rfl  ?_
      refine aw_lor (pc' := 290) hC dX9_ahead_289 rfl  ?_
      obtain ⟨M58, e59, h⟩ := bd_s h
      refine aw_pf (pc' := 293) hC dX9_ahead_290 rfl fp_X9_32 g56 rfl trivial e59 ?_
      refine aw_sub hC [some (.inr (.inr v0)), some (.inl v1), some (.inl v2), some (.inl v3), some (.inl v4), some (.inl v5)] ⟨rfl, ⟨rfl, ⟨rfl, ⟨rfl, ⟨rfl, ⟨rfl, trivial⟩⟩⟩⟩⟩⟩ (Nat.le_of_ble_eq_true rfl) ?_
      exact w_X9_ahead_J293_204 hC h hL hX
set_option maxRecDepth 100000 in
set_option maxHeartbeats 4000000 in
theorem w_X9_ahead_J243_204 {Γ : AwC} (hC : AOK Γ RX9 cX9_ahead 6 2 0 0 "ahead" none) {sh : AwS} {M : AwM} {v0 : Int} {v1 : Int} {v2 : Int} {v3 : Int} {v4 : Int} {v5 : Int} {Q : State → Prop} {r : (Int × Int × AwM) ⊕ (Int × Int × AwM)} (h : fX9_ahead_J243_204 sh M v0 v1 v2 v3 v4 v5 = some r) (hL : ∀ s', r = .inl s' → p_X9_ahead_L204 Γ sh v0 v2 v3 v4 Q s') (hX : ∀ t, r = .inr t → x_X9_ahead_L204 Γ sh v0 v2 v3 v4 Q t) : AW Γ sh M 0 0 243 [some (.inr (.inr v0)), some (.inl v1), some (.inl v2), some (.inl v3), some (.inl v4), some (.inl v5)] [] Q := by
  unfold fX9_ahead_J243_204 at h
  refine aw_iload (pc' := 245) hC dX9_ahead_243 rfl rfl ?_
  refine aw_iload (pc' := 247) hC dX9_ahead_245 rfl rfl ?_
  refine aw_icmp_ne (tgt := 263) (pc' := 250) hC dX9_ahead_247 (by decide) rfl (fun c47 => ?_) (fun c47 => ?_)
  · replace h := it_n c47 h
    refine aw_sub hC [some (.inr (.inr v0)), some (.inl v1), some (.inl v2), some (.inl v3), some (.inl v4), some (.inl v5)] ⟨rfl, ⟨rfl, ⟨rfl, ⟨rfl, ⟨rfl, ⟨rfl, trivial⟩⟩⟩⟩⟩⟩ (Nat.le_of_ble_eq_true rfl) ?_
    exact w_X9_ahead_J263_204 hC h hL hX
  · replace h := it_p c47 h
    refine aw_aload_n (pc' := 251) (i := 0) hC dX9_ahead_250 rfl rfl rfl ?_
    obtain ⟨g60, h⟩ := gd_s h
    refine aw_getfield (pc' := 254) (v := (.inl (M v0 12))) hC dX9_ahead_251 rfl fl_X9_48 g60 rfl ?_
    refine aw_iconst (pc' := 255) hC dX9_ahead_254 rfl (by decide) ?_
    refine aw_icmp_ne (tgt := 263) (pc' := 258) hC dX9_ahead_255 (by decide) rfl (fun c61 => ?_) (fun c61 => ?_)
    · replace h := it_n c61 h
      refine aw_sub hC [some (.inr (.inr v0)), some (.inl v1), some (.inl v2), some (.inl v3), some (.inl v4), some (.inl v5)] ⟨rfl, ⟨rfl, ⟨rfl, ⟨rfl, ⟨rfl, ⟨rfl, trivial⟩⟩⟩⟩⟩⟩ (Nat.le_of_ble_eq_true rfl) ?_
      exact w_X9_ahead_J263_204 hC h hL hX
    · replace h := it_p c61 h
      refine aw_aload_n (pc' := 259) (i := 0) hC dX9_ahead_258 rfl rfl rfl ?_
      refine aw_iload_n (pc' := 260) (i := 1) hC dX9_ahead_259 rfl rfl rfl ?_
      obtain ⟨M62, e63, h⟩ := bd_s h
      refine aw_pf (pc' := 263) hC dX9_ahead_260 rfl fp_X9_48 g60 rfl trivial e63 ?_
      refine aw_sub hC [some (.inr (.inr v0)), some (.inl v1), some (.inl v2), some (.inl v3), some (.inl v4), some (.inl v5)] ⟨rfl, ⟨rfl, ⟨rfl, ⟨rfl, ⟨rfl, ⟨rfl, trivial⟩⟩⟩⟩⟩⟩ (Nat.le_of_ble_eq_true rfl) ?_
      exact w_X9_ahead_J263_204 hC h hL hX
set_option maxRecDepth 100000 in
set_option maxHeartbeats 4000000 in
theorem w_X9_ahead_L204 {Γ : AwC} (hC : AOK Γ RX9 cX9_ahead 6 2 0 0 "ahead" none) {sh : AwS} {v0 : Int} {v2 : Int} {v3 : Int} {v4 : Int} {Q : State → Prop} : ∀ s r, u3 (fX9_ahead_L204 sh v0 v2 v3 v4) s = some r → (∀ s', r = .inl s' → p_X9_ahead_L204 Γ sh v0 v2 v3 v4 Q s') → (∀ t, r = .inr t → x_X9_ahead_L204 Γ sh v0 v2 v3 v4 Q t) → p_X9_ahead_L204 Γ sh v0 v2 v3 v4 Q s := by
  intro s r h hL hX
  obtain ⟨v1, v5, M⟩ := s
  replace h := u3_s h
  unfold fX9_ahead_L204 at h
  show AW Γ sh M 0 0 204 [some (.inr (.inr v0)), some (.inl v1), some (.inl v2), some (.inl v3), some (.inl v4), some (.inl v5)] [] Q
  refine aw_iload_n (pc' := 205) (i := 1) hC dX9_ahead_204 rfl rfl rfl ?_
  refine aw_aload_n (pc' := 206) (i := 0) hC dX9_ahead_205 rfl rfl rfl ?_
  obtain ⟨g40, h⟩ := gd_s h
  refine aw_getfield (pc' := 209) (v := (.inl (M v0 2))) hC dX9_ahead_206 rfl fl_X9_17 g40 rfl ?_
  refine aw_icmp_ge (tgt := 334) (pc' := 212) hC dX9_ahead_209 (by decide) rfl (fun c41 => ?_) (fun c41 => ?_)
  · replace h := it_n c41 h
    refine aw_sub hC [some (.inr (.inr v0)), some (.inl v1), some (.inl v2), none, some (.inl v4), some (.inl v5)] ⟨rfl, ⟨rfl, ⟨rfl, ⟨rfl, ⟨rfl, trivial⟩⟩⟩⟩⟩ (Nat.le_of_ble_eq_true rfl) ?_
    cases h
    exact hX _ rfl
  · replace h := it_p c41 h
    refine aw_iload_n (pc' := 213) (i := 2) hC dX9_ahead_212 rfl rfl rfl ?_
    refine aw_if_eq (tgt := 231) (pc' := 216) hC dX9_ahead_213 (by decide) rfl (fun c42 => ?_) (fun c42 => ?_)
    · replace h := it_p c42 h
      refine aw_aload_n (pc' := 232) (i := 0) hC dX9_ahead_231 rfl rfl rfl ?_
      refine aw_getfield (pc' := 235) (v := (.inr (.inr (M v0 0)))) hC dX9_ahead_232 rfl fl_X9_7 g40 rfl ?_
      refine aw_iload_n (pc' := 236) (i := 1) hC dX9_ahead_235 rfl rfl rfl ?_
      obtain ⟨g43, h⟩ := gd_s h
      refine aw_iaload (pc' := 237) hC dX9_ahead_236 rfl g43 ?_
      obtain ⟨x45, q44, h⟩ := pb_s h
      replace h := u1_s h
      refine aw_cS (pc' := 240) (k2 := 0) (n2 := 0) (st := []) (stN := [.inl x45]) hC [.inl (M (M v0 0) v1)] (mX9_isDigit q44) lk_X9_244 dX9_ahead_237 rfl rfl (Nat.le_of_ble_eq_true rfl) (Nat.le_of_ble_eq_true rfl) (Nat.le_of_ble_eq_true rfl) rfl (Nat.le_of_ble_eq_true rfl) rfl rfl rfl ?_
      refine aw_if_eq (tgt := 334) (pc' := 243) hC dX9_ahead_240 (by decide) rfl (fun c46 => ?_) (fun c46 => ?_)
      · replace h := it_p c46 h
        refine aw_sub hC [some (.inr (.inr v0)), some (.inl v1), some (.inl v2), none, some (.inl v4), some (.inl v5)] ⟨rfl, ⟨rfl, ⟨rfl, ⟨rfl, ⟨rfl, trivial⟩⟩⟩⟩⟩ (Nat.le_of_ble_eq_true rfl) ?_
        cases h
        exact hX _ rfl
      · replace h := it_n c46 h
        refine aw_sub hC [some (.inr (.inr v0)), some (.inl v1), some (.inl v2), some (.inl v3), some (.inl v4), some (.inl v5)] ⟨rfl, ⟨rfl, ⟨rfl, ⟨rfl, ⟨rfl, ⟨rfl, trivial⟩⟩⟩⟩⟩⟩ (Nat.le_of_ble_eq_true rfl) ?_
        exact w_X9_ahead_J243_204 hC h hL hX
    · replace h := it_n c42 h
      refine aw_aload_n (pc' := 217) (i := 0) hC dX9_ahead_216 rfl rfl rfl ?_
      refine aw_getfield (pc' := 220) (v := (.inr (.inr (M v0 0)))) hC dX9_ahead_217 rfl fl_X9_7 g40 rfl ?_
      refine aw_iload_n (pc' := 221) (i := 1) hC dX9_ahead_220 rfl rfl rfl ?_
      obtain ⟨g64, h⟩ := gd_s h
      refine aw_iaload (pc' := 222) hC dX9_ahead_221 rfl g64 ?_
      obtain ⟨x66, q65, h⟩ := pb_s h
      replace h := u1_s h
      refine aw_cS (pc' := 225) (k2 := 0) (n2 := 0) (st := []) (stN := [.inl x66]) hC [.inl (M (M v0 0) v1)] (mX9_isLetter q65) lk_X9_240 dX9_ahead_222 rfl rfl (Nat.le_of_ble_eq_true rfl) (Nat.le_of_ble_eq_true rfl) (Nat.le_of_ble_eq_true rfl) rfl (Nat.le_of_ble_eq_true rfl) rfl rfl rfl ?_
      refine aw_if_eq (tgt := 334) (pc' := 228) hC dX9_ahead_225 (by decide) rfl (fun c67 => ?_) (fun c67 => ?_)
      · replace h := it_p c67 h
        refine aw_sub hC [some (.inr (.inr v0)), some (.inl v1), some (.inl v2), none, some (.inl v4), some (.inl v5)] ⟨rfl, ⟨rfl, ⟨rfl, ⟨rfl, ⟨rfl, trivial⟩⟩⟩⟩⟩ (Nat.le_of_ble_eq_true rfl) ?_
        cases h
        exact hX _ rfl
      · replace h := it_n c67 h
        refine aw_goto (tgt := 243) hC dX9_ahead_228 (by decide) ?_
        refine aw_sub hC [some (.inr (.inr v0)), some (.inl v1), some (.inl v2), some (.inl v3), some (.inl v4), some (.inl v5)] ⟨rfl, ⟨rfl, ⟨rfl, ⟨rfl, ⟨rfl, ⟨rfl, trivial⟩⟩⟩⟩⟩⟩ (Nat.le_of_ble_eq_true rfl) ?_
        exact w_X9_ahead_J243_204 hC h hL hX
set_option maxRecDepth 100000 in
set_option maxHeartbeats 4000000 in
theorem w_X9_ahead_J334 {Γ : AwC} (hC : AOK Γ RX9 cX9_ahead 6 2 0 0 "ahead" none) {sh : AwS} {M : AwM} {v0 : Int} {v1 : Int} {v2 : Int} {v4 : Int} {v5 : Int} {M' : AwM} (h : fX9_ahead_J334 sh M v0 v1 v2 v4 v5 = some M') {Q : State → Prop} (hQ : Q = (fin_ Γ 0 0 none sh M')) : AW Γ sh M 0 0 334 [some (.inr (.inr v0)), some (.inl v1), some (.inl v2), none, some (.inl v4), some (.inl v5)] [] Q := by
  unfold fX9_ahead_J334 at h
  refine aw_aload_n (pc' := 335) (i := 0) hC dX9_ahead_334 rfl rfl rfl ?_
  refine aw_iload_n (pc' := 336) (i := 1) hC dX9_ahead_335 rfl rfl rfl ?_
  obtain ⟨g72, h⟩ := gd_s h
  obtain ⟨M73, e74, h⟩ := bd_s h
  refine aw_pf (pc' := 339) hC dX9_ahead_336 rfl fp_X9_26 g72 rfl trivial e74 ?_
  refine aw_iload_n (pc' := 340) (i := 2) hC dX9_ahead_339 rfl rfl rfl ?_
  refine aw_if_eq (tgt := 380) (pc' := 343) hC dX9_ahead_340 (by decide) rfl (fun c75 => ?_) (fun c75 => ?_)
  · replace h := it_p c75 h
    cases h
    subst hQ
    exact aw_vret hC dX9_ahead_380 (Nat.le_of_ble_eq_true rfl) (Nat.le_of_ble_eq_true rfl)
  · replace h := it_n c75 h
    refine aw_iload (pc' := 345) hC dX9_ahead_343 rfl rfl ?_
    refine aw_bipush (pc' := 347) hC dX9_ahead_345 rfl (by decide) ?_
    refine aw_icmp_gt (tgt := 380) (pc' := 350) hC dX9_ahead_347 (by decide) rfl (fun c76 => ?_) (fun c76 => ?_)
    · replace h := it_p c76 h
      cases h
      subst hQ
      exact aw_vret hC dX9_ahead_380 (Nat.le_of_ble_eq_true rfl) (Nat.le_of_ble_eq_true rfl)
    · replace h := it_n c76 h
      refine aw_aload_n (pc' := 351) (i := 0) hC dX9_ahead_350 rfl rfl rfl ?_
      refine aw_getfield (pc' := 354) (v := (.inl (M73 v0 12))) hC dX9_ahead_351 rfl fl_X9_48 g72 rfl ?_
      refine aw_aload_n (pc' := 355) (i := 0) hC dX9_ahead_354 rfl rfl rfl ?_
      refine aw_getfield (pc' := 358) (v := (.inl (M73 v0 4))) hC dX9_ahead_355 rfl fl_X9_23 g72 rfl ?_
      refine aw_iload (pc' := 360) hC dX9_ahead_358 rfl rfl ?_
      refine aw_iadd (pc' := 361) hC dX9_ahead_360 rfl  ?_
      refine aw_icmp_ne (tgt := 380) (pc' := 364) hC dX9_ahead_361 (by decide) rfl (fun c77 => ?_) (fun c77 => ?_)
      · replace h := it_n c77 h
        cases h
        subst hQ
        exact aw_vret hC dX9_ahead_380 (Nat.le_of_ble_eq_true rfl) (Nat.le_of_ble_eq_true rfl)
      · replace h := it_p c77 h
        refine aw_aload_n (pc' := 365) (i := 0) hC dX9_ahead_364 rfl rfl rfl ?_
        refine aw_aload_n (pc' := 366) (i := 0) hC dX9_ahead_365 rfl rfl rfl ?_
        refine aw_getfield (pc' := 369) (v := (.inr (.inl (M73 v0 7)))) hC dX9_ahead_366 rfl fl_X9_32 g72 rfl ?_
        obtain ⟨x79, q78, h⟩ := pb_s h
        replace h := u1_s h
        refine aw_cV (pc' := 372) (k2 := 0) (n2 := 0) (st := []) (stN := [.inl x79]) hC [.inr (.inl (M73 v0 7))] (mX9_isOwn q78) lk_X9_247 g72 dX9_ahead_369 rfl rfl (Nat.le_of_ble_eq_true rfl) (Nat.le_of_ble_eq_true rfl) (Nat.le_of_ble_eq_true rfl) rfl (Nat.le_of_ble_eq_true rfl) rfl rfl rfl ?_
        refine aw_if_eq (tgt := 380) (pc' := 375) hC dX9_ahead_372 (by decide) rfl (fun c80 => ?_) (fun c80 => ?_)
        · replace h := it_p c80 h
          cases h
          subst hQ
          exact aw_vret hC dX9_ahead_380 (Nat.le_of_ble_eq_true rfl) (Nat.le_of_ble_eq_true rfl)
        · replace h := it_n c80 h
          refine aw_aload_n (pc' := 376) (i := 0) hC dX9_ahead_375 rfl rfl rfl ?_
          refine aw_iconst (pc' := 377) hC dX9_ahead_376 rfl (by decide) ?_
          obtain ⟨M81, e82, h⟩ := bd_s h
          refine aw_pf (pc' := 380) hC dX9_ahead_377 rfl fp_X9_48 g72 rfl trivial e82 ?_
          cases h
          subst hQ
          exact aw_vret hC dX9_ahead_380 (Nat.le_of_ble_eq_true rfl) (Nat.le_of_ble_eq_true rfl)
set_option maxRecDepth 100000 in
set_option maxHeartbeats 4000000 in
theorem w_X9_ahead_J186 {Γ : AwC} (hC : AOK Γ RX9 cX9_ahead 6 2 0 0 "ahead" none) {sh : AwS} {M : AwM} {v0 : Int} {v1 : Int} {v2 : Int} {v3 : Int} {s0 : Int} {s1 : Int} {M' : AwM} (h : fX9_ahead_J186 sh M v0 v1 v2 v3 s0 s1 = some M') {Q : State → Prop} (hQ : Q = (fin_ Γ 0 0 none sh M')) : AW Γ sh M 0 0 186 [some (.inr (.inr v0)), some (.inl v1), some (.inl v2), some (.inl v3), none, none] [.inl s1, .inr (.inr s0)] Q := by
  unfold fX9_ahead_J186 at h
  obtain ⟨g36, h⟩ := gd_s h
  obtain ⟨M37, e38, h⟩ := bd_s h
  refine aw_pf (pc' := 189) hC dX9_ahead_186 rfl fp_X9_20 g36 rfl trivial e38 ?_
  refine aw_iload_n (pc' := 190) (i := 2) hC dX9_ahead_189 rfl rfl rfl ?_
  refine aw_if_eq (tgt := 198) (pc' := 193) hC dX9_ahead_190 (by decide) rfl (fun c39 => ?_) (fun c39 => ?_)
  · replace h := it_p c39 h
    refine aw_iconst (pc' := 199) hC dX9_ahead_198 rfl (by decide) ?_
    refine aw_istore (pc' := 201) (ls' := [some (.inr (.inr v0)), some (.inl v1), some (.inl v2), some (.inl v3), some (.inl 4), none]) hC dX9_ahead_199 rfl (Nat.le_of_ble_eq_true rfl) rfl rfl ?_
    refine aw_iconst (pc' := 202) hC dX9_ahead_201 rfl (by decide) ?_
    refine aw_istore (pc' := 204) (ls' := [some (.inr (.inr v0)), some (.inl v1), some (.inl v2), some (.inl v3), some (.inl 4), some (.inl 0)]) hC dX9_ahead_202 rfl (Nat.le_of_ble_eq_true rfl) rfl rfl ?_
    obtain ⟨tq68, q68, h⟩ := pb_s h
    refine aw_sub hC [some (.inr (.inr v0)), some (.inl v1), some (.inl v2), some (.inl v3), some (.inl 4), some (.inl 0)] ⟨rfl, ⟨rfl, ⟨rfl, ⟨rfl, ⟨rfl, ⟨rfl, trivial⟩⟩⟩⟩⟩⟩ (Nat.le_of_ble_eq_true rfl) ?_
    refine (lp_aw (p_X9_ahead_L204 Γ sh v0 v2 v3 4 Q) (x_X9_ahead_L204 Γ sh v0 v2 v3 4 Q) (w_X9_ahead_L204 hC ) FU _ _ q68 ?_ : p_X9_ahead_L204 Γ sh v0 v2 v3 4 Q (v1, 0, M37))
    obtain ⟨x69, x70, M71⟩ := tq68
    replace h := u3_s h
    show AW Γ sh M71 0 0 334 [some (.inr (.inr v0)), some (.inl x69), some (.inl v2), none, some (.inl 4), some (.inl x70)] [] _
    refine aw_sub hC [some (.inr (.inr v0)), some (.inl x69), some (.inl v2), none, some (.inl 4), some (.inl x70)] ⟨rfl, ⟨rfl, ⟨rfl, ⟨rfl, ⟨rfl, trivial⟩⟩⟩⟩⟩ (Nat.le_of_ble_eq_true rfl) ?_
    exact w_X9_ahead_J334 hC h hQ
  · replace h := it_n c39 h
    refine aw_bipush (pc' := 195) hC dX9_ahead_193 rfl (by decide) ?_
    refine aw_goto (tgt := 199) hC dX9_ahead_195 (by decide) ?_
    refine aw_istore (pc' := 201) (ls' := [some (.inr (.inr v0)), some (.inl v1), some (.inl v2), some (.inl v3), some (.inl 6), none]) hC dX9_ahead_199 rfl (Nat.le_of_ble_eq_true rfl) rfl rfl ?_
    refine aw_iconst (pc' := 202) hC dX9_ahead_201 rfl (by decide) ?_
    refine aw_istore (pc' := 204) (ls' := [some (.inr (.inr v0)), some (.inl v1), some (.inl v2), some (.inl v3), some (.inl 6), some (.inl 0)]) hC dX9_ahead_202 rfl (Nat.le_of_ble_eq_true rfl) rfl rfl ?_
    obtain ⟨tq83, q83, h⟩ := pb_s h
    refine aw_sub hC [some (.inr (.inr v0)), some (.inl v1), some (.inl v2), some (.inl v3), some (.inl 6), some (.inl 0)] ⟨rfl, ⟨rfl, ⟨rfl, ⟨rfl, ⟨rfl, ⟨rfl, trivial⟩⟩⟩⟩⟩⟩ (Nat.le_of_ble_eq_true rfl) ?_
    refine (lp_aw (p_X9_ahead_L204 Γ sh v0 v2 v3 6 Q) (x_X9_ahead_L204 Γ sh v0 v2 v3 6 Q) (w_X9_ahead_L204 hC ) FU _ _ q83 ?_ : p_X9_ahead_L204 Γ sh v0 v2 v3 6 Q (v1, 0, M37))
    obtain ⟨x84, x85, M86⟩ := tq83
    replace h := u3_s h
    show AW Γ sh M86 0 0 334 [some (.inr (.inr v0)), some (.inl x84), some (.inl v2), none, some (.inl 6), some (.inl x85)] [] _
    refine aw_sub hC [some (.inr (.inr v0)), some (.inl x84), some (.inl v2), none, some (.inl 6), some (.inl x85)] ⟨rfl, ⟨rfl, ⟨rfl, ⟨rfl, ⟨rfl, trivial⟩⟩⟩⟩⟩ (Nat.le_of_ble_eq_true rfl) ?_
    exact w_X9_ahead_J334 hC h hQ
set_option maxRecDepth 100000 in
set_option maxHeartbeats 4000000 in
theorem w_X9_ahead_J176 {Γ : AwC} (hC : AOK Γ RX9 cX9_ahead 6 2 0 0 "ahead" none) {sh : AwS} {M : AwM} {v0 : Int} {v1 : Int} {v2 : Int} {v3 : Int} {M' : AwM} (h : fX9_ahead_J176 sh M v0 v1 v2 v3 = some M') {Q : State → Prop} (hQ : Q = (fin_ Γ 0 0 none sh M')) : AW Γ sh M 0 0 176 [some (.inr (.inr v0)), some (.inl v1), some (.inl v2), some (.inl v3), none, none] [] Q := by
  unfold fX9_ahead_J176 at h
  refine aw_aload_n (pc' := 177) (i := 0) hC dX9_ahead_176 rfl rfl rfl ?_
  refine aw_iload_n (pc' := 178) (i := 2) hC dX9_ahead_177 rfl rfl rfl ?_
  refine aw_if_eq (tgt := 185) (pc' := 181) hC dX9_ahead_178 (by decide) rfl (fun c35 => ?_) (fun c35 => ?_)
  · replace h := it_p c35 h
    refine aw_iconst (pc' := 186) hC dX9_ahead_185 rfl (by decide) ?_
    refine aw_sub hC [some (.inr (.inr v0)), some (.inl v1), some (.inl v2), some (.inl v3), none, none] ⟨rfl, ⟨rfl, ⟨rfl, ⟨rfl, trivial⟩⟩⟩⟩ (Nat.le_of_ble_eq_true rfl) ?_
    exact w_X9_ahead_J186 hC h hQ
  · replace h := it_n c35 h
    refine aw_iconst (pc' := 182) hC dX9_ahead_181 rfl (by decide) ?_
    refine aw_goto (tgt := 186) hC dX9_ahead_182 (by decide) ?_
    refine aw_sub hC [some (.inr (.inr v0)), some (.inl v1), some (.inl v2), some (.inl v3), none, none] ⟨rfl, ⟨rfl, ⟨rfl, ⟨rfl, trivial⟩⟩⟩⟩ (Nat.le_of_ble_eq_true rfl) ?_
    exact w_X9_ahead_J186 hC h hQ
set_option maxRecDepth 100000 in
set_option maxHeartbeats 4000000 in
theorem w_X9_ahead_J135 {Γ : AwC} (hC : AOK Γ RX9 cX9_ahead 6 2 0 0 "ahead" none) {sh : AwS} {M : AwM} {v0 : Int} {v1 : Int} {v2 : Int} {v3 : Int} {M' : AwM} (h : fX9_ahead_J135 sh M v0 v1 v2 v3 = some M') {Q : State → Prop} (hQ : Q = (fin_ Γ 0 0 none sh M')) : AW Γ sh M 0 0 135 [some (.inr (.inr v0)), some (.inl v1), some (.inl v2), some (.inl v3), none, none] [] Q := by
  unfold fX9_ahead_J135 at h
  refine aw_aload_n (pc' := 136) (i := 0) hC dX9_ahead_135 rfl rfl rfl ?_
  refine aw_iconst (pc' := 137) hC dX9_ahead_136 rfl (by decide) ?_
  obtain ⟨g25, h⟩ := gd_s h
  obtain ⟨M26, e27, h⟩ := bd_s h
  refine aw_pf (pc' := 140) hC dX9_ahead_137 rfl fp_X9_29 g25 rfl trivial e27 ?_
  refine aw_aload_n (pc' := 141) (i := 0) hC dX9_ahead_140 rfl rfl rfl ?_
  refine aw_lconst (pc' := 142) (v := 0) hC dX9_ahead_141 rfl rfl (by decide) ?_
  obtain ⟨M28, e29, h⟩ := bd_s h
  refine aw_pf (pc' := 145) hC dX9_ahead_142 rfl fp_X9_32 g25 rfl trivial e29 ?_
  refine aw_aload_n (pc' := 146) (i := 0) hC dX9_ahead_145 rfl rfl rfl ?_
  refine aw_iconst (pc' := 147) hC dX9_ahead_146 rfl (by decide) ?_
  obtain ⟨M30, e31, h⟩ := bd_s h
  refine aw_pf (pc' := 150) hC dX9_ahead_147 rfl fp_X9_20 g25 rfl trivial e31 ?_
  refine aw_aload_n (pc' := 151) (i := 0) hC dX9_ahead_150 rfl rfl rfl ?_
  refine aw_iload_n (pc' := 152) (i := 1) hC dX9_ahead_151 rfl rfl rfl ?_
  refine aw_iconst (pc' := 153) hC dX9_ahead_152 rfl (by decide) ?_
  refine aw_iadd (pc' := 154) hC dX9_ahead_153 rfl  ?_
  obtain ⟨M32, e33, h⟩ := bd_s h
  refine aw_pf (pc' := 157) hC dX9_ahead_154 rfl fp_X9_26 g25 rfl trivial e33 ?_
  refine aw_iload_n (pc' := 158) (i := 2) hC dX9_ahead_157 rfl rfl rfl ?_
  refine aw_if_ne (tgt := 176) (pc' := 161) hC dX9_ahead_158 (by decide) rfl (fun c34 => ?_) (fun c34 => ?_)
  · replace h := it_n c34 h
    refine aw_sub hC [some (.inr (.inr v0)), some (.inl v1), some (.inl v2), some (.inl v3), none, none] ⟨rfl, ⟨rfl, ⟨rfl, ⟨rfl, trivial⟩⟩⟩⟩ (Nat.le_of_ble_eq_true rfl) ?_
    exact w_X9_ahead_J176 hC h hQ
  · replace h := it_p c34 h
    refine aw_iload_n (pc' := 162) (i := 3) hC dX9_ahead_161 rfl rfl rfl ?_
    refine aw_if_ne (tgt := 176) (pc' := 165) hC dX9_ahead_162 (by decide) rfl (fun c87 => ?_) (fun c87 => ?_)
    · replace h := it_n c87 h
      refine aw_sub hC [some (.inr (.inr v0)), some (.inl v1), some (.inl v2), some (.inl v3), none, none] ⟨rfl, ⟨rfl, ⟨rfl, ⟨rfl, trivial⟩⟩⟩⟩ (Nat.le_of_ble_eq_true rfl) ?_
      exact w_X9_ahead_J176 hC h hQ
    · replace h := it_p c87 h
      refine aw_aload_n (pc' := 166) (i := 0) hC dX9_ahead_165 rfl rfl rfl ?_
      refine aw_aload_n (pc' := 167) (i := 0) hC dX9_ahead_166 rfl rfl rfl ?_
      refine aw_getfield (pc' := 170) (v := (.inr (.inr (M32 v0 0)))) hC dX9_ahead_167 rfl fl_X9_7 g25 rfl ?_
      refine aw_iload_n (pc' := 171) (i := 1) hC dX9_ahead_170 rfl rfl rfl ?_
      obtain ⟨g88, h⟩ := gd_s h
      refine aw_iaload (pc' := 172) hC dX9_ahead_171 rfl g88 ?_
      obtain ⟨M89, e90, h⟩ := bd_s h
      refine aw_pf (pc' := 175) hC dX9_ahead_172 rfl fp_X9_29 g25 rfl trivial e90 ?_
      cases h
      subst hQ
      exact aw_vret hC dX9_ahead_175 (Nat.le_of_ble_eq_true rfl) (Nat.le_of_ble_eq_true rfl)
set_option maxRecDepth 100000 in
set_option maxHeartbeats 4000000 in
theorem w_X9_ahead_J130 {Γ : AwC} (hC : AOK Γ RX9 cX9_ahead 6 2 0 0 "ahead" none) {sh : AwS} {M : AwM} {v0 : Int} {v1 : Int} {v2 : Int} {v3 : Int} {M' : AwM} (h : fX9_ahead_J130 sh M v0 v1 v2 v3 = some M') {Q : State → Prop} (hQ : Q = (fin_ Γ 0 0 none sh M')) : AW Γ sh M 0 0 130 [some (.inr (.inr v0)), some (.inl v1), some (.inl v2), some (.inl v3), none, none] [] Q := by
  unfold fX9_ahead_J130 at h
  refine aw_aload_n (pc' := 131) (i := 0) hC dX9_ahead_130 rfl rfl rfl ?_
  refine aw_iload_n (pc' := 132) (i := 1) hC dX9_ahead_131 rfl rfl rfl ?_
  obtain ⟨g96, h⟩ := gd_s h
  obtain ⟨M97, e98, h⟩ := bd_s h
  refine aw_pf (pc' := 135) hC dX9_ahead_132 rfl fp_X9_48 g96 rfl trivial e98 ?_
  refine aw_sub hC [some (.inr (.inr v0)), some (.inl v1), some (.inl v2), some (.inl v3), none, none] ⟨rfl, ⟨rfl, ⟨rfl, ⟨rfl, trivial⟩⟩⟩⟩ (Nat.le_of_ble_eq_true rfl) ?_
  exact w_X9_ahead_J135 hC h hQ
set_option maxRecDepth 100000 in
set_option maxHeartbeats 4000000 in
theorem w_X9_ahead_J98 {Γ : AwC} (hC : AOK Γ RX9 cX9_ahead 6 2 0 0 "ahead" none) {sh : AwS} {M : AwM} {v0 : Int} {v1 : Int} {v2 : Int} {v3 : Int} {M' : AwM} (h : fX9_ahead_J98 sh M v0 v1 v2 v3 = some M') {Q : State → Prop} (hQ : Q = (fin_ Γ 0 0 none sh M')) : AW Γ sh M 0 0 98 [some (.inr (.inr v0)), some (.inl v1), some (.inl v2), some (.inl v3), none, none] [] Q := by
  unfold fX9_ahead_J98 at h
  refine aw_iload_n (pc' := 99) (i := 1) hC dX9_ahead_98 rfl rfl rfl ?_
  refine aw_if_le (tgt := 135) (pc' := 102) hC dX9_ahead_99 (by decide) rfl (fun c24 => ?_) (fun c24 => ?_)
  · replace h := it_n c24 h
    refine aw_sub hC [some (.inr (.inr v0)), some (.inl v1), some (.inl v2), some (.inl v3), none, none] ⟨rfl, ⟨rfl, ⟨rfl, ⟨rfl, trivial⟩⟩⟩⟩ (Nat.le_of_ble_eq_true rfl) ?_
    exact w_X9_ahead_J135 hC h hQ
  · replace h := it_p c24 h
    refine aw_aload_n (pc' := 103) (i := 0) hC dX9_ahead_102 rfl rfl rfl ?_
    obtain ⟨g91, h⟩ := gd_s h
    refine aw_getfield (pc' := 106) (v := (.inr (.inr (M v0 0)))) hC dX9_ahead_103 rfl fl_X9_7 g91 rfl ?_
    refine aw_iload_n (pc' := 107) (i := 1) hC dX9_ahead_106 rfl rfl rfl ?_
    refine aw_iconst (pc' := 108) hC dX9_ahead_107 rfl (by decide) ?_
    refine aw_isub (pc' := 109) hC dX9_ahead_108 rfl  ?_
    obtain ⟨g92, h⟩ := gd_s h
    refine aw_iaload (pc' := 110) hC dX9_ahead_109 rfl g92 ?_
    obtain ⟨x94, q93, h⟩ := pb_s h
    replace h := u1_s h
    refine aw_cS (pc' := 113) (k2 := 0) (n2 := 0) (st := []) (stN := [.inl x94]) hC [.inl (M (M v0 0) (w32 (v1 - 1)))] (mX9_isLetter q93) lk_X9_240 dX9_ahead_110 rfl rfl (Nat.le_of_ble_eq_true rfl) (Nat.le_of_ble_eq_true rfl) (Nat.le_of_ble_eq_true rfl) rfl (Nat.le_of_ble_eq_true rfl) rfl rfl rfl ?_
    refine aw_if_ne (tgt := 130) (pc' := 116) hC dX9_ahead_113 (by decide) rfl (fun c95 => ?_) (fun c95 => ?_)
    · replace h := it_n c95 h
      refine aw_sub hC [some (.inr (.inr v0)), some (.inl v1), some (.inl v2), some (.inl v3), none, none] ⟨rfl, ⟨rfl, ⟨rfl, ⟨rfl, trivial⟩⟩⟩⟩ (Nat.le_of_ble_eq_true rfl) ?_
      exact w_X9_ahead_J130 hC h hQ
    · replace h := it_p c95 h
      refine aw_aload_n (pc' := 117) (i := 0) hC dX9_ahead_116 rfl rfl rfl ?_
      refine aw_getfield (pc' := 120) (v := (.inr (.inr (M v0 0)))) hC dX9_ahead_117 rfl fl_X9_7 g91 rfl ?_
      refine aw_iload_n (pc' := 121) (i := 1) hC dX9_ahead_120 rfl rfl rfl ?_
      refine aw_iconst (pc' := 122) hC dX9_ahead_121 rfl (by decide) ?_
      refine aw_isub (pc' := 123) hC dX9_ahead_122 rfl  ?_
      refine aw_iaload (pc' := 124) hC dX9_ahead_123 rfl g92 ?_
      obtain ⟨x100, q99, h⟩ := pb_s h
      replace h := u1_s h
      refine aw_cS (pc' := 127) (k2 := 0) (n2 := 0) (st := []) (stN := [.inl x100]) hC [.inl (M (M v0 0) (w32 (v1 - 1)))] (mX9_isDigit q99) lk_X9_244 dX9_ahead_124 rfl rfl (Nat.le_of_ble_eq_true rfl) (Nat.le_of_ble_eq_true rfl) (Nat.le_of_ble_eq_true rfl) rfl (Nat.le_of_ble_eq_true rfl) rfl rfl rfl ?_
      refine aw_if_eq (tgt := 135) (pc' := 130) hC dX9_ahead_127 (by decide) rfl (fun c101 => ?_) (fun c101 => ?_)
      · replace h := it_p c101 h
        refine aw_sub hC [some (.inr (.inr v0)), some (.inl v1), some (.inl v2), some (.inl v3), none, none] ⟨rfl, ⟨rfl, ⟨rfl, ⟨rfl, trivial⟩⟩⟩⟩ (Nat.le_of_ble_eq_true rfl) ?_
        exact w_X9_ahead_J135 hC h hQ
      · replace h := it_n c101 h
        refine aw_sub hC [some (.inr (.inr v0)), some (.inl v1), some (.inl v2), some (.inl v3), none, none] ⟨rfl, ⟨rfl, ⟨rfl, ⟨rfl, trivial⟩⟩⟩⟩ (Nat.le_of_ble_eq_true rfl) ?_
        exact w_X9_ahead_J130 hC h hQ
set_option maxRecDepth 100000 in
set_option maxHeartbeats 4000000 in
theorem w_X9_ahead_J41 {Γ : AwC} (hC : AOK Γ RX9 cX9_ahead 6 2 0 0 "ahead" none) {sh : AwS} {M : AwM} {v0 : Int} {v1 : Int} {M' : AwM} (h : fX9_ahead_J41 sh M v0 v1 = some M') {Q : State → Prop} (hQ : Q = (fin_ Γ 0 0 none sh M')) : AW Γ sh M 0 0 41 [some (.inr (.inr v0)), some (.inl v1), none, none, none, none] [] Q := by
  unfold fX9_ahead_J41 at h
  refine aw_aload_n (pc' := 42) (i := 0) hC dX9_ahead_41 rfl rfl rfl ?_
  refine aw_iload_n (pc' := 43) (i := 1) hC dX9_ahead_42 rfl rfl rfl ?_
  obtain ⟨g8, h⟩ := gd_s h
  obtain ⟨M9, e10, h⟩ := bd_s h
  refine aw_pf (pc' := 46) hC dX9_ahead_43 rfl fp_X9_23 g8 rfl trivial e10 ?_
  refine aw_aload_n (pc' := 47) (i := 0) hC dX9_ahead_46 rfl rfl rfl ?_
  refine aw_iload_n (pc' := 48) (i := 1) hC dX9_ahead_47 rfl rfl rfl ?_
  obtain ⟨M11, e12, h⟩ := bd_s h
  refine aw_pf (pc' := 51) hC dX9_ahead_48 rfl fp_X9_26 g8 rfl trivial e12 ?_
  refine aw_aload_n (pc' := 52) (i := 0) hC dX9_ahead_51 rfl rfl rfl ?_
  refine aw_iconst (pc' := 53) hC dX9_ahead_52 rfl (by decide) ?_
  obtain ⟨M13, e14, h⟩ := bd_s h
  refine aw_pf (pc' := 56) hC dX9_ahead_53 rfl fp_X9_20 g8 rfl trivial e14 ?_
  refine aw_aload_n (pc' := 57) (i := 0) hC dX9_ahead_56 rfl rfl rfl ?_
  refine aw_iconst (pc' := 58) hC dX9_ahead_57 rfl (by decide) ?_
  obtain ⟨M15, e16, h⟩ := bd_s h
  refine aw_pf (pc' := 61) hC dX9_ahead_58 rfl fp_X9_48 g8 rfl trivial e16 ?_
  refine aw_iload_n (pc' := 62) (i := 1) hC dX9_ahead_61 rfl rfl rfl ?_
  refine aw_aload_n (pc' := 63) (i := 0) hC dX9_ahead_62 rfl rfl rfl ?_
  refine aw_getfield (pc' := 66) (v := (.inl (M15 v0 2))) hC dX9_ahead_63 rfl fl_X9_17 g8 rfl ?_
  refine aw_icmp_lt (tgt := 70) (pc' := 69) hC dX9_ahead_66 (by decide) rfl (fun c17 => ?_) (fun c17 => ?_)
  · replace h := it_p c17 h
    refine aw_aload_n (pc' := 71) (i := 0) hC dX9_ahead_70 rfl rfl rfl ?_
    refine aw_getfield (pc' := 74) (v := (.inr (.inr (M15 v0 0)))) hC dX9_ahead_71 rfl fl_X9_7 g8 rfl ?_
    refine aw_iload_n (pc' := 75) (i := 1) hC dX9_ahead_74 rfl rfl rfl ?_
    obtain ⟨g18, h⟩ := gd_s h
    refine aw_iaload (pc' := 76) hC dX9_ahead_75 rfl g18 ?_
    obtain ⟨x20, q19, h⟩ := pb_s h
    replace h := u1_s h
    refine aw_cS (pc' := 79) (k2 := 0) (n2 := 0) (st := []) (stN := [.inl x20]) hC [.inl (M15 (M15 v0 0) v1)] (mX9_isLetter q19) lk_X9_240 dX9_ahead_76 rfl rfl (Nat.le_of_ble_eq_true rfl) (Nat.le_of_ble_eq_true rfl) (Nat.le_of_ble_eq_true rfl) rfl (Nat.le_of_ble_eq_true rfl) rfl rfl rfl ?_
    refine aw_istore_n (pc' := 80) (i := 2) (ls' := [some (.inr (.inr v0)), some (.inl v1), some (.inl x20), none, none, none]) hC dX9_ahead_79 rfl rfl (Nat.le_of_ble_eq_true rfl) rfl rfl ?_
    refine aw_aload_n (pc' := 81) (i := 0) hC dX9_ahead_80 rfl rfl rfl ?_
    refine aw_getfield (pc' := 84) (v := (.inr (.inr (M15 v0 0)))) hC dX9_ahead_81 rfl fl_X9_7 g8 rfl ?_
    refine aw_iload_n (pc' := 85) (i := 1) hC dX9_ahead_84 rfl rfl rfl ?_
    refine aw_iaload (pc' := 86) hC dX9_ahead_85 rfl g18 ?_
    obtain ⟨x22, q21, h⟩ := pb_s h
    replace h := u1_s h
    refine aw_cS (pc' := 89) (k2 := 0) (n2 := 0) (st := []) (stN := [.inl x22]) hC [.inl (M15 (M15 v0 0) v1)] (mX9_isDigit q21) lk_X9_244 dX9_ahead_86 rfl rfl (Nat.le_of_ble_eq_true rfl) (Nat.le_of_ble_eq_true rfl) (Nat.le_of_ble_eq_true rfl) rfl (Nat.le_of_ble_eq_true rfl) rfl rfl rfl ?_
    refine aw_istore_n (pc' := 90) (i := 3) (ls' := [some (.inr (.inr v0)), some (.inl v1), some (.inl x20), some (.inl x22), none, none]) hC dX9_ahead_89 rfl rfl (Nat.le_of_ble_eq_true rfl) rfl rfl ?_
    refine aw_iload_n (pc' := 91) (i := 2) hC dX9_ahead_90 rfl rfl rfl ?_
    refine aw_if_ne (tgt := 98) (pc' := 94) hC dX9_ahead_91 (by decide) rfl (fun c23 => ?_) (fun c23 => ?_)
    · replace h := it_n c23 h
      refine aw_sub hC [some (.inr (.inr v0)), some (.inl v1), some (.inl x20), some (.inl x22), none, none] ⟨rfl, ⟨rfl, ⟨rfl, ⟨rfl, trivial⟩⟩⟩⟩ (Nat.le_of_ble_eq_true rfl) ?_
      exact w_X9_ahead_J98 hC h hQ
    · replace h := it_p c23 h
      refine aw_iload_n (pc' := 95) (i := 3) hC dX9_ahead_94 rfl rfl rfl ?_
      refine aw_if_eq (tgt := 135) (pc' := 98) hC dX9_ahead_95 (by decide) rfl (fun c102 => ?_) (fun c102 => ?_)
      · replace h := it_p c102 h
        refine aw_sub hC [some (.inr (.inr v0)), some (.inl v1), some (.inl x20), some (.inl x22), none, none] ⟨rfl, ⟨rfl, ⟨rfl, ⟨rfl, trivial⟩⟩⟩⟩ (Nat.le_of_ble_eq_true rfl) ?_
        exact w_X9_ahead_J135 hC h hQ
      · replace h := it_n c102 h
        refine aw_sub hC [some (.inr (.inr v0)), some (.inl v1), some (.inl x20), some (.inl x22), none, none] ⟨rfl, ⟨rfl, ⟨rfl, ⟨rfl, trivial⟩⟩⟩⟩ (Nat.le_of_ble_eq_true rfl) ?_
        exact w_X9_ahead_J98 hC h hQ
  · replace h := it_n c17 h
    cases h
    subst hQ
    exact aw_vret hC dX9_ahead_69 (Nat.le_of_ble_eq_true rfl) (Nat.le_of_ble_eq_true rfl)
set_option maxRecDepth 100000 in
set_option maxHeartbeats 4000000 in
theorem mX9_ahead {sh : AwS} {M : AwM} {v0 : Int} {M' : AwM} (h : fX9_ahead sh M v0 = some M') : AMet yX9_ahead cX9_ahead 6 none 2 0 0 [.inr (.inr v0)] sh M none sh M' := by
  refine amet_of (by decide +kernel) (Nat.le_of_ble_eq_true rfl) (fun Γ hC => ?_)
  replace hC : AOK Γ RX9 cX9_ahead 6 2 0 0 "ahead" none := hC
  unfold fX9_ahead at h
  refine aw_sub hC [some (.inr (.inr v0)), none, none, none, none, none] ⟨rfl, trivial⟩ (Nat.le_of_ble_eq_true rfl) ?_
  refine aw_aload_n (pc' := 1) (i := 0) hC dX9_ahead_0 rfl rfl rfl ?_
  obtain ⟨g1, h⟩ := gd_s h
  refine aw_getfield (pc' := 4) (v := (.inl (M v0 5))) hC dX9_ahead_1 rfl fl_X9_26 g1 rfl ?_
  refine aw_istore_n (pc' := 5) (i := 1) (ls' := [some (.inr (.inr v0)), some (.inl (M v0 5)), none, none, none, none]) hC dX9_ahead_4 rfl rfl (Nat.le_of_ble_eq_true rfl) rfl rfl ?_
  obtain ⟨tq7, q7, h⟩ := pb_s h
  refine aw_sub hC [some (.inr (.inr v0)), some (.inl (M v0 5)), none, none, none, none] ⟨rfl, ⟨rfl, trivial⟩⟩ (Nat.le_of_ble_eq_true rfl) ?_
  refine (lp_aw (p_X9_ahead_L5 Γ sh M v0 (fin_ Γ 0 0 none sh M')) (x_X9_ahead_L5 Γ sh M v0 (fin_ Γ 0 0 none sh M')) (w_X9_ahead_L5 hC ) FU _ _ q7 ?_ : p_X9_ahead_L5 Γ sh M v0 (fin_ Γ 0 0 none sh M') (M v0 5))
  replace h := u1_s h
  show AW Γ sh M 0 0 41 [some (.inr (.inr v0)), some (.inl tq7), none, none, none, none] [] _
  refine aw_sub hC [some (.inr (.inr v0)), some (.inl tq7), none, none, none, none] ⟨rfl, ⟨rfl, trivial⟩⟩ (Nat.le_of_ble_eq_true rfl) ?_
  exact w_X9_ahead_J41 hC h rfl
