/-! the abstract walk: instructions that touch no heap -/
section AWR
variable {Γ : AwC} {own nm : String} {cc : ByteArray} {nL d kc nc : Nat} {rt : Option FieldType} {sh : AwS} {M : AwM} {k n pc pc' : Nat} {ls ls' : List (Option AwV)} {st : List AwV} {Q : State → Prop}

theorem okc {a : AwV} {st : List AwV} (ha : ok_ a) (h : ∀ v ∈ st, ok_ v) : ∀ v ∈ a :: st, ok_ v := fun v hv => by
  rcases List.mem_cons.mp hv with rfl | h1
  · exact ha
  · exact h v h1
theorem ok1 {a : AwV} {st : List AwV} (h : ∀ v ∈ a :: st, ok_ v) : ok_ a ∧ ∀ v ∈ st, ok_ v := ⟨h a List.mem_cons_self, fun v hv => h v (List.mem_cons_of_mem _ hv)⟩
theorem aw_iadd (hC : AOK Γ own cc nL d kc nc nm rt) {x y : Int} (hd : decode cc pc = .ok (.iadd, 1)) (hp : pc + 1 = pc') (kk : AW Γ sh M k n pc' ls (.inl (w32 (x + y)) :: st) Q) : AW Γ sh M k n pc ls (.inl y :: .inl x :: st) Q := by
  subst hp
  obtain ⟨⟨p, l, e, R⟩, ⟨s, m, args, below⟩, ⟨meth, c⟩, G⟩ := Γ
  intro H locs lsA hr hS hL hst
  obtain ⟨hy, h1⟩ := ok1 hst
  obtain ⟨hx, h2⟩ := ok1 h1
  refine lv_iadd hC.1 hC.2.1 hd ?_
  rw [i32_add]
  exact kk H locs lsA hr hS hL (okc (w32_in _) h2)
theorem aw_ladd (hC : AOK Γ own cc nL d kc nc nm rt) {x y : Int} (hd : decode cc pc = .ok (.ladd, 1)) (hp : pc + 1 = pc') (kk : AW Γ sh M k n pc' ls (.inr (.inl (w64 (x + y))) :: st) Q) : AW Γ sh M k n pc ls (.inr (.inl y) :: .inr (.inl x) :: st) Q := by
  subst hp
  obtain ⟨⟨p, l, e, R⟩, ⟨s, m, args, below⟩, ⟨meth, c⟩, G⟩ := Γ
  intro H locs lsA hr hS hL hst
  obtain ⟨hy, h1⟩ := ok1 hst
  obtain ⟨hx, h2⟩ := ok1 h1
  refine lv_ladd hC.1 hC.2.1 hd ?_
  rw [i64_add]
  exact kk H locs lsA hr hS hL (okc (w64_in _) h2)
theorem aw_isub (hC : AOK Γ own cc nL d kc nc nm rt) {x y : Int} (hd : decode cc pc = .ok (.isub, 1)) (hp : pc + 1 = pc') (kk : AW Γ sh M k n pc' ls (.inl (w32 (x - y)) :: st) Q) : AW Γ sh M k n pc ls (.inl y :: .inl x :: st) Q := by
  subst hp
  obtain ⟨⟨p, l, e, R⟩, ⟨s, m, args, below⟩, ⟨meth, c⟩, G⟩ := Γ
  intro H locs lsA hr hS hL hst
  obtain ⟨hy, h1⟩ := ok1 hst
  obtain ⟨hx, h2⟩ := ok1 h1
  refine lv_isub hC.1 hC.2.1 hd ?_
  rw [i32_sub]
  exact kk H locs lsA hr hS hL (okc (w32_in _) h2)
theorem aw_lsub (hC : AOK Γ own cc nL d kc nc nm rt) {x y : Int} (hd : decode cc pc = .ok (.lsub, 1)) (hp : pc + 1 = pc') (kk : AW Γ sh M k n pc' ls (.inr (.inl (w64 (x - y))) :: st) Q) : AW Γ sh M k n pc ls (.inr (.inl y) :: .inr (.inl x) :: st) Q := by
  subst hp
  obtain ⟨⟨p, l, e, R⟩, ⟨s, m, args, below⟩, ⟨meth, c⟩, G⟩ := Γ
  intro H locs lsA hr hS hL hst
  obtain ⟨hy, h1⟩ := ok1 hst
  obtain ⟨hx, h2⟩ := ok1 h1
  refine lv_lsub hC.1 hC.2.1 hd ?_
  rw [i64_sub]
  exact kk H locs lsA hr hS hL (okc (w64_in _) h2)
theorem aw_imul (hC : AOK Γ own cc nL d kc nc nm rt) {x y : Int} (hd : decode cc pc = .ok (.imul, 1)) (hp : pc + 1 = pc') (kk : AW Γ sh M k n pc' ls (.inl (w32 (x * y)) :: st) Q) : AW Γ sh M k n pc ls (.inl y :: .inl x :: st) Q := by
  subst hp
  obtain ⟨⟨p, l, e, R⟩, ⟨s, m, args, below⟩, ⟨meth, c⟩, G⟩ := Γ
  intro H locs lsA hr hS hL hst
  obtain ⟨hy, h1⟩ := ok1 hst
  obtain ⟨hx, h2⟩ := ok1 h1
  refine lv_imul hC.1 hC.2.1 hd ?_
  rw [i32_mul]
  exact kk H locs lsA hr hS hL (okc (w32_in _) h2)
theorem aw_lmul (hC : AOK Γ own cc nL d kc nc nm rt) {x y : Int} (hd : decode cc pc = .ok (.lmul, 1)) (hp : pc + 1 = pc') (kk : AW Γ sh M k n pc' ls (.inr (.inl (w64 (x * y))) :: st) Q) : AW Γ sh M k n pc ls (.inr (.inl y) :: .inr (.inl x) :: st) Q := by
  subst hp
  obtain ⟨⟨p, l, e, R⟩, ⟨s, m, args, below⟩, ⟨meth, c⟩, G⟩ := Γ
  intro H locs lsA hr hS hL hst
  obtain ⟨hy, h1⟩ := ok1 hst
  obtain ⟨hx, h2⟩ := ok1 h1
  refine lv_lmul hC.1 hC.2.1 hd ?_
  rw [i64_mul]
  exact kk H locs lsA hr hS hL (okc (w64_in _) h2)
theorem aw_idiv (hC : AOK Γ own cc nL d kc nc nm rt) {x y : Int} (hd : decode cc pc = .ok (.idiv, 1)) (hp : pc + 1 = pc') (hg : y ≠ 0) (kk : AW Γ sh M k n pc' ls (.inl (w32 (x.tdiv y)) :: st) Q) : AW Γ sh M k n pc ls (.inl y :: .inl x :: st) Q := by
  subst hp
  obtain ⟨⟨p, l, e, R⟩, ⟨s, m, args, below⟩, ⟨meth, c⟩, G⟩ := Γ
  intro H locs lsA hr hS hL hst
  obtain ⟨hy, h1⟩ := ok1 hst
  obtain ⟨hx, h2⟩ := ok1 h1
  refine lv_idiv hC.1 hC.2.1 hd (i32_ne0 hy hg) ?_
  rw [i32_div hx hy]
  exact kk H locs lsA hr hS hL (okc (w32_in _) h2)
theorem aw_irem (hC : AOK Γ own cc nL d kc nc nm rt) {x y : Int} (hd : decode cc pc = .ok (.irem, 1)) (hp : pc + 1 = pc') (hg : y ≠ 0) (kk : AW Γ sh M k n pc' ls (.inl (x.tmod y) :: st) Q) : AW Γ sh M k n pc ls (.inl y :: .inl x :: st) Q := by
  subst hp
  obtain ⟨⟨p, l, e, R⟩, ⟨s, m, args, below⟩, ⟨meth, c⟩, G⟩ := Γ
  intro H locs lsA hr hS hL hst
  obtain ⟨hy, h1⟩ := ok1 hst
  obtain ⟨hx, h2⟩ := ok1 h1
  refine lv_irem hC.1 hC.2.1 hd (i32_ne0 hy hg) ?_
  rw [i32_rem hx hy]
  exact kk H locs lsA hr hS hL (okc (tmod_in hx) h2)
theorem aw_ldiv (hC : AOK Γ own cc nL d kc nc nm rt) {x y : Int} (hd : decode cc pc = .ok (.ldiv, 1)) (hp : pc + 1 = pc') (hg : y ≠ 0) (kk : AW Γ sh M k n pc' ls (.inr (.inl (w64 (x.tdiv y))) :: st) Q) : AW Γ sh M k n pc ls (.inr (.inl y) :: .inr (.inl x) :: st) Q := by
  subst hp
  obtain ⟨⟨p, l, e, R⟩, ⟨s, m, args, below⟩, ⟨meth, c⟩, G⟩ := Γ
  intro H locs lsA hr hS hL hst
  obtain ⟨hy, h1⟩ := ok1 hst
  obtain ⟨hx, h2⟩ := ok1 h1
  refine lv_ldiv hC.1 hC.2.1 hd (i64_ne0 hy hg) ?_
  rw [i64_div hx hy]
  exact kk H locs lsA hr hS hL (okc (w64_in _) h2)
theorem aw_lrem (hC : AOK Γ own cc nL d kc nc nm rt) {x y : Int} (hd : decode cc pc = .ok (.lrem, 1)) (hp : pc + 1 = pc') (hg : y ≠ 0) (kk : AW Γ sh M k n pc' ls (.inr (.inl (x.tmod y)) :: st) Q) : AW Γ sh M k n pc ls (.inr (.inl y) :: .inr (.inl x) :: st) Q := by
  subst hp
  obtain ⟨⟨p, l, e, R⟩, ⟨s, m, args, below⟩, ⟨meth, c⟩, G⟩ := Γ
  intro H locs lsA hr hS hL hst
  obtain ⟨hy, h1⟩ := ok1 hst
  obtain ⟨hx, h2⟩ := ok1 h1
  refine lv_lrem hC.1 hC.2.1 hd (i64_ne0 hy hg) ?_
  rw [i64_rem hx hy]
  exact kk H locs lsA hr hS hL (okc (tmodL_in hx) h2)
theorem aw_iand (hC : AOK Γ own cc nL d kc nc nm rt) {x y : Int} (hd : decode cc pc = .ok (.iand, 1)) (hp : pc + 1 = pc') (kk : AW Γ sh M k n pc' ls (.inl (an_ x y) :: st) Q) : AW Γ sh M k n pc ls (.inl y :: .inl x :: st) Q := by
  subst hp
  obtain ⟨⟨p, l, e, R⟩, ⟨s, m, args, below⟩, ⟨meth, c⟩, G⟩ := Γ
  intro H locs lsA hr hS hL hst
  obtain ⟨hy, h1⟩ := ok1 hst
  obtain ⟨hx, h2⟩ := ok1 h1
  refine lv_iand hC.1 hC.2.1 hd ?_
  rw [show (i32 x &&& i32 y) = i32 (an_ x y) from (i32_t _).symm]
  exact kk H locs lsA hr hS hL (okc (i32_r _) h2)
theorem aw_ior (hC : AOK Γ own cc nL d kc nc nm rt) {x y : Int} (hd : decode cc pc = .ok (.ior, 1)) (hp : pc + 1 = pc') (kk : AW Γ sh M k n pc' ls (.inl (or_ x y) :: st) Q) : AW Γ sh M k n pc ls (.inl y :: .inl x :: st) Q := by
  subst hp
  obtain ⟨⟨p, l, e, R⟩, ⟨s, m, args, below⟩, ⟨meth, c⟩, G⟩ := Γ
  intro H locs lsA hr hS hL hst
  obtain ⟨hy, h1⟩ := ok1 hst
  obtain ⟨hx, h2⟩ := ok1 h1
  refine lv_ior hC.1 hC.2.1 hd ?_
  rw [show (i32 x ||| i32 y) = i32 (or_ x y) from (i32_t _).symm]
  exact kk H locs lsA hr hS hL (okc (i32_r _) h2)
theorem aw_ixor (hC : AOK Γ own cc nL d kc nc nm rt) {x y : Int} (hd : decode cc pc = .ok (.ixor, 1)) (hp : pc + 1 = pc') (kk : AW Γ sh M k n pc' ls (.inl (xo_ x y) :: st) Q) : AW Γ sh M k n pc ls (.inl y :: .inl x :: st) Q := by
  subst hp
  obtain ⟨⟨p, l, e, R⟩, ⟨s, m, args, below⟩, ⟨meth, c⟩, G⟩ := Γ
  intro H locs lsA hr hS hL hst
  obtain ⟨hy, h1⟩ := ok1 hst
  obtain ⟨hx, h2⟩ := ok1 h1
  refine lv_ixor hC.1 hC.2.1 hd ?_
  rw [show (i32 x ^^^ i32 y) = i32 (xo_ x y) from (i32_t _).symm]
  exact kk H locs lsA hr hS hL (okc (i32_r _) h2)
theorem aw_ishl (hC : AOK Γ own cc nL d kc nc nm rt) {x y : Int} (hd : decode cc pc = .ok (.ishl, 1)) (hp : pc + 1 = pc') (kk : AW Γ sh M k n pc' ls (.inl (sl_ x y) :: st) Q) : AW Γ sh M k n pc ls (.inl y :: .inl x :: st) Q := by
  subst hp
  obtain ⟨⟨p, l, e, R⟩, ⟨s, m, args, below⟩, ⟨meth, c⟩, G⟩ := Γ
  intro H locs lsA hr hS hL hst
  obtain ⟨hy, h1⟩ := ok1 hst
  obtain ⟨hx, h2⟩ := ok1 h1
  refine lv_ishl hC.1 hC.2.1 hd ?_
  rw [show (i32 x <<< (i32 y &&& 31)) = i32 (sl_ x y) from (i32_t _).symm]
  exact kk H locs lsA hr hS hL (okc (i32_r _) h2)
theorem aw_ishr (hC : AOK Γ own cc nL d kc nc nm rt) {x y : Int} (hd : decode cc pc = .ok (.ishr, 1)) (hp : pc + 1 = pc') (kk : AW Γ sh M k n pc' ls (.inl (sr_ x y) :: st) Q) : AW Γ sh M k n pc ls (.inl y :: .inl x :: st) Q := by
  subst hp
  obtain ⟨⟨p, l, e, R⟩, ⟨s, m, args, below⟩, ⟨meth, c⟩, G⟩ := Γ
  intro H locs lsA hr hS hL hst
  obtain ⟨hy, h1⟩ := ok1 hst
  obtain ⟨hx, h2⟩ := ok1 h1
  refine lv_ishr hC.1 hC.2.1 hd ?_
  rw [show (i32 x >>> (i32 y &&& 31)) = i32 (sr_ x y) from (i32_t _).symm]
  exact kk H locs lsA hr hS hL (okc (i32_r _) h2)
theorem aw_iushr (hC : AOK Γ own cc nL d kc nc nm rt) {x y : Int} (hd : decode cc pc = .ok (.iushr, 1)) (hp : pc + 1 = pc') (kk : AW Γ sh M k n pc' ls (.inl (us_ x y) :: st) Q) : AW Γ sh M k n pc ls (.inl y :: .inl x :: st) Q := by
  subst hp
  obtain ⟨⟨p, l, e, R⟩, ⟨s, m, args, below⟩, ⟨meth, c⟩, G⟩ := Γ
  intro H locs lsA hr hS hL hst
  obtain ⟨hy, h1⟩ := ok1 hst
  obtain ⟨hx, h2⟩ := ok1 h1
  refine lv_iushr hC.1 hC.2.1 hd rfl ?_
  rw [show (((i32 x).toUInt32 >>> ((i32 y).toUInt32 &&& Int32.toUInt32 31)).toInt32) = i32 (us_ x y) from (i32_t _).symm]
  exact kk H locs lsA hr hS hL (okc (i32_r _) h2)
theorem aw_land (hC : AOK Γ own cc nL d kc nc nm rt) {x y : Int} (hd : decode cc pc = .ok (.land, 1)) (hp : pc + 1 = pc') (kk : AW Γ sh M k n pc' ls (.inr (.inl (anl_ x y)) :: st) Q) : AW Γ sh M k n pc ls (.inr (.inl y) :: .inr (.inl x) :: st) Q := by
  subst hp
  obtain ⟨⟨p, l, e, R⟩, ⟨s, m, args, below⟩, ⟨meth, c⟩, G⟩ := Γ
  intro H locs lsA hr hS hL hst
  obtain ⟨hy, h1⟩ := ok1 hst
  obtain ⟨hx, h2⟩ := ok1 h1
  refine lv_land hC.1 hC.2.1 hd ?_
  rw [show (i64 x &&& i64 y) = i64 (anl_ x y) from (i64_t _).symm]
  exact kk H locs lsA hr hS hL (okc (i64_r _) h2)
theorem aw_lor (hC : AOK Γ own cc nL d kc nc nm rt) {x y : Int} (hd : decode cc pc = .ok (.lor, 1)) (hp : pc + 1 = pc') (kk : AW Γ sh M k n pc' ls (.inr (.inl (orl_ x y)) :: st) Q) : AW Γ sh M k n pc ls (.inr (.inl y) :: .inr (.inl x) :: st) Q := by
  subst hp
  obtain ⟨⟨p, l, e, R⟩, ⟨s, m, args, below⟩, ⟨meth, c⟩, G⟩ := Γ
  intro H locs lsA hr hS hL hst
  obtain ⟨hy, h1⟩ := ok1 hst
  obtain ⟨hx, h2⟩ := ok1 h1
  refine lv_lor hC.1 hC.2.1 hd ?_
  rw [show (i64 x ||| i64 y) = i64 (orl_ x y) from (i64_t _).symm]
  exact kk H locs lsA hr hS hL (okc (i64_r _) h2)
theorem aw_lxor (hC : AOK Γ own cc nL d kc nc nm rt) {x y : Int} (hd : decode cc pc = .ok (.lxor, 1)) (hp : pc + 1 = pc') (kk : AW Γ sh M k n pc' ls (.inr (.inl (xol_ x y)) :: st) Q) : AW Γ sh M k n pc ls (.inr (.inl y) :: .inr (.inl x) :: st) Q := by
  subst hp
  obtain ⟨⟨p, l, e, R⟩, ⟨s, m, args, below⟩, ⟨meth, c⟩, G⟩ := Γ
  intro H locs lsA hr hS hL hst
  obtain ⟨hy, h1⟩ := ok1 hst
  obtain ⟨hx, h2⟩ := ok1 h1
  refine lv_lxor hC.1 hC.2.1 hd ?_
  rw [show (i64 x ^^^ i64 y) = i64 (xol_ x y) from (i64_t _).symm]
  exact kk H locs lsA hr hS hL (okc (i64_r _) h2)
theorem aw_lshl (hC : AOK Γ own cc nL d kc nc nm rt) {x y : Int} (hd : decode cc pc = .ok (.lshl, 1)) (hp : pc + 1 = pc') (kk : AW Γ sh M k n pc' ls (.inr (.inl (sll_ x y)) :: st) Q) : AW Γ sh M k n pc ls (.inl y :: .inr (.inl x) :: st) Q := by
  subst hp
  obtain ⟨⟨p, l, e, R⟩, ⟨s, m, args, below⟩, ⟨meth, c⟩, G⟩ := Γ
  intro H locs lsA hr hS hL hst
  obtain ⟨hy, h1⟩ := ok1 hst
  obtain ⟨hx, h2⟩ := ok1 h1
  refine lv_lshl hC.1 hC.2.1 hd rfl ?_
  rw [show (i64 x <<< ((i32 y).toInt64 &&& 63)) = i64 (sll_ x y) from (i64_t _).symm]
  exact kk H locs lsA hr hS hL (okc (i64_r _) h2)
theorem aw_lshr (hC : AOK Γ own cc nL d kc nc nm rt) {x y : Int} (hd : decode cc pc = .ok (.lshr, 1)) (hp : pc + 1 = pc') (kk : AW Γ sh M k n pc' ls (.inr (.inl (srl_ x y)) :: st) Q) : AW Γ sh M k n pc ls (.inl y :: .inr (.inl x) :: st) Q := by
  subst hp
  obtain ⟨⟨p, l, e, R⟩, ⟨s, m, args, below⟩, ⟨meth, c⟩, G⟩ := Γ
  intro H locs lsA hr hS hL hst
  obtain ⟨hy, h1⟩ := ok1 hst
  obtain ⟨hx, h2⟩ := ok1 h1
  refine lv_lshr hC.1 hC.2.1 hd rfl ?_
  rw [show (i64 x >>> ((i32 y).toInt64 &&& 63)) = i64 (srl_ x y) from (i64_t _).symm]
  exact kk H locs lsA hr hS hL (okc (i64_r _) h2)
theorem aw_lcmp (hC : AOK Γ own cc nL d kc nc nm rt) {x y : Int} (hd : decode cc pc = .ok (.lcmp, 1)) (hp : pc + 1 = pc') (kk : AW Γ sh M k n pc' ls (.inl (cmp_ x y) :: st) Q) : AW Γ sh M k n pc ls (.inr (.inl y) :: .inr (.inl x) :: st) Q := by
  subst hp
  obtain ⟨⟨p, l, e, R⟩, ⟨s, m, args, below⟩, ⟨meth, c⟩, G⟩ := Γ
  intro H locs lsA hr hS hL hst
  obtain ⟨hy, h1⟩ := ok1 hst
  obtain ⟨hx, h2⟩ := ok1 h1
  refine W.lcmp hC.1 hC.2.1 hd ?_
  rw [lg_cmp_i hx hy]
  exact kk H locs lsA hr hS hL (okc (cmp_in _ _) h2)
theorem aw_ineg (hC : AOK Γ own cc nL d kc nc nm rt) {x : Int} (hd : decode cc pc = .ok (.ineg, 1)) (hp : pc + 1 = pc') (kk : AW Γ sh M k n pc' ls (.inl (w32 (-x)) :: st) Q) : AW Γ sh M k n pc ls (.inl x :: st) Q := by
  subst hp
  obtain ⟨⟨p, l, e, R⟩, ⟨s, m, args, below⟩, ⟨meth, c⟩, G⟩ := Γ
  intro H locs lsA hr hS hL hst
  obtain ⟨hx, h1⟩ := ok1 hst
  refine lv_ineg hC.1 hC.2.1 hd ?_
  rw [i32_neg]
  exact kk H locs lsA hr hS hL (okc (w32_in _) h1)
theorem aw_i2l (hC : AOK Γ own cc nL d kc nc nm rt) {x : Int} (hd : decode cc pc = .ok (.i2l, 1)) (hp : pc + 1 = pc') (kk : AW Γ sh M k n pc' ls (.inr (.inl (x)) :: st) Q) : AW Γ sh M k n pc ls (.inl x :: st) Q := by
  subst hp
  obtain ⟨⟨p, l, e, R⟩, ⟨s, m, args, below⟩, ⟨meth, c⟩, G⟩ := Γ
  intro H locs lsA hr hS hL hst
  obtain ⟨hx, h1⟩ := ok1 hst
  refine lv_i2l hC.1 hC.2.1 hd (i32_i2l hx) ?_
  exact kk H locs lsA hr hS hL (okc (I32.i64 hx) h1)
theorem aw_l2i (hC : AOK Γ own cc nL d kc nc nm rt) {x : Int} (hd : decode cc pc = .ok (.l2i, 1)) (hp : pc + 1 = pc') (kk : AW Γ sh M k n pc' ls (.inl (w32 x) :: st) Q) : AW Γ sh M k n pc ls (.inr (.inl x) :: st) Q := by
  subst hp
  obtain ⟨⟨p, l, e, R⟩, ⟨s, m, args, below⟩, ⟨meth, c⟩, G⟩ := Γ
  intro H locs lsA hr hS hL hst
  obtain ⟨hx, h1⟩ := ok1 hst
  refine lv_l2i hC.1 hC.2.1 hd (i32_l2i x) ?_
  exact kk H locs lsA hr hS hL (okc (w32_in _) h1)
theorem aw_i2b (hC : AOK Γ own cc nL d kc nc nm rt) {x : Int} (hd : decode cc pc = .ok (.i2b, 1)) (hp : pc + 1 = pc') (kk : AW Γ sh M k n pc' ls (.inl (w8_ x) :: st) Q) : AW Γ sh M k n pc ls (.inl x :: st) Q := by
  subst hp
  obtain ⟨⟨p, l, e, R⟩, ⟨s, m, args, below⟩, ⟨meth, c⟩, G⟩ := Γ
  intro H locs lsA hr hS hL hst
  obtain ⟨hx, h1⟩ := ok1 hst
  refine lv_i2b hC.1 hC.2.1 hd (i32_i2b hx) ?_
  exact kk H locs lsA hr hS hL (okc (w8_in _) h1)
theorem aw_iconst (hC : AOK Γ own cc nL d kc nc nm rt) {v : Int}  (hd : decode cc pc = .ok (.iconst v, 1)) (hp : pc + 1 = pc') (hv : -1 ≤ v ∧ v ≤ 5) (kk : AW Γ sh M k n pc' ls (.inl v :: st) Q) : AW Γ sh M k n pc ls st Q := by
  subst hp
  obtain ⟨⟨p, l, e, R⟩, ⟨s, m, args, below⟩, ⟨meth, c⟩, G⟩ := Γ
  intro H locs lsA hr hS hL hst
  refine lv_iconst hC.1 hC.2.1 hd rfl ?_
  exact kk H locs lsA hr hS hL (okc (show I32 v by unfold I32; omega) hst)
theorem aw_bipush (hC : AOK Γ own cc nL d kc nc nm rt) {v : Int}  (hd : decode cc pc = .ok (.bipush v, 2)) (hp : pc + 2 = pc') (hv : -128 ≤ v ∧ v ≤ 127) (kk : AW Γ sh M k n pc' ls (.inl v :: st) Q) : AW Γ sh M k n pc ls st Q := by
  subst hp
  obtain ⟨⟨p, l, e, R⟩, ⟨s, m, args, below⟩, ⟨meth, c⟩, G⟩ := Γ
  intro H locs lsA hr hS hL hst
  refine lv_bipush (v := i32 v) hC.1 hC.2.1 hd (by rw [← Int32.toInt_inj, Int8.toInt_toInt32, Int8.toInt_ofInt, i32_i (show I32 v by unfold I32; omega)]; exact (w8_bm v).trans (by unfold w8_; omega)) ?_
  exact kk H locs lsA hr hS hL (okc (show I32 v by unfold I32; omega) hst)
theorem aw_sipush (hC : AOK Γ own cc nL d kc nc nm rt) {v : Int}  (hd : decode cc pc = .ok (.sipush v, 3)) (hp : pc + 3 = pc') (hv : -32768 ≤ v ∧ v ≤ 32767) (kk : AW Γ sh M k n pc' ls (.inl v :: st) Q) : AW Γ sh M k n pc ls st Q := by
  subst hp
  obtain ⟨⟨p, l, e, R⟩, ⟨s, m, args, below⟩, ⟨meth, c⟩, G⟩ := Γ
  intro H locs lsA hr hS hL hst
  refine lv_sipush (v := i32 v) hC.1 hC.2.1 hd (by rw [← Int32.toInt_inj, Int16.toInt_toInt32, Int16.toInt_ofInt, i32_i (show I32 v by unfold I32; omega)]; show v.bmod (2 ^ 16) = v; rw [Int.bmod_def]; split <;> omega) ?_
  exact kk H locs lsA hr hS hL (okc (show I32 v by unfold I32; omega) hst)
theorem aw_lconst (hC : AOK Γ own cc nL d kc nc nm rt) {q : Fin 2} {v : Int} (hd : decode cc pc = .ok (.lconst q, 1)) (hp : pc + 1 = pc') (hv : Int64.ofNat (q : Nat) = i64 v) (h6 : 0 ≤ v ∧ v ≤ 1) (kk : AW Γ sh M k n pc' ls (.inr (.inl v) :: st) Q) : AW Γ sh M k n pc ls st Q := by
  subst hp
  obtain ⟨⟨p, l, e, R⟩, ⟨s, m, args, below⟩, ⟨meth, c⟩, G⟩ := Γ
  intro H locs lsA hr hS hL hst
  refine lv_lconst hC.1 hC.2.1 hd hv ?_
  exact kk H locs lsA hr hS hL (okc (show I64 v by unfold I64; omega) hst)
theorem aw_ldc (hC : AOK Γ own cc nL d kc nc nm rt) {idx : Nat} {v : Int} (hd : decode cc pc = .ok (.ldc idx, 2)) (hp : pc + 2 = pc') (hw : Cond.constant own idx (i32 v) ∈ gw_tbl) (hv : I32 v) (kk : AW Γ sh M k n pc' ls (.inl v :: st) Q) : AW Γ sh M k n pc ls st Q := by
  subst hp
  obtain ⟨⟨p, l, e, R⟩, ⟨s, m, args, below⟩, ⟨meth, c⟩, G⟩ := Γ
  intro H locs lsA hr hS hL hst
  refine lv_ldc hC.1 hC.2.1 hC.2.2.2.1 (hC.2.2.2.2.1 _ hw) hd ?_
  exact kk H locs lsA hr hS hL (okc hv hst)
theorem aw_ldcw (hC : AOK Γ own cc nL d kc nc nm rt) {idx : Nat} {v : Int} (hd : decode cc pc = .ok (.ldc_w idx, 3)) (hp : pc + 3 = pc') (hw : Cond.constant own idx (i32 v) ∈ gw_tbl) (hv : I32 v) (kk : AW Γ sh M k n pc' ls (.inl v :: st) Q) : AW Γ sh M k n pc ls st Q := by
  subst hp
  obtain ⟨⟨p, l, e, R⟩, ⟨s, m, args, below⟩, ⟨meth, c⟩, G⟩ := Γ
  intro H locs lsA hr hS hL hst
  refine lv_ldcw hC.1 hC.2.1 hC.2.2.2.1 (hC.2.2.2.2.1 _ hw) hd ?_
  exact kk H locs lsA hr hS hL (okc hv hst)
theorem aw_ldc2 (hC : AOK Γ own cc nL d kc nc nm rt) {idx : Nat} {v : Int} (hd : decode cc pc = .ok (.ldc2_w idx, 3)) (hp : pc + 3 = pc') (hw : Cond.constantLong own idx (i64 v) ∈ gw_tbl) (hv : I64 v) (kk : AW Γ sh M k n pc' ls (.inr (.inl v) :: st) Q) : AW Γ sh M k n pc ls st Q := by
  subst hp
  obtain ⟨⟨p, l, e, R⟩, ⟨s, m, args, below⟩, ⟨meth, c⟩, G⟩ := Γ
  intro H locs lsA hr hS hL hst
  refine lv_ldc2 hC.1 hC.2.1 hC.2.2.2.1 (hC.2.2.2.2.1 _ hw) hd ?_
  exact kk H locs lsA hr hS hL (okc hv hst)
theorem aw_iload (hC : AOK Γ own cc nL d kc nc nm rt) {i : Nat} {x : Int} (hd : decode cc pc = .ok (.iload i, 2)) (hp : pc + 2 = pc') (hl : ls[i]? = some (some (.inl x))) (kk : AW Γ sh M k n pc' ls (.inl x :: st) Q) : AW Γ sh M k n pc ls st Q := by
  subst hp
  obtain ⟨⟨p, l, e, R⟩, ⟨s, m, args, below⟩, ⟨meth, c⟩, G⟩ := Γ
  intro H locs lsA hr hS hL hst
  obtain ⟨g1, g2⟩ := hL.2.2.2 i _ hl
  refine lv_iload hC.1 hC.2.1 hd g1 ?_
  exact kk H locs lsA hr hS hL (okc g2 hst)
theorem aw_iload_n (hC : AOK Γ own cc nL d kc nc nm rt) {j : Fin 4} {i : Nat} {x : Int} (hd : decode cc pc = .ok (.iload_n j, 1)) (hp : pc + 1 = pc') (hi : (j : Nat) = i) (hl : ls[i]? = some (some (.inl x))) (kk : AW Γ sh M k n pc' ls (.inl x :: st) Q) : AW Γ sh M k n pc ls st Q := by
  subst hp
  obtain ⟨⟨p, l, e, R⟩, ⟨s, m, args, below⟩, ⟨meth, c⟩, G⟩ := Γ
  intro H locs lsA hr hS hL hst
  obtain ⟨g1, g2⟩ := hL.2.2.2 i _ hl
  refine lv_iload_n hC.1 hC.2.1 hd hi g1 ?_
  exact kk H locs lsA hr hS hL (okc g2 hst)
theorem aw_lload (hC : AOK Γ own cc nL d kc nc nm rt) {i : Nat} {x : Int} (hd : decode cc pc = .ok (.lload i, 2)) (hp : pc + 2 = pc') (hl : ls[i]? = some (some (.inr (.inl x)))) (kk : AW Γ sh M k n pc' ls (.inr (.inl x) :: st) Q) : AW Γ sh M k n pc ls st Q := by
  subst hp
  obtain ⟨⟨p, l, e, R⟩, ⟨s, m, args, below⟩, ⟨meth, c⟩, G⟩ := Γ
  intro H locs lsA hr hS hL hst
  obtain ⟨g1, g2⟩ := hL.2.2.2 i _ hl
  refine lv_lload hC.1 hC.2.1 hd g1 ?_
  exact kk H locs lsA hr hS hL (okc g2 hst)
theorem aw_lload_n (hC : AOK Γ own cc nL d kc nc nm rt) {j : Fin 4} {i : Nat} {x : Int} (hd : decode cc pc = .ok (.lload_n j, 1)) (hp : pc + 1 = pc') (hi : (j : Nat) = i) (hl : ls[i]? = some (some (.inr (.inl x)))) (kk : AW Γ sh M k n pc' ls (.inr (.inl x) :: st) Q) : AW Γ sh M k n pc ls st Q := by
  subst hp
  obtain ⟨⟨p, l, e, R⟩, ⟨s, m, args, below⟩, ⟨meth, c⟩, G⟩ := Γ
  intro H locs lsA hr hS hL hst
  obtain ⟨g1, g2⟩ := hL.2.2.2 i _ hl
  refine lv_lload_n hC.1 hC.2.1 hd hi g1 ?_
  exact kk H locs lsA hr hS hL (okc g2 hst)
theorem aw_aload (hC : AOK Γ own cc nL d kc nc nm rt) {i : Nat} {x : Int} (hd : decode cc pc = .ok (.aload i, 2)) (hp : pc + 2 = pc') (hl : ls[i]? = some (some (.inr (.inr x)))) (kk : AW Γ sh M k n pc' ls (.inr (.inr x) :: st) Q) : AW Γ sh M k n pc ls st Q := by
  subst hp
  obtain ⟨⟨p, l, e, R⟩, ⟨s, m, args, below⟩, ⟨meth, c⟩, G⟩ := Γ
  intro H locs lsA hr hS hL hst
  obtain ⟨g1, g2⟩ := hL.2.2.2 i _ hl
  have K := kk H locs lsA hr hS hL (okc g2 hst)
  have g3 : lsA[i]? = some (.val (rv_ G x)) := g1
  dsimp only at K ⊢
  rw [List.map_cons, show cv_ G (.inr (.inr x)) = rv_ G x from rfl] at K
  rcases rv_or G x with q | ⟨a, q⟩
  · rw [q] at g3 K
    exact lv_aloadN hC.1 hC.2.1 hd g3 K
  · rw [q] at g3 K
    exact lv_aload hC.1 hC.2.1 hd g3 K
theorem aw_aload_n (hC : AOK Γ own cc nL d kc nc nm rt) {j : Fin 4} {i : Nat} {x : Int} (hd : decode cc pc = .ok (.aload_n j, 1)) (hp : pc + 1 = pc') (hi : (j : Nat) = i) (hl : ls[i]? = some (some (.inr (.inr x)))) (kk : AW Γ sh M k n pc' ls (.inr (.inr x) :: st) Q) : AW Γ sh M k n pc ls st Q := by
  subst hp
  obtain ⟨⟨p, l, e, R⟩, ⟨s, m, args, below⟩, ⟨meth, c⟩, G⟩ := Γ
  intro H locs lsA hr hS hL hst
  obtain ⟨g1, g2⟩ := hL.2.2.2 i _ hl
  have K := kk H locs lsA hr hS hL (okc g2 hst)
  have g3 : lsA[i]? = some (.val (rv_ G x)) := g1
  dsimp only at K ⊢
  rw [List.map_cons, show cv_ G (.inr (.inr x)) = rv_ G x from rfl] at K
  rcases rv_or G x with q | ⟨a, q⟩
  · rw [q] at g3 K
    exact lv_aload_nN hC.1 hC.2.1 hd hi g3 K
  · rw [q] at g3 K
    exact lv_aload_n hC.1 hC.2.1 hd hi g3 K
def np_ (ls : List (Option AwV)) (i : Nat) : Bool := match i with
  | 0 => true
  | j + 1 => match ls[j]? with
    | some (some v) => ct_ v != 2
    | _ => true
def prs_ (G : AwG) (ls : List (Option AwV)) : List (Nat × Value) := (List.range ls.length).filterMap (fun i => match ls[i]? with
  | some (some v) => some (i, cv_ G v)
  | _ => none)
theorem prs_in {G : AwG} {ls : List (Option AwV)} {i : Nat} {v : AwV} (h : ls[i]? = some (some v)) : (i, cv_ G v) ∈ prs_ G ls := by
  refine List.mem_filterMap.mpr ⟨i, List.mem_range.mpr (List.getElem?_eq_some_iff.mp h).1, ?_⟩
  rw [h]
theorem prs_out {G : AwG} {ls : List (Option AwV)} {q : Nat × Value} (h : q ∈ prs_ G ls) : ∃ v, ls[q.1]? = some (some v) ∧ q.2 = cv_ G v := by
  obtain ⟨i, -, hi⟩ := List.mem_filterMap.mp h
  split at hi
  · rename_i v hv
    cases hi
    exact ⟨v, hv, rfl⟩
  · cases hi
theorem prs_has {G : AwG} {lsA : Array Slot} {nL : Nat} {ls : List (Option AwV)} (h : lh_ G lsA nL ls) : lv_has lsA nL (prs_ G ls) := ⟨h.1, h.2.1, fun q hq => by
  obtain ⟨v, h1, h2⟩ := prs_out hq
  rw [h2]
  exact (h.2.2.2 _ _ h1).1⟩
theorem lh_set1 {G : AwG} {lsA lsA' : Array Slot} {nL : Nat} {ls : List (Option AwV)} {i : Nat} {v : AwV} (h : lh_ G lsA nL ls) (hi : i < ls.length) (hnp : np_ ls i = true) (hv : ok_ v)
    (h' : lv_has lsA' nL ((i, cv_ G v) :: (prs_ G ls).filter (fun q => !(q.1 == i) && !(q.1 + 1 == i && q.2.category == 2)))) : lh_ G lsA' nL (ls.set i (some v)) := by
  refine ⟨h'.1, h'.2.1, by rw [List.length_set]; exact h.2.2.1, fun j w hj => ?_⟩
  by_cases hji : j = i
  · subst hji
    rw [List.getElem?_set_self hi] at hj
    cases hj
    exact ⟨h'.2.2 _ List.mem_cons_self, hv⟩
  · rw [List.getElem?_set_ne (Ne.symm hji)] at hj
    refine ⟨h'.2.2 (j, cv_ G w) (List.mem_cons_of_mem _ (List.mem_filter.mpr ⟨prs_in hj, ?_⟩)), (h.2.2.2 _ _ hj).2⟩
    have e1 : (j == i) = false := by simp [hji]
    show (!(j == i) && !(j + 1 == i && (cv_ G w).category == 2)) = true
    rw [e1, cv_cat]
    by_cases hj1 : j + 1 = i
    · subst hj1
      unfold np_ at hnp
      simp only [hj] at hnp
      simpa using hnp
    · simp [hj1]
theorem lh_set2 {G : AwG} {lsA lsA' : Array Slot} {nL : Nat} {ls : List (Option AwV)} {i : Nat} {v : AwV} (h : lh_ G lsA nL ls) (hi : i + 1 < ls.length) (hnp : np_ ls i = true) (hv : ok_ v)
    (h' : lv_has lsA' nL ((i, cv_ G v) :: (prs_ G ls).filter (fun q => !(q.1 == i) && (!(q.1 == i + 1) && !(q.1 + 1 == i && q.2.category == 2))))) : lh_ G lsA' nL ((ls.set i (some v)).set (i + 1) none) := by
  refine ⟨h'.1, h'.2.1, by rw [List.length_set, List.length_set]; exact h.2.2.1, fun j w hj => ?_⟩
  by_cases hj2 : j = i + 1
  · subst hj2
    rw [List.getElem?_set_self (by rw [List.length_set]; exact hi)] at hj
    cases hj
  rw [List.getElem?_set_ne (Ne.symm hj2)] at hj
  by_cases hji : j = i
  · subst hji
    rw [List.getElem?_set_self (by omega)] at hj
    cases hj
    exact ⟨h'.2.2 _ List.mem_cons_self, hv⟩
  · rw [List.getElem?_set_ne (Ne.symm hji)] at hj
    refine ⟨h'.2.2 (j, cv_ G w) (List.mem_cons_of_mem _ (List.mem_filter.mpr ⟨prs_in hj, ?_⟩)), (h.2.2.2 _ _ hj).2⟩
    have e1 : (j == i) = false := by simp [hji]
    have e2 : (j == i + 1) = false := by simp [hj2]
    show (!(j == i) && (!(j == i + 1) && !(j + 1 == i && (cv_ G w).category == 2))) = true
    rw [e1, e2, cv_cat]
    by_cases hj1 : j + 1 = i
    · subst hj1
      unfold np_ at hnp
      simp only [hj] at hnp
      simpa using hnp
    · simp [hj1]
theorem aw_istore_n (hC : AOK Γ own cc nL d kc nc nm rt) {j : Fin 4} {i : Nat} {x : Int} (hd : decode cc pc = .ok (.istore_n j, 1)) (hp : pc + 1 = pc') (hj : (j : Nat) = i) (hi : i < ls.length) (hnp : np_ ls i = true) (hl : (ls.set i (some (.inl x))) = ls') (kk : AW Γ sh M k n pc' ls' st Q) : AW Γ sh M k n pc ls (.inl x :: st) Q := by
  subst hl
  subst hp
  obtain ⟨⟨p, l, e, R⟩, ⟨s, m, args, below⟩, ⟨meth, c⟩, G⟩ := Γ
  intro H locs lsA hr hS hL hst
  obtain ⟨hx, h1⟩ := ok1 hst
  have hn : i < c.maxLocals := Nat.lt_of_lt_of_le hi hL.2.2.1
  exact lv_istore_n hC.1 hC.2.1 hd hj (prs_has hL) hn rfl (fun lsA' h' => kk H locs lsA' hr hS (lh_set1 hL hi hnp hx h') h1)
theorem aw_lstore_n (hC : AOK Γ own cc nL d kc nc nm rt) {j : Fin 4} {i : Nat} {x : Int} (hd : decode cc pc = .ok (.lstore_n j, 1)) (hp : pc + 1 = pc') (hj : (j : Nat) = i) (hi : i + 1 < ls.length) (hnp : np_ ls i = true) (hl : (ls.set i (some (.inr (.inl x)))).set (i + 1) none = ls') (kk : AW Γ sh M k n pc' ls' st Q) : AW Γ sh M k n pc ls (.inr (.inl x) :: st) Q := by
  subst hl
  subst hp
  obtain ⟨⟨p, l, e, R⟩, ⟨s, m, args, below⟩, ⟨meth, c⟩, G⟩ := Γ
  intro H locs lsA hr hS hL hst
  obtain ⟨hx, h1⟩ := ok1 hst
  have hn : i + 1 < c.maxLocals := Nat.lt_of_lt_of_le hi hL.2.2.1
  exact lv_lstore_n hC.1 hC.2.1 hd hj (prs_has hL) hn rfl (fun lsA' h' => kk H locs lsA' hr hS (lh_set2 hL hi hnp hx h') h1)
theorem aw_astore_n (hC : AOK Γ own cc nL d kc nc nm rt) {j : Fin 4} {i : Nat} {x : Int} (hd : decode cc pc = .ok (.astore_n j, 1)) (hp : pc + 1 = pc') (hj : (j : Nat) = i) (hi : i < ls.length) (hnp : np_ ls i = true) (hl : (ls.set i (some (.inr (.inr x)))) = ls') (kk : AW Γ sh M k n pc' ls' st Q) : AW Γ sh M k n pc ls (.inr (.inr x) :: st) Q := by
  subst hl
  subst hp
  obtain ⟨⟨p, l, e, R⟩, ⟨s, m, args, below⟩, ⟨meth, c⟩, G⟩ := Γ
  intro H locs lsA hr hS hL hst
  obtain ⟨hx, h1⟩ := ok1 hst
  have hn : i < c.maxLocals := Nat.lt_of_lt_of_le hi hL.2.2.1
  have K : ∀ lsA' : Array Slot, lv_has lsA' c.maxLocals ((i, rv_ G x) :: (prs_ G ls).filter (fun q => !(q.1 == i) && !(q.1 + 1 == i && q.2.category == 2))) → W p l e R s m args below meth c H locs k n Q (F0 m (pc + 1) lsA' (st.map (cv_ G))) := fun lsA' h' => kk H locs lsA' hr hS (lh_set1 hL hi hnp hx h') h1
  dsimp only
  rw [List.map_cons, show cv_ G (.inr (.inr x)) = rv_ G x from rfl]
  rcases rv_or G x with q | ⟨a, q⟩
  · rw [q] at K ⊢
    exact lv_astore_nN hC.1 hC.2.1 hd hj (prs_has hL) hn rfl K
  · rw [q] at K ⊢
    exact lv_astore_n hC.1 hC.2.1 hd hj (prs_has hL) hn rfl K
theorem aw_istore (hC : AOK Γ own cc nL d kc nc nm rt) {i : Nat} {x : Int} (hd : decode cc pc = .ok (.istore i, 2)) (hp : pc + 2 = pc') (hi : i < ls.length) (hnp : np_ ls i = true) (hl : (ls.set i (some (.inl x))) = ls') (kk : AW Γ sh M k n pc' ls' st Q) : AW Γ sh M k n pc ls (.inl x :: st) Q := by
  subst hl
  subst hp
  obtain ⟨⟨p, l, e, R⟩, ⟨s, m, args, below⟩, ⟨meth, c⟩, G⟩ := Γ
  intro H locs lsA hr hS hL hst
  obtain ⟨hx, h1⟩ := ok1 hst
  have hn : i < c.maxLocals := Nat.lt_of_lt_of_le hi hL.2.2.1
  exact lv_istore hC.1 hC.2.1 hd (prs_has hL) hn rfl (fun lsA' h' => kk H locs lsA' hr hS (lh_set1 hL hi hnp hx h') h1)
theorem aw_lstore (hC : AOK Γ own cc nL d kc nc nm rt) {i : Nat} {x : Int} (hd : decode cc pc = .ok (.lstore i, 2)) (hp : pc + 2 = pc') (hi : i + 1 < ls.length) (hnp : np_ ls i = true) (hl : (ls.set i (some (.inr (.inl x)))).set (i + 1) none = ls') (kk : AW Γ sh M k n pc' ls' st Q) : AW Γ sh M k n pc ls (.inr (.inl x) :: st) Q := by
  subst hl
  subst hp
  obtain ⟨⟨p, l, e, R⟩, ⟨s, m, args, below⟩, ⟨meth, c⟩, G⟩ := Γ
  intro H locs lsA hr hS hL hst
  obtain ⟨hx, h1⟩ := ok1 hst
  have hn : i + 1 < c.maxLocals := Nat.lt_of_lt_of_le hi hL.2.2.1
  exact lv_lstore hC.1 hC.2.1 hd (prs_has hL) hn rfl (fun lsA' h' => kk H locs lsA' hr hS (lh_set2 hL hi hnp hx h') h1)
theorem aw_astore (hC : AOK Γ own cc nL d kc nc nm rt) {i : Nat} {x : Int} (hd : decode cc pc = .ok (.astore i, 2)) (hp : pc + 2 = pc') (hi : i < ls.length) (hnp : np_ ls i = true) (hl : (ls.set i (some (.inr (.inr x)))) = ls') (kk : AW Γ sh M k n pc' ls' st Q) : AW Γ sh M k n pc ls (.inr (.inr x) :: st) Q := by
  subst hl
  subst hp
  obtain ⟨⟨p, l, e, R⟩, ⟨s, m, args, below⟩, ⟨meth, c⟩, G⟩ := Γ
  intro H locs lsA hr hS hL hst
  obtain ⟨hx, h1⟩ := ok1 hst
  have hn : i < c.maxLocals := Nat.lt_of_lt_of_le hi hL.2.2.1
  have K : ∀ lsA' : Array Slot, lv_has lsA' c.maxLocals ((i, rv_ G x) :: (prs_ G ls).filter (fun q => !(q.1 == i) && !(q.1 + 1 == i && q.2.category == 2))) → W p l e R s m args below meth c H locs k n Q (F0 m (pc + 2) lsA' (st.map (cv_ G))) := fun lsA' h' => kk H locs lsA' hr hS (lh_set1 hL hi hnp hx h') h1
  dsimp only
  rw [List.map_cons, show cv_ G (.inr (.inr x)) = rv_ G x from rfl]
  rcases rv_or G x with q | ⟨a, q⟩
  · rw [q] at K ⊢
    exact lv_astoreN hC.1 hC.2.1 hd (prs_has hL) hn rfl K
  · rw [q] at K ⊢
    exact lv_astore hC.1 hC.2.1 hd (prs_has hL) hn rfl K
theorem aw_iinc (hC : AOK Γ own cc nL d kc nc nm rt) {i : Nat} {x q : Int} (hd : decode cc pc = .ok (.iinc i q, 3)) (hp : pc + 3 = pc') (hg : ls[i]? = some (some (.inl x))) (hnp : np_ ls i = true) (hl : ls.set i (some (.inl (w32 (x + q)))) = ls') (kk : AW Γ sh M k n pc' ls' st Q) : AW Γ sh M k n pc ls st Q := by
  subst hl
  subst hp
  obtain ⟨⟨p, l, e, R⟩, ⟨s, m, args, below⟩, ⟨meth, c⟩, G⟩ := Γ
  intro H locs lsA hr hS hL hst
  have hi : i < ls.length := (List.getElem?_eq_some_iff.mp hg).1
  have hn : i < c.maxLocals := Nat.lt_of_lt_of_le hi hL.2.2.1
  have hq := prs_has hL
  have hx := hL.2.2.2 i _ hg
  have h2 : lv_has lsA c.maxLocals ((i, .int (i32 x)) :: prs_ G ls) := ⟨hq.1, hq.2.1, fun z hz => by
    rcases List.mem_cons.mp hz with rfl | h
    · exact hx.1
    · exact hq.2.2 z h⟩
  refine lv_iinc hC.1 hC.2.1 hd h2 (k := 0) rfl (v := i32 (w32 (x + q))) (by rw [← i32_add]) hn rfl (fun lsA' h' => kk H locs lsA' hr hS (lh_set1 hL hi hnp (w32_in _) ⟨h'.1, h'.2.1, fun z hz => ?_⟩) hst)
  rcases List.mem_cons.mp hz with rfl | h
  · exact h'.2.2 _ List.mem_cons_self
  · have h3 := List.mem_filter.mp h
    exact h'.2.2 z (List.mem_cons_of_mem _ (List.mem_filter.mpr ⟨List.mem_cons_of_mem _ h3.1, h3.2⟩))
def sub_ : List (Option AwV) → List (Option AwV) → Prop
  | [], _ => True
  | none :: a, [] => sub_ a []
  | none :: a, _ :: b => sub_ a b
  | some v :: a, some w :: b => v = w ∧ sub_ a b
  | some _ :: _, _ => False
theorem sub_at : ∀ (a b : List (Option AwV)), sub_ a b → ∀ (i : Nat) (v : AwV), a[i]? = some (some v) → b[i]? = some (some v)
  | [], _, _, i, v, h => by simp at h
  | none :: a, [], hs, i, v, h => by
    match i, h with
    | 0, h => simp at h
    | j + 1, h =>
      have := sub_at a [] hs j v (by simpa using h)
      simp at this
  | none :: a, _ :: b, hs, i, v, h => by
    match i, h with
    | 0, h => simp at h
    | j + 1, h => simpa using sub_at a b hs j v (by simpa using h)
  | some w :: a, some w' :: b, hs, i, v, h => by
    match i, h with
    | 0, h =>
      simp at h
      simp [← hs.1, h]
    | j + 1, h => simpa using sub_at a b hs.2 j v (by simpa using h)
  | some w :: a, none :: b, hs, i, v, h => by exact absurd hs (by simp [sub_])
  | some w :: a, [], hs, i, v, h => by exact absurd hs (by simp [sub_])
theorem aw_sub (hC : AOK Γ own cc nL d kc nc nm rt) (ls' : List (Option AwV)) (hs : sub_ ls' ls) (hn : ls'.length ≤ nL) (kk : AW Γ sh M k n pc ls' st Q) : AW Γ sh M k n pc ls st Q := by
  obtain ⟨⟨p, l, e, R⟩, ⟨s, m, args, below⟩, ⟨meth, c⟩, G⟩ := Γ
  intro H locs lsA hr hS hL hst
  refine kk H locs lsA hr hS ⟨hL.1, hL.2.1, ?_, fun i v hi => hL.2.2.2 i v (sub_at _ _ hs i v hi)⟩ hst
  have : c.maxLocals = nL := hC.2.2.1
  show ls'.length ≤ c.maxLocals
  omega
theorem aw_dup (hC : AOK Γ own cc nL d kc nc nm rt) {v : AwV} (hd : decode cc pc = .ok (.dup, 1)) (hp : pc + 1 = pc') (hv : ct_ v = 1) (kk : AW Γ sh M k n pc' ls (v :: v :: st) Q) : AW Γ sh M k n pc ls (v :: st) Q := by
  subst hp
  obtain ⟨⟨p, l, e, R⟩, ⟨s, m, args, below⟩, ⟨meth, c⟩, G⟩ := Γ
  intro H locs lsA hr hS hL hst
  obtain ⟨hx, h1⟩ := ok1 hst
  exact lv_dup hC.1 hC.2.1 hd (by rw [cv_cat]; exact hv) (kk H locs lsA hr hS hL (okc hx hst))
theorem aw_pop (hC : AOK Γ own cc nL d kc nc nm rt) {v : AwV} (hd : decode cc pc = .ok (.pop, 1)) (hp : pc + 1 = pc') (hv : ct_ v = 1) (kk : AW Γ sh M k n pc' ls st Q) : AW Γ sh M k n pc ls (v :: st) Q := by
  subst hp
  obtain ⟨⟨p, l, e, R⟩, ⟨s, m, args, below⟩, ⟨meth, c⟩, G⟩ := Γ
  intro H locs lsA hr hS hL hst
  obtain ⟨hx, h1⟩ := ok1 hst
  exact lv_pop hC.1 hC.2.1 hd (by rw [cv_cat]; exact hv) (kk H locs lsA hr hS hL h1)
theorem aw_dup_x1 (hC : AOK Γ own cc nL d kc nc nm rt) {v w : AwV} (hd : decode cc pc = .ok (.dup_x1, 1)) (hp : pc + 1 = pc') (hv : ct_ v = 1) (hw : ct_ w = 1) (kk : AW Γ sh M k n pc' ls (v :: w :: v :: st) Q) : AW Γ sh M k n pc ls (v :: w :: st) Q := by
  subst hp
  obtain ⟨⟨p, l, e, R⟩, ⟨s, m, args, below⟩, ⟨meth, c⟩, G⟩ := Γ
  intro H locs lsA hr hS hL hst
  obtain ⟨hx, h1⟩ := ok1 hst
  obtain ⟨hy, h2⟩ := ok1 h1
  exact lv_dup_x1 hC.1 hC.2.1 hd (by rw [cv_cat]; exact hv) (by rw [cv_cat]; exact hw) (kk H locs lsA hr hS hL (okc hx (okc hy (okc hx h2))))
theorem aw_dup2 (hC : AOK Γ own cc nL d kc nc nm rt) {v w : AwV} (hd : decode cc pc = .ok (.dup2, 1)) (hp : pc + 1 = pc') (hv : ct_ v = 1) (hw : ct_ w = 1) (kk : AW Γ sh M k n pc' ls (v :: w :: v :: w :: st) Q) : AW Γ sh M k n pc ls (v :: w :: st) Q := by
  subst hp
  obtain ⟨⟨p, l, e, R⟩, ⟨s, m, args, below⟩, ⟨meth, c⟩, G⟩ := Γ
  intro H locs lsA hr hS hL hst
  obtain ⟨hx, h1⟩ := ok1 hst
  obtain ⟨hy, h2⟩ := ok1 h1
  exact lv_dup2_11 hC.1 hC.2.1 hd (by rw [cv_cat]; exact hv) (by rw [cv_cat]; exact hw) (kk H locs lsA hr hS hL (okc hx (okc hy (okc hx (okc hy h2)))))
theorem aw_if_eq (hC : AOK Γ own cc nL d kc nc nm rt) {x : Int} {off : Int} {tgt : Nat} (hd : decode cc pc = .ok (.ifCond .eq off, 3)) (ht : (pc : Int) + off = (tgt : Int)) (hp : pc + 3 = pc') (kt : x = 0 → AW Γ sh M k n tgt ls st Q) (kf : ¬ (x = 0) → AW Γ sh M k n pc' ls st Q) : AW Γ sh M k n pc ls (.inl x :: st) Q := by
  subst hp
  obtain ⟨⟨p, l, e, R⟩, ⟨s, m, args, below⟩, ⟨meth, c⟩, G⟩ := Γ
  intro H locs lsA hr hS hL hst
  obtain ⟨hx, h2⟩ := ok1 hst
  refine lv_if_eq hC.1 hC.2.1 hd ht (fun q => kt ?_ H locs lsA hr hS hL h2) (fun q => kf ?_ H locs lsA hr hS hL h2)
  all_goals (rw [← i32_0] at q)
  · exact (i32_x hx I32_0).mp q
  · exact fun h => q ((i32_x hx I32_0).mpr h)
theorem aw_if_ne (hC : AOK Γ own cc nL d kc nc nm rt) {x : Int} {off : Int} {tgt : Nat} (hd : decode cc pc = .ok (.ifCond .ne off, 3)) (ht : (pc : Int) + off = (tgt : Int)) (hp : pc + 3 = pc') (kt : ¬ (x = 0) → AW Γ sh M k n tgt ls st Q) (kf : x = 0 → AW Γ sh M k n pc' ls st Q) : AW Γ sh M k n pc ls (.inl x :: st) Q := by
  subst hp
  obtain ⟨⟨p, l, e, R⟩, ⟨s, m, args, below⟩, ⟨meth, c⟩, G⟩ := Γ
  intro H locs lsA hr hS hL hst
  obtain ⟨hx, h2⟩ := ok1 hst
  refine lv_if_ne hC.1 hC.2.1 hd ht (fun q => kt ?_ H locs lsA hr hS hL h2) (fun q => kf ?_ H locs lsA hr hS hL h2)
  all_goals (rw [← i32_0] at q)
  · exact fun h => q ((i32_x hx I32_0).mpr h)
  · first | exact (i32_x hx I32_0).mp q | exact (i32_x hx I32_0).mp (Classical.not_not.mp q)
theorem aw_if_lt (hC : AOK Γ own cc nL d kc nc nm rt) {x : Int} {off : Int} {tgt : Nat} (hd : decode cc pc = .ok (.ifCond .lt off, 3)) (ht : (pc : Int) + off = (tgt : Int)) (hp : pc + 3 = pc') (kt : x < 0 → AW Γ sh M k n tgt ls st Q) (kf : ¬ (x < 0) → AW Γ sh M k n pc' ls st Q) : AW Γ sh M k n pc ls (.inl x :: st) Q := by
  subst hp
  obtain ⟨⟨p, l, e, R⟩, ⟨s, m, args, below⟩, ⟨meth, c⟩, G⟩ := Γ
  intro H locs lsA hr hS hL hst
  obtain ⟨hx, h2⟩ := ok1 hst
  refine lv_if_lt hC.1 hC.2.1 hd ht (fun q => kt ?_ H locs lsA hr hS hL h2) (fun q => kf ?_ H locs lsA hr hS hL h2)
  all_goals (rw [← i32_0] at q)
  · exact (i32_lt hx I32_0).mp q
  · exact fun h => q ((i32_lt hx I32_0).mpr h)
theorem aw_if_ge (hC : AOK Γ own cc nL d kc nc nm rt) {x : Int} {off : Int} {tgt : Nat} (hd : decode cc pc = .ok (.ifCond .ge off, 3)) (ht : (pc : Int) + off = (tgt : Int)) (hp : pc + 3 = pc') (kt : ¬ (x < 0) → AW Γ sh M k n tgt ls st Q) (kf : x < 0 → AW Γ sh M k n pc' ls st Q) : AW Γ sh M k n pc ls (.inl x :: st) Q := by
  subst hp
  obtain ⟨⟨p, l, e, R⟩, ⟨s, m, args, below⟩, ⟨meth, c⟩, G⟩ := Γ
  intro H locs lsA hr hS hL hst
  obtain ⟨hx, h2⟩ := ok1 hst
  refine lv_if_ge hC.1 hC.2.1 hd ht (fun q => kt ?_ H locs lsA hr hS hL h2) (fun q => kf ?_ H locs lsA hr hS hL h2)
  all_goals (rw [← i32_0] at q)
  all_goals first | (rw [ge_iff_le, i32_le I32_0 hx] at q; omega) | (rw [i32_le I32_0 hx] at q; omega)
theorem aw_if_gt (hC : AOK Γ own cc nL d kc nc nm rt) {x : Int} {off : Int} {tgt : Nat} (hd : decode cc pc = .ok (.ifCond .gt off, 3)) (ht : (pc : Int) + off = (tgt : Int)) (hp : pc + 3 = pc') (kt : 0 < x → AW Γ sh M k n tgt ls st Q) (kf : ¬ (0 < x) → AW Γ sh M k n pc' ls st Q) : AW Γ sh M k n pc ls (.inl x :: st) Q := by
  subst hp
  obtain ⟨⟨p, l, e, R⟩, ⟨s, m, args, below⟩, ⟨meth, c⟩, G⟩ := Γ
  intro H locs lsA hr hS hL hst
  obtain ⟨hx, h2⟩ := ok1 hst
  refine lv_if_gt hC.1 hC.2.1 hd ht (fun q => kt ?_ H locs lsA hr hS hL h2) (fun q => kf ?_ H locs lsA hr hS hL h2)
  all_goals (rw [← i32_0] at q)
  all_goals first | (rw [gt_iff_lt, i32_lt I32_0 hx] at q; omega) | (rw [i32_lt I32_0 hx] at q; omega)
theorem aw_if_le (hC : AOK Γ own cc nL d kc nc nm rt) {x : Int} {off : Int} {tgt : Nat} (hd : decode cc pc = .ok (.ifCond .le off, 3)) (ht : (pc : Int) + off = (tgt : Int)) (hp : pc + 3 = pc') (kt : ¬ (0 < x) → AW Γ sh M k n tgt ls st Q) (kf : 0 < x → AW Γ sh M k n pc' ls st Q) : AW Γ sh M k n pc ls (.inl x :: st) Q := by
  subst hp
  obtain ⟨⟨p, l, e, R⟩, ⟨s, m, args, below⟩, ⟨meth, c⟩, G⟩ := Γ
  intro H locs lsA hr hS hL hst
  obtain ⟨hx, h2⟩ := ok1 hst
  refine lv_if_le hC.1 hC.2.1 hd ht (fun q => kt ?_ H locs lsA hr hS hL h2) (fun q => kf ?_ H locs lsA hr hS hL h2)
  all_goals (rw [← i32_0] at q)
  all_goals (rw [i32_le hx I32_0] at q; omega)
theorem aw_icmp_eq (hC : AOK Γ own cc nL d kc nc nm rt) {x y : Int} {off : Int} {tgt : Nat} (hd : decode cc pc = .ok (.if_icmp .eq off, 3)) (ht : (pc : Int) + off = (tgt : Int)) (hp : pc + 3 = pc') (kt : x = y → AW Γ sh M k n tgt ls st Q) (kf : ¬ (x = y) → AW Γ sh M k n pc' ls st Q) : AW Γ sh M k n pc ls (.inl y :: .inl x :: st) Q := by
  subst hp
  obtain ⟨⟨p, l, e, R⟩, ⟨s, m, args, below⟩, ⟨meth, c⟩, G⟩ := Γ
  intro H locs lsA hr hS hL hst
  obtain ⟨hy, h1⟩ := ok1 hst
  obtain ⟨hx, h2⟩ := ok1 h1
  refine lv_icmp_eq hC.1 hC.2.1 hd ht (fun q => kt ?_ H locs lsA hr hS hL h2) (fun q => kf ?_ H locs lsA hr hS hL h2)
  · exact (i32_x hx hy).mp q
  · exact fun h => q ((i32_x hx hy).mpr h)
theorem aw_icmp_ne (hC : AOK Γ own cc nL d kc nc nm rt) {x y : Int} {off : Int} {tgt : Nat} (hd : decode cc pc = .ok (.if_icmp .ne off, 3)) (ht : (pc : Int) + off = (tgt : Int)) (hp : pc + 3 = pc') (kt : ¬ (x = y) → AW Γ sh M k n tgt ls st Q) (kf : x = y → AW Γ sh M k n pc' ls st Q) : AW Γ sh M k n pc ls (.inl y :: .inl x :: st) Q := by
  subst hp
  obtain ⟨⟨p, l, e, R⟩, ⟨s, m, args, below⟩, ⟨meth, c⟩, G⟩ := Γ
  intro H locs lsA hr hS hL hst
  obtain ⟨hy, h1⟩ := ok1 hst
  obtain ⟨hx, h2⟩ := ok1 h1
  refine lv_icmp_ne hC.1 hC.2.1 hd ht (fun q => kt ?_ H locs lsA hr hS hL h2) (fun q => kf ?_ H locs lsA hr hS hL h2)
  · exact fun h => q ((i32_x hx hy).mpr h)
  · first | exact (i32_x hx hy).mp q | exact (i32_x hx hy).mp (Classical.not_not.mp q)
theorem aw_icmp_lt (hC : AOK Γ own cc nL d kc nc nm rt) {x y : Int} {off : Int} {tgt : Nat} (hd : decode cc pc = .ok (.if_icmp .lt off, 3)) (ht : (pc : Int) + off = (tgt : Int)) (hp : pc + 3 = pc') (kt : x < y → AW Γ sh M k n tgt ls st Q) (kf : ¬ (x < y) → AW Γ sh M k n pc' ls st Q) : AW Γ sh M k n pc ls (.inl y :: .inl x :: st) Q := by
  subst hp
  obtain ⟨⟨p, l, e, R⟩, ⟨s, m, args, below⟩, ⟨meth, c⟩, G⟩ := Γ
  intro H locs lsA hr hS hL hst
  obtain ⟨hy, h1⟩ := ok1 hst
  obtain ⟨hx, h2⟩ := ok1 h1
  refine lv_icmp_lt hC.1 hC.2.1 hd ht (fun q => kt ?_ H locs lsA hr hS hL h2) (fun q => kf ?_ H locs lsA hr hS hL h2)
  · exact (i32_lt hx hy).mp q
  · exact fun h => q ((i32_lt hx hy).mpr h)
theorem aw_icmp_ge (hC : AOK Γ own cc nL d kc nc nm rt) {x y : Int} {off : Int} {tgt : Nat} (hd : decode cc pc = .ok (.if_icmp .ge off, 3)) (ht : (pc : Int) + off = (tgt : Int)) (hp : pc + 3 = pc') (kt : ¬ (x < y) → AW Γ sh M k n tgt ls st Q) (kf : x < y → AW Γ sh M k n pc' ls st Q) : AW Γ sh M k n pc ls (.inl y :: .inl x :: st) Q := by
  subst hp
  obtain ⟨⟨p, l, e, R⟩, ⟨s, m, args, below⟩, ⟨meth, c⟩, G⟩ := Γ
  intro H locs lsA hr hS hL hst
  obtain ⟨hy, h1⟩ := ok1 hst
  obtain ⟨hx, h2⟩ := ok1 h1
  refine lv_icmp_ge hC.1 hC.2.1 hd ht (fun q => kt ?_ H locs lsA hr hS hL h2) (fun q => kf ?_ H locs lsA hr hS hL h2)
  all_goals first | (rw [ge_iff_le, i32_le hy hx] at q; omega) | (rw [i32_le hy hx] at q; omega)
theorem aw_icmp_gt (hC : AOK Γ own cc nL d kc nc nm rt) {x y : Int} {off : Int} {tgt : Nat} (hd : decode cc pc = .ok (.if_icmp .gt off, 3)) (ht : (pc : Int) + off = (tgt : Int)) (hp : pc + 3 = pc') (kt : y < x → AW Γ sh M k n tgt ls st Q) (kf : ¬ (y < x) → AW Γ sh M k n pc' ls st Q) : AW Γ sh M k n pc ls (.inl y :: .inl x :: st) Q := by
  subst hp
  obtain ⟨⟨p, l, e, R⟩, ⟨s, m, args, below⟩, ⟨meth, c⟩, G⟩ := Γ
  intro H locs lsA hr hS hL hst
  obtain ⟨hy, h1⟩ := ok1 hst
  obtain ⟨hx, h2⟩ := ok1 h1
  refine lv_icmp_gt hC.1 hC.2.1 hd ht (fun q => kt ?_ H locs lsA hr hS hL h2) (fun q => kf ?_ H locs lsA hr hS hL h2)
  all_goals first | (rw [gt_iff_lt, i32_lt hy hx] at q; omega) | (rw [i32_lt hy hx] at q; omega)
theorem aw_icmp_le (hC : AOK Γ own cc nL d kc nc nm rt) {x y : Int} {off : Int} {tgt : Nat} (hd : decode cc pc = .ok (.if_icmp .le off, 3)) (ht : (pc : Int) + off = (tgt : Int)) (hp : pc + 3 = pc') (kt : ¬ (y < x) → AW Γ sh M k n tgt ls st Q) (kf : y < x → AW Γ sh M k n pc' ls st Q) : AW Γ sh M k n pc ls (.inl y :: .inl x :: st) Q := by
  subst hp
  obtain ⟨⟨p, l, e, R⟩, ⟨s, m, args, below⟩, ⟨meth, c⟩, G⟩ := Γ
  intro H locs lsA hr hS hL hst
  obtain ⟨hy, h1⟩ := ok1 hst
  obtain ⟨hx, h2⟩ := ok1 h1
  refine lv_icmp_le hC.1 hC.2.1 hd ht (fun q => kt ?_ H locs lsA hr hS hL h2) (fun q => kf ?_ H locs lsA hr hS hL h2)
  all_goals (rw [i32_le hx hy] at q; omega)
theorem aw_goto (hC : AOK Γ own cc nL d kc nc nm rt) {off : Int} {tgt : Nat} (hd : decode cc pc = .ok (.goto off, 3)) (ht : (pc : Int) + off = (tgt : Int)) (kk : AW Γ sh M k n tgt ls st Q) : AW Γ sh M k n pc ls st Q := by
  obtain ⟨⟨p, l, e, R⟩, ⟨s, m, args, below⟩, ⟨meth, c⟩, G⟩ := Γ
  intro H locs lsA hr hS hL hst
  exact lv_goto hC.1 hC.2.1 hd ht (kk H locs lsA hr hS hL hst)
theorem aw_tsOut (hC : AOK Γ own cc nL d kc nc nm rt) {x dflt lo hi : Int} {offs : Array Int} {len tgt : Nat} (hd : decode cc pc = .ok (.tableswitch dflt lo hi offs, len)) (hx : x < lo ∨ hi < x) (ht : (pc : Int) + dflt = (tgt : Int)) (kk : AW Γ sh M k n tgt ls st Q) : AW Γ sh M k n pc ls (.inl x :: st) Q := by
  obtain ⟨⟨p, l, e, R⟩, ⟨s, m, args, below⟩, ⟨meth, c⟩, G⟩ := Γ
  intro H locs lsA hr hS hL hst
  obtain ⟨h1, h2⟩ := ok1 hst
  exact lv_tableOut hC.1 hC.2.1 hd (by rw [i32_i h1]; exact hx) ht (kk H locs lsA hr hS hL h2)
theorem aw_tsIn (hC : AOK Γ own cc nL d kc nc nm rt) {x dflt lo hi off : Int} {offs : Array Int} {len tgt : Nat} (hd : decode cc pc = .ok (.tableswitch dflt lo hi offs, len)) (hx : ¬ x < lo ∧ ¬ hi < x ∧ offs[(x - lo).toNat]? = some off) (ht : (pc : Int) + off = (tgt : Int)) (kk : AW Γ sh M k n tgt ls st Q) : AW Γ sh M k n pc ls (.inl x :: st) Q := by
  obtain ⟨⟨p, l, e, R⟩, ⟨s, m, args, below⟩, ⟨meth, c⟩, G⟩ := Γ
  intro H locs lsA hr hS hL hst
  obtain ⟨h1, h2⟩ := ok1 hst
  exact lv_tableIn hC.1 hC.2.1 hd (by rw [i32_i h1]; exact hx.1) (by rw [i32_i h1]; exact hx.2.1) (by rw [i32_i h1]; exact hx.2.2) ht (kk H locs lsA hr hS hL h2)
theorem aw_ls (hC : AOK Γ own cc nL d kc nc nm rt) {x dflt off : Int} {ps : Array (Int × Int)} {len tgt : Nat} (hd : decode cc pc = .ok (.lookupswitch dflt ps, len)) (hps : (ps.toList.zip (ps.toList.drop 1)).all (fun (a, next) => a.1 < next.1) = true) (ho : Op.lookupswitch.offset ps.toList dflt x = off) (ht : (pc : Int) + off = (tgt : Int)) (kk : AW Γ sh M k n tgt ls st Q) : AW Γ sh M k n pc ls (.inl x :: st) Q := by
  obtain ⟨⟨p, l, e, R⟩, ⟨s, m, args, below⟩, ⟨meth, c⟩, G⟩ := Γ
  intro H locs lsA hr hS hL hst
  obtain ⟨h1, h2⟩ := ok1 hst
  exact lv_lookup hC.1 hC.2.1 hd hps (by rw [i32_i h1]; exact ho) ht (kk H locs lsA hr hS hL h2)
end AWR
