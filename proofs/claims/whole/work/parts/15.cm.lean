/-! what the methods' numbers are written in: guards, calls, loops -/
section AWM
def gd_ {α : Type} (c : Prop) [Decidable c] (t : Option α) : Option α := if c then t else none
def pb {α β : Type} (o : Option α) (f : α → Option β) : Option β := match o with
  | none => none
  | some a => f a
def bd_ {α β : Type} (x : α) (f : α → β) : β := f x
def lp {σ ρ : Type} (body : σ → Option (σ ⊕ ρ)) : Nat → σ → Option ρ
  | 0, _ => none
  | n + 1, s => match body s with
    | none => none
    | some (.inl s') => lp body n s'
    | some (.inr r) => some r
def FU : Nat := 100000
def u1 {α β : Type} (f : α → β) (t : α) : β := f t
def u2 {α β γ : Type} (f : α → β → γ) (t : α × β) : γ := f t.1 t.2
def u3 {A B C D : Type} (f : A → B → C → D) (t : A × B × C) : D := f t.1 t.2.1 t.2.2
def u4 {A B C D E : Type} (f : A → B → C → D → E) (t : A × B × C × D) : E := f t.1 t.2.1 t.2.2.1 t.2.2.2
def u5 {A B C D E F : Type} (f : A → B → C → D → E → F) (t : A × B × C × D × E) : F := f t.1 t.2.1 t.2.2.1 t.2.2.2.1 t.2.2.2.2
def u6 {A B C D E F G : Type} (f : A → B → C → D → E → F → G) (t : A × B × C × D × E × F) : G := f t.1 t.2.1 t.2.2.1 t.2.2.2.1 t.2.2.2.2.1 t.2.2.2.2.2
def u7 {A B C D E F G H : Type} (f : A → B → C → D → E → F → G → H) (t : A × B × C × D × E × F × G) : H := f t.1 t.2.1 t.2.2.1 t.2.2.2.1 t.2.2.2.2.1 t.2.2.2.2.2.1 t.2.2.2.2.2.2
def u0 {β : Type} (f : β) (_ : Unit) : β := f
theorem gd_s {α : Type} {c : Prop} [Decidable c] {t : Option α} {r : α} (h : gd_ c t = some r) : c ∧ t = some r := by
  unfold gd_ at h
  by_cases hc : c
  · rw [if_pos hc] at h; exact ⟨hc, h⟩
  · rw [if_neg hc] at h; cases h
theorem pb_s {α β : Type} {o : Option α} {f : α → Option β} {r : β} (h : pb o f = some r) : ∃ a, o = some a ∧ f a = some r := by
  cases o with
  | none => cases h
  | some a => exact ⟨a, rfl, h⟩
theorem se_l {A B C : Type} {f : A → C} {g : B → C} {a : A} {r : C} (h : Sum.elim f g (.inl a) = r) : f a = r := h
theorem se_r {A B C : Type} {f : A → C} {g : B → C} {b : B} {r : C} (h : Sum.elim f g (.inr b) = r) : g b = r := h
theorem bd_s {α β : Type} {x : α} {f : α → β} {r : β} (h : bd_ x f = r) : ∃ y, y = x ∧ f y = r := ⟨x, rfl, h⟩
theorem bd_e {α β : Type} {x : α} {f : α → β} {r : β} (h : bd_ x f = r) : f x = r := h
theorem u0_s {β : Type} {f : β} {t : Unit} {r : β} (h : u0 f t = r) : f = r := h
theorem u1_s {α β : Type} {f : α → β} {t : α} {r : β} (h : u1 f t = r) : f t = r := h
theorem u2_s {α β γ : Type} {f : α → β → γ} {a : α} {b : β} {r : γ} (h : u2 f (a, b) = r) : f a b = r := h
theorem u3_s {A B C D : Type} {f : A → B → C → D} {a : A} {b : B} {c : C} {r : D} (h : u3 f (a, b, c) = r) : f a b c = r := h
theorem u4_s {A B C D E : Type} {f : A → B → C → D → E} {a : A} {b : B} {c : C} {d : D} {r : E} (h : u4 f (a, b, c, d) = r) : f a b c d = r := h
theorem u5_s {A B C D E F : Type} {f : A → B → C → D → E → F} {a : A} {b : B} {c : C} {d : D} {e : E} {r : F} (h : u5 f (a, b, c, d, e) = r) : f a b c d e = r := h
theorem u6_s {A B C D E F G : Type} {f : A → B → C → D → E → F → G} {a : A} {b : B} {c : C} {d : D} {e : E} {g : F} {r : G} (h : u6 f (a, b, c, d, e, g) = r) : f a b c d e g = r := h
theorem u7_s {A B C D E F G H : Type} {f : A → B → C → D → E → F → G → H} {a : A} {b : B} {c : C} {d : D} {e : E} {g : F} {i : G} {r : H} (h : u7 f (a, b, c, d, e, g, i) = r) : f a b c d e g i = r := h
theorem lp_aw {σ ρ : Type} {body : σ → Option (σ ⊕ ρ)} (P : σ → Prop) (X : ρ → Prop) (hs : ∀ s r, body s = some r → (∀ s', r = .inl s' → P s') → (∀ t, r = .inr t → X t) → P s) : ∀ (N : Nat) (s : σ) (t : ρ), lp body N s = some t → X t → P s := by
  intro N
  induction N with
  | zero => intro s t h; cases h
  | succ n ih =>
    intro s t h hX
    unfold lp at h
    cases hb : body s with
    | none => rw [hb] at h; cases h
    | some r =>
      rw [hb] at h
      cases r with
      | inl s' => exact hs s _ hb (fun s2 e => by cases e; exact ih s' t h hX) (fun t2 e => by cases e)
      | inr t' =>
        have e : t' = t := Option.some.inj h
        subst e
        exact hs s _ hb (fun s2 e => by cases e) (fun t2 e => by cases e; exact hX)
variable {Γ : AwC} {own nm : String} {cc : ByteArray} {nL d kc nc : Nat} {rt : Option FieldType} {sh sh' : AwS} {M M' : AwM} {k n k2 n2 pc pc' : Nat} {ls ls' : List (Option AwV)} {st st' stN : List AwV} {Q : State → Prop}
theorem aw_cV (hC : AOK Γ own cc nL d kc nc nm rt) {y : MethodName} {bytes : ByteArray} {maxL d' kc' nc' idx ci na : Nat} {ret : Option FieldType} {a : Int} {r : Option AwV} (As : List AwV) (hM : AMet y bytes maxL ret d' kc' nc' (.inr (.inr a) :: As) sh M r sh' M') (hl : LV_ own idx y bytes maxL ret na ci) (hg : kd_ sh a = (0, ci)) (hd : decode cc pc = .ok (.invokevirtual idx, 3)) (hp : pc + 3 = pc') (hna : As.length = na) (hfr : d' + 1 ≤ d) (hkc : k2 ≤ kc) (hnc : n2 ≤ nc) (hst : As.reverse ++ .inr (.inr a) :: st = st') (hct : (st.map ct_).sum ≤ 8) (hk2 : k + kc' = k2) (hn2 : n + nc' = n2) (hN : r.toList ++ st = stN) (kk : AW Γ sh' M' k2 n2 pc' ls stN Q) : AW Γ sh M k n pc ls st' Q := by
  subst hk2; subst hn2; subst hN
  exact aw_invV hC As hM hl hg hd hp hna hfr hkc hnc hst hct kk
theorem aw_cS (hC : AOK Γ own cc nL d kc nc nm rt) {y : MethodName} {bytes : ByteArray} {maxL d' kc' nc' idx na : Nat} {ret : Option FieldType} {r : Option AwV} (As : List AwV) (hM : AMet y bytes maxL ret d' kc' nc' As sh M r sh' M') (hl : LS_ own idx y bytes maxL ret na) (hd : decode cc pc = .ok (.invokestatic idx, 3)) (hp : pc + 3 = pc') (hna : As.length = na) (hfr : d' + 1 ≤ d) (hkc : k2 ≤ kc) (hnc : n2 ≤ nc) (hst : As.reverse ++ st = st') (hct : (st.map ct_).sum ≤ 8) (hk2 : k + kc' = k2) (hn2 : n + nc' = n2) (hN : r.toList ++ st = stN) (kk : AW Γ sh' M' k2 n2 pc' ls stN Q) : AW Γ sh M k n pc ls st' Q := by
  subst hk2; subst hn2; subst hN
  exact aw_invS hC As hM hl hd hp hna hfr hkc hnc hst hct kk
theorem aw_cSN (hC : AOK Γ own cc nL d kc nc nm rt) {y : MethodName} {bytes : ByteArray} {maxL d' kc' nc' idx na : Nat} {host : String} {ret : Option FieldType} {r : Option AwV} (As : List AwV) (hM : AMet y bytes maxL ret d' kc' nc' As sh M r sh' M') (hl : LSN_ own idx host y bytes maxL ret na) (hd : decode cc pc = .ok (.invokestatic idx, 3)) (hp : pc + 3 = pc') (hna : As.length = na) (hfr : d' + 1 ≤ d) (hkc : k2 ≤ kc) (hnc : n2 ≤ nc) (hst : As.reverse ++ st = st') (hct : (st.map ct_).sum ≤ 8) (hk2 : k + kc' = k2) (hn2 : n + nc' = n2) (hN : r.toList ++ st = stN) (kk : AW Γ sh' M' k2 n2 pc' ls stN Q) : AW Γ sh M k n pc ls st' Q := by
  subst hk2; subst hn2; subst hN
  exact aw_invSN hC As hM hl hd hp hna hfr hkc hnc hst hct kk
theorem aw_cI (hC : AOK Γ own cc nL d kc nc nm rt) {y : MethodName} {bytes : ByteArray} {maxL d' kc' nc' idx na : Nat} {a : Int} {r : Option AwV} (As : List AwV) (hM : AMet y bytes maxL none d' kc' nc' (.inr (.inr a) :: As) sh M r sh' M') (hl : LI_ own idx y bytes maxL na) (ha0 : 0 < a) (hd : decode cc pc = .ok (.invokespecial idx, 3)) (hp : pc + 3 = pc') (hna : As.length = na) (hfr : d' + 1 ≤ d) (hkc : k2 ≤ kc) (hnc : n2 ≤ nc) (hst : As.reverse ++ .inr (.inr a) :: st = st') (hct : (st.map ct_).sum ≤ 8) (hk2 : k + kc' = k2) (hn2 : n + nc' = n2) (hN : r.toList ++ st = stN) (kk : AW Γ sh' M' k2 n2 pc' ls stN Q) : AW Γ sh M k n pc ls st' Q := by
  subst hk2; subst hn2; subst hN
  exact aw_invI hC As hM hl ha0 hd hp hna hfr hkc hnc hst hct kk
theorem aw_cIN (hC : AOK Γ own cc nL d kc nc nm rt) {y : MethodName} {bytes : ByteArray} {maxL d' kc' nc' idx na : Nat} {host : String} {a : Int} {r : Option AwV} (As : List AwV) (hM : AMet y bytes maxL none d' kc' nc' (.inr (.inr a) :: As) sh M r sh' M') (hl : LIN_ own idx host y bytes maxL na) (ha0 : 0 < a) (hd : decode cc pc = .ok (.invokespecial idx, 3)) (hp : pc + 3 = pc') (hna : As.length = na) (hfr : d' + 1 ≤ d) (hkc : k2 ≤ kc) (hnc : n2 ≤ nc) (hst : As.reverse ++ .inr (.inr a) :: st = st') (hct : (st.map ct_).sum ≤ 8) (hk2 : k + kc' = k2) (hn2 : n + nc' = n2) (hN : r.toList ++ st = stN) (kk : AW Γ sh' M' k2 n2 pc' ls stN Q) : AW Γ sh M k n pc ls st' Q := by
  subst hk2; subst hn2; subst hN
  exact aw_invIN hC As hM hl ha0 hd hp hna hfr hkc hnc hst hct kk
end AWM
section AWM2
variable {Γ : AwC} {own nm : String} {cc : ByteArray} {nL d kc nc : Nat} {rt : Option FieldType} {sh sh1 : AwS} {M M1 : AwM} {k n k2 n2 pc pc' : Nat} {ls ls' : List (Option AwV)} {st st' stN : List AwV} {Q : State → Prop}
theorem it_p {α : Type} {c : Prop} [Decidable c] {a b r : α} (hc : c) (h : (if c then a else b) = r) : a = r := by rw [if_pos hc] at h; exact h
theorem it_n {α : Type} {c : Prop} [Decidable c] {a b r : α} (hc : ¬ c) (h : (if c then a else b) = r) : b = r := by rw [if_neg hc] at h; exact h
theorem os_n {x a o d : Int} {r : List (Int × Int)} (h : ¬ x = a) : Op.lookupswitch.offset ((a, o) :: r) d x = Op.lookupswitch.offset r d x := by
  rw [Op.lookupswitch.offset_cons, if_neg (fun q => h q.symm)]
theorem os_p {x a o d : Int} {r : List (Int × Int)} (h : x = a) : Op.lookupswitch.offset ((a, o) :: r) d x = o := by
  rw [Op.lookupswitch.offset_cons, if_pos h.symm]
theorem aw_reni {x y : Int} (h : y = x) (kk : AW Γ sh M k n pc ls (.inl y :: st) Q) : AW Γ sh M k n pc ls (.inl x :: st) Q := by subst h; exact kk
theorem aw_renl {x y : Int} (h : y = x) (kk : AW Γ sh M k n pc ls (.inr (.inl y) :: st) Q) : AW Γ sh M k n pc ls (.inr (.inl x) :: st) Q := by subst h; exact kk
theorem aw_rena {x y : Int} (h : y = x) (kk : AW Γ sh M k n pc ls (.inr (.inr y) :: st) Q) : AW Γ sh M k n pc ls (.inr (.inr x) :: st) Q := by subst h; exact kk
theorem aw_pf (hC : AOK Γ own cc nL d kc nc nm rt) {a x : Int} {ci j idx : Nat} {v : AwV} (hd : decode cc pc = .ok (.putfield idx, 3)) (hp : pc + 3 = pc') (hf : FP_ own idx ci j) (hg : kd_ sh a = (0, ci)) (hv : avT (tyF ci j) x = v) (hz : bz_ (tyF ci j) x) (hM : M1 = up_ M a (j : Int) x) (kk : AW Γ sh M1 k n pc' ls st Q) : AW Γ sh M k n pc ls (v :: .inr (.inr a) :: st) Q := by subst hM; exact aw_putfield hC hd hp hf hg hv hz kk
theorem aw_pff (hC : AOK Γ own cc nL d kc nc "<init>" rt) {a x : Int} {ci j idx : Nat} {v : AwV} (hd : decode cc pc = .ok (.putfield idx, 3)) (hp : pc + 3 = pc') (hf : FF_ own idx ci j) (hg : kd_ sh a = (0, ci)) (hv : avT (tyF ci j) x = v) (hz : bz_ (tyF ci j) x) (hM : M1 = up_ M a (j : Int) x) (kk : AW Γ sh M1 k n pc' ls st Q) : AW Γ sh M k n pc ls (v :: .inr (.inr a) :: st) Q := by subst hM; exact aw_putfinal hC hd hp hf hg hv hz kk
theorem aw_ias (hC : AOK Γ own cc nL d kc nc nm rt) {a i x : Int} (hd : decode cc pc = .ok (.iastore, 1)) (hp : pc + 1 = pc') (hg : (kd_ sh a).1 = 1 ∧ 0 ≤ i ∧ i < (kd_ sh a).2) (hM : M1 = up_ M a i x) (kk : AW Γ sh M1 k n pc' ls st Q) : AW Γ sh M k n pc ls (.inl x :: .inl i :: .inr (.inr a) :: st) Q := by subst hM; exact aw_iastore hC hd hp hg kk
theorem aw_las (hC : AOK Γ own cc nL d kc nc nm rt) {a i x : Int} (hd : decode cc pc = .ok (.lastore, 1)) (hp : pc + 1 = pc') (hg : (kd_ sh a).1 = 2 ∧ 0 ≤ i ∧ i < (kd_ sh a).2) (hM : M1 = up_ M a i x) (kk : AW Γ sh M1 k n pc' ls st Q) : AW Γ sh M k n pc ls (.inr (.inl x) :: .inl i :: .inr (.inr a) :: st) Q := by subst hM; exact aw_lastore hC hd hp hg kk
theorem aw_bas (hC : AOK Γ own cc nL d kc nc nm rt) {a i x : Int} (hd : decode cc pc = .ok (.bastore, 1)) (hp : pc + 1 = pc') (hg : (kd_ sh a).1 = 3 ∧ 0 ≤ i ∧ i < (kd_ sh a).2) (hM : M1 = up_ M a i (w8_ x)) (kk : AW Γ sh M1 k n pc' ls st Q) : AW Γ sh M k n pc ls (.inl x :: .inl i :: .inr (.inr a) :: st) Q := by subst hM; exact aw_bastore hC hd hp hg kk
theorem aw_zas (hC : AOK Γ own cc nL d kc nc nm rt) {a i x : Int} (hd : decode cc pc = .ok (.bastore, 1)) (hp : pc + 1 = pc') (hg : (kd_ sh a).1 = 4 ∧ 0 ≤ i ∧ i < (kd_ sh a).2) (hz : x = 0 ∨ x = 1) (hM : M1 = up_ M a i x) (kk : AW Γ sh M1 k n pc' ls st Q) : AW Γ sh M k n pc ls (.inl x :: .inl i :: .inr (.inr a) :: st) Q := by subst hM; exact aw_zastore hC hd hp hg hz kk
theorem aw_nw (hC : AOK Γ own cc nL d kc nc nm rt) {ci N idx : Nat} {v : Int} (hd : decode cc pc = .ok (.new idx, 3)) (hp : pc + 3 = pc') (hf : NW_ own idx ci N) (hk2 : k + 1 = k2) (hn2 : n + N = n2) (hk : k2 ≤ kc) (hn : n2 ≤ nc) (hv : v = ((sh.length : Nat) : Int)) (hs : sh1 = sh ++ [(0, ci)]) (kk : AW Γ sh1 M k2 n2 pc' ls (.inr (.inr v) :: st) Q) : AW Γ sh M k n pc ls st Q := by
  subst hk2; subst hn2; subst hs
  exact aw_new hC hd hp hf hk hn hv.symm kk
theorem aw_na_int (hC : AOK Γ own cc nL d kc nc nm rt) {x v : Int} {N : Nat} (hd : decode cc pc = .ok (.newarray .int, 2)) (hp : pc + 2 = pc') (hw : Cond.arrayClass .int ∈ gw_tbl) (hx : x = (N : Int)) (hN : N ≤ 65536) (hk2 : k + 1 = k2) (hn2 : n + N = n2) (hk : k2 ≤ kc) (hn : n2 ≤ nc) (hv : v = ((sh.length : Nat) : Int)) (hs : sh1 = sh ++ [(1, N)]) (kk : AW Γ sh1 M k2 n2 pc' ls (.inr (.inr v) :: st) Q) : AW Γ sh M k n pc ls (.inl x :: st) Q := by
  subst hk2; subst hn2; subst hs
  exact aw_newarr_int hC hd hp hw hx hN hk hn hv.symm kk
theorem aw_na_long (hC : AOK Γ own cc nL d kc nc nm rt) {x v : Int} {N : Nat} (hd : decode cc pc = .ok (.newarray .long, 2)) (hp : pc + 2 = pc') (hw : Cond.arrayClass .long ∈ gw_tbl) (hx : x = (N : Int)) (hN : N ≤ 65536) (hk2 : k + 1 = k2) (hn2 : n + N = n2) (hk : k2 ≤ kc) (hn : n2 ≤ nc) (hv : v = ((sh.length : Nat) : Int)) (hs : sh1 = sh ++ [(2, N)]) (kk : AW Γ sh1 M k2 n2 pc' ls (.inr (.inr v) :: st) Q) : AW Γ sh M k n pc ls (.inl x :: st) Q := by
  subst hk2; subst hn2; subst hs
  exact aw_newarr_long hC hd hp hw hx hN hk hn hv.symm kk
theorem aw_na_byte (hC : AOK Γ own cc nL d kc nc nm rt) {x v : Int} {N : Nat} (hd : decode cc pc = .ok (.newarray .byte, 2)) (hp : pc + 2 = pc') (hw : Cond.arrayClass .byte ∈ gw_tbl) (hx : x = (N : Int)) (hN : N ≤ 65536) (hk2 : k + 1 = k2) (hn2 : n + N = n2) (hk : k2 ≤ kc) (hn : n2 ≤ nc) (hv : v = ((sh.length : Nat) : Int)) (hs : sh1 = sh ++ [(3, N)]) (kk : AW Γ sh1 M k2 n2 pc' ls (.inr (.inr v) :: st) Q) : AW Γ sh M k n pc ls (.inl x :: st) Q := by
  subst hk2; subst hn2; subst hs
  exact aw_newarr_byte hC hd hp hw hx hN hk hn hv.symm kk
theorem aw_na_boolean (hC : AOK Γ own cc nL d kc nc nm rt) {x v : Int} {N : Nat} (hd : decode cc pc = .ok (.newarray .boolean, 2)) (hp : pc + 2 = pc') (hw : Cond.arrayClass .boolean ∈ gw_tbl) (hx : x = (N : Int)) (hN : N ≤ 65536) (hk2 : k + 1 = k2) (hn2 : n + N = n2) (hk : k2 ≤ kc) (hn : n2 ≤ nc) (hv : v = ((sh.length : Nat) : Int)) (hs : sh1 = sh ++ [(4, N)]) (kk : AW Γ sh1 M k2 n2 pc' ls (.inr (.inr v) :: st) Q) : AW Γ sh M k n pc ls (.inl x :: st) Q := by
  subst hk2; subst hn2; subst hs
  exact aw_newarr_boolean hC hd hp hw hx hN hk hn hv.symm kk
end AWM2
