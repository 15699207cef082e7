/-! the abstract walk: states, contexts, contracts -/
section AWD
abbrev AwV : Type := Int ⊕ (Int ⊕ Int)
abbrev AwM : Type := Int → Int → Int
abbrev AwS : Type := List (Nat × Nat)
abbrev AwG : Type := va_G × Nat × Nat × Nat × (Nat → Int32) × (Nat → Nat) × (Nat → Nat) × Option Nat
abbrev AwC : Type := (Program × Launch × Env × Room) × (State × MethodId × Array Value × List Frame) × (Method × Code) × AwG
def gw_tbl : List Cond := lw_tbl.filter goodWord
def isNw_ : Cond → Bool
  | .methodLinkNest _ _ _ _ => true
  | .arrayOver (.object _) => true
  | _ => false
def nw_tbl : List Cond := lw_tbl.filter isNw_
def ngv_ (G : AwG) (v : Int) : Value := if v = -1 then .ref G.2.2.1 else if v = -2 then .ref (G.2.2.2.2.2.1 0) else if v = -3 then .ref (G.2.2.2.2.2.1 1) else if v = -4 then .ref (G.2.2.2.2.2.2.1 0) else if v = -5 then .ref (G.2.2.2.2.2.2.1 1) else va_rf G.2.2.2.2.2.2.2
def rv_ (G : AwG) (v : Int) : Value := if v = 0 then .null else if v < 0 then ngv_ G v else .ref (G.2.1 + v.toNat)
def cv_ (G : AwG) : AwV → Value
  | .inl v => .int (i32 v)
  | .inr (.inl v) => .long (i64 v)
  | .inr (.inr v) => rv_ G v
def ok_ : AwV → Prop
  | .inl v => I32 v
  | .inr (.inl v) => I64 v
  | .inr (.inr _) => True
def ct_ : AwV → Nat
  | .inr (.inl _) => 2
  | _ => 1
theorem rv_or (G : AwG) (v : Int) : rv_ G v = .null ∨ ∃ a, rv_ G v = .ref a := by
  unfold rv_ ngv_ va_rf
  split
  · exact Or.inl rfl
  · split
    · repeat' split
      all_goals first | exact Or.inr ⟨_, rfl⟩ | exact Or.inl rfl
    · exact Or.inr ⟨_, rfl⟩
theorem rv_pos (G : AwG) {v : Int} (h : 0 < v) : rv_ G v = .ref (G.2.1 + v.toNat) := by
  unfold rv_
  rw [if_neg (by omega), if_neg (by omega)]
theorem cv_cat (G : AwG) (v : AwV) : (cv_ G v).category = ct_ v := by
  rcases v with v | v | v
  · rfl
  · rfl
  · show (rv_ G v).category = 1
    rcases rv_or G v with h | ⟨a, h⟩ <;> rw [h] <;> rfl
def tyF : Nat → Nat → FieldType := fun c => match c with
  | 0 => tyX0
  | 1 => tyX1
  | 2 => tyX2
  | 3 => tyX3
  | 4 => tyX4
  | 5 => tyX5
  | 6 => tyX6
  | 7 => tyX7
  | 8 => tyX8
  | _ => tyX9
def avT (t : FieldType) (v : Int) : AwV := match t with
  | .long => .inr (.inl v)
  | .object _ => .inr (.inr v)
  | .array _ => .inr (.inr v)
  | _ => .inl v
def up_ (M : AwM) (a i v : Int) : AwM := fun a' i' => if a' = a ∧ i' = i then v else M a' i'
def kd_ (sh : AwS) (a : Int) : Nat × Nat := if a ≤ 0 then (9, 0) else sh.getD a.toNat (9, 0)
theorem kd_at {sh : AwS} {a : Int} {k : Nat × Nat} (h : kd_ sh a = k) (hk : k.1 ≠ 9) : 0 < a ∧ a.toNat < sh.length ∧ sh[a.toNat]? = some k := by
  unfold kd_ at h
  by_cases h0 : a ≤ 0
  · rw [if_pos h0] at h; subst h; exact absurd rfl hk
  · rw [if_neg h0] at h
    rw [List.getD_eq_getElem?_getD] at h
    cases hx : sh[a.toNat]? with
    | none => rw [hx] at h; subst h; exact absurd rfl hk
    | some q =>
      rw [hx] at h
      exact ⟨by omega, (List.getElem?_eq_some_iff.mp hx).1, by rw [show q = k from h]⟩
/-- how a place stands in the heap, by its kind -/
def rk_ (G : AwG) (U : State) (H : Heap) (a : Nat) (k : Nat × Nat) (f : Int → Int) : Prop := match k.1 with
  | 0 => ∃ r : vw_C, vwCl[k.2]? = some r ∧ t_OB (G.2.1 + a) (G.1.1 k.2) r.2.2 (G.1.2 k.2) H (fun j => cv_ G (avT (tyF k.2 j) (f j))) ∧ ∀ j : Nat, j < r.2.2 → ok_ (avT (tyF k.2 j) (f j))
  | 1 => ∃ cA : ClassId, ArrOfT U cA .int ∧ H[G.2.1 + a]? = some (arrV cA k.2 (fun j => .int (i32 (f j)))) ∧ ∀ j : Nat, j < k.2 → I32 (f j)
  | 2 => ∃ cA : ClassId, ArrOfT U cA .long ∧ H[G.2.1 + a]? = some (arrV cA k.2 (fun j => .long (i64 (f j)))) ∧ ∀ j : Nat, j < k.2 → I64 (f j)
  | 3 => ∃ cA : ClassId, ArrOfT U cA .byte ∧ H[G.2.1 + a]? = some (arrV cA k.2 (fun j => .int (i32 (f j)))) ∧ ∀ j : Nat, j < k.2 → I32 (f j)
  | 4 => ∃ cA : ClassId, ArrOfT U cA .boolean ∧ H[G.2.1 + a]? = some (arrV cA k.2 (fun j => .int (i32 (f j)))) ∧ ∀ j : Nat, j < k.2 → I32 (f j)
  | 5 => ∃ cA : ClassId, ArrOfT U cA (.object "CoinCircle$Ledger") ∧ va_RA U cA (.object "CoinCircle$Ledger") ∧ H[G.2.1 + a]? = some (arrV cA k.2 (fun j => rv_ G (f j)))
  | _ => True
theorem rk_moved {G : AwG} {u U : State} {H : Heap} {a : Nat} {k : Nat × Nat} {f : Int → Int} (hvm : u.vm.Alike U.vm) (h : rk_ G u H a k f) : rk_ G U H a k f := by
  unfold rk_ at *
  split at h
  · exact h
  · obtain ⟨cA, h1, h2⟩ := h; exact ⟨cA, arrOfT_moved hvm h1, h2⟩
  · obtain ⟨cA, h1, h2⟩ := h; exact ⟨cA, arrOfT_moved hvm h1, h2⟩
  · obtain ⟨cA, h1, h2⟩ := h; exact ⟨cA, arrOfT_moved hvm h1, h2⟩
  · obtain ⟨cA, h1, h2⟩ := h; exact ⟨cA, arrOfT_moved hvm h1, h2⟩
  · obtain ⟨cA, h1, h3, h2⟩ := h; exact ⟨cA, arrOfT_moved hvm h1, h3.moved hvm, h2⟩
  · trivial
theorem rk_kept {G : AwG} {U : State} {H H1 : Heap} {a : Nat} {k : Nat × Nat} {f : Int → Int} (h : rk_ G U H a k f) (hq : H1[G.2.1 + a]? = H[G.2.1 + a]?) : rk_ G U H1 a k f := by
  unfold rk_ at *
  split at h
  · obtain ⟨r, h1, h2, h3⟩ := h; exact ⟨r, h1, h2.kept hq, h3⟩
  · obtain ⟨cA, h1, h2, h3⟩ := h; exact ⟨cA, h1, by rw [hq]; exact h2, h3⟩
  · obtain ⟨cA, h1, h2, h3⟩ := h; exact ⟨cA, h1, by rw [hq]; exact h2, h3⟩
  · obtain ⟨cA, h1, h2, h3⟩ := h; exact ⟨cA, h1, by rw [hq]; exact h2, h3⟩
  · obtain ⟨cA, h1, h2, h3⟩ := h; exact ⟨cA, h1, by rw [hq]; exact h2, h3⟩
  · obtain ⟨cA, h1, h2, h3⟩ := h; exact ⟨cA, h1, h2, by rw [hq]; exact h3⟩
  · trivial
def rep_ (G : AwG) (U : State) (sh : AwS) (M : AwM) (H : Heap) : Prop :=
  H.size = G.2.1 + sh.length ∧ 0 < sh.length ∧ (∀ (a : Nat) (k : Nat × Nat), 0 < a → sh[a]? = some k → rk_ G U H a k (M a)) ∧ (∀ a : Nat, sh.length ≤ a → ∀ i : Int, M a i = 0)
theorem rep_.moved {G : AwG} {u U : State} {sh : AwS} {M : AwM} {H : Heap} (hvm : u.vm.Alike U.vm) (h : rep_ G u sh M H) : rep_ G U sh M H :=
  ⟨h.1, h.2.1, fun a k h0 hk => rk_moved hvm (h.2.2.1 a k h0 hk), h.2.2.2⟩
/-- a cell that is there is written: the picture of its place alone changes -/
theorem rep_.put {G : AwG} {U : State} {sh : AwS} {M : AwM} {H H1 : Heap} {a i v : Int} {k : Nat × Nat} (h : rep_ G U sh M H) (hk : kd_ sh a = k) (hk9 : k.1 ≠ 9) (z : H1.size = H.size) (o : ∀ q : Nat, q ≠ G.2.1 + a.toNat → H1[q]? = H[q]?) (hn : rk_ G U H1 a.toNat k (up_ M a i v a.toNat)) : rep_ G U sh (up_ M a i v) H1 := by
  obtain ⟨h0, h1, h2⟩ := kd_at hk hk9
  refine ⟨z.trans h.1, h.2.1, fun b kb hb hkb => ?_, fun b hb j => ?_⟩
  · by_cases hab : b = a.toNat
    · subst hab
      rw [h2] at hkb
      cases hkb
      exact hn
    · have e : up_ M a i v (b : Nat) = M (b : Nat) := by
        funext j
        unfold up_
        rw [if_neg (by omega)]
      rw [e]
      exact rk_kept (h.2.2.1 b kb hb hkb) (o _ (by omega))
  · unfold up_
    rw [if_neg (by omega)]
    exact h.2.2.2 b hb j
def A_ (G : AwG) : Nat → Prop := fun q => G.2.1 < q
def byt_ : List (List Int32) := [[112, 101, 114, 115, 111, 110, 32, 114, 97, 110, 107, 32, 99, 111, 105, 110, 32, 119, 111, 114, 116, 104, 32, 111, 102, 32, 107, 110, 111, 119, 115, 32, 103, 111, 111, 100, 115, 32, 98, 121, 32, 115, 110, 117, 98, 32, 102, 97, 100, 101, 115, 32, 118, 111, 103, 117, 101, 32, 112, 114, 101, 115, 101, 110, 116, 115, 32, 112, 114, 105, 99, 101, 32, 111, 116, 104, 101, 114, 32, 99, 105, 114, 99, 108, 101, 32, 100, 97, 121, 32, 104, 111, 108, 100, 115, 32, 111, 114, 32, 97, 110, 100, 32, 110, 111, 116, 32, 97, 108, 108, 32, 109, 105, 110, 32, 109, 97, 120, 32], [59, 91, 93, 40, 41, 60, 62, 61, 43, 45, 42, 47, 37, 44]]
def ownTx : String := "person rank coin worth of knows goods by snub fades vogue presents price other circle day holds or and not all min max "
def sgnTx : String := ";[]()<>=+-*/%,"
/-- the two texts, and the two statics of the JDK's that their members read -/
def str_ (G : AwG) (U : State) (H : Heap) : Prop :=
  vk_S 2 [119, 14] byt_ G.2.2.2.2.2.1 G.2.2.2.2.2.2.1 (A_ G) U H ∧ vk_R "CoinCircle$Scanner" 28 ownTx (G.2.2.2.2.2.1 0) U ∧ vk_R "CoinCircle$Scanner" 94 sgnTx (G.2.2.2.2.2.1 1) U ∧
  va_Z "java/lang/String" "COMPACT_STRINGS" "Z" (.int 1) (A_ G) U H ∧ va_Z "jdk/internal/util/Preconditions" "SIOOBE_FORMATTER" "Ljava/util/function/BiFunction;" (va_rf G.2.2.2.2.2.2.2) (A_ G) U H
theorem str_.warm {G : AwG} {s U : State} {H : Heap} (hW : s.WarmedH U.vm) (h : str_ G s H) : str_ G U H :=
  ⟨h.1.moved hW.alike, h.2.1.warm hW, h.2.2.1.warm hW, h.2.2.2.1.moved hW.alike, h.2.2.2.2.moved hW.alike⟩
theorem str_.same {G : AwG} {s U : State} {H : Heap} (hv : U.vm = s.vm) (h : str_ G s H) : str_ G U H :=
  ⟨h.1.moved (by rw [hv]; exact Vm.Alike.refl _), h.2.1.same hv, h.2.2.1.same hv, h.2.2.2.1.moved (by rw [hv]; exact Vm.Alike.refl _), h.2.2.2.2.moved (by rw [hv]; exact Vm.Alike.refl _)⟩
theorem str_.kept {G : AwG} {U : State} {H H1 : Heap} (h : str_ G U H) (hq : ∀ a : Nat, a < H.size → ¬ A_ G a → H1[a]? = H[a]?) : str_ G U H1 :=
  ⟨h.1.kept hq, h.2.1, h.2.2.1, h.2.2.2.1.kept hq, h.2.2.2.2.kept hq⟩
def lh_ (G : AwG) (lsA : Array Slot) (nL : Nat) (ls : List (Option AwV)) : Prop :=
  lsA.size = nL ∧ lv_wf lsA ∧ ls.length ≤ nL ∧ ∀ (i : Nat) (v : AwV), ls[i]? = some (some v) → lsA[i]? = some (.val (cv_ G v)) ∧ ok_ v
def rm_ (d kc nc : Nat) : Room := { frames := d, cells := kc, slots := nc, locals := 40 * d }
def AOK (Γ : AwC) (own : String) (cc : ByteArray) (nL d kc nc : Nat) (nm : String) (rt : Option FieldType) : Prop :=
  Γ.1.1.tables.exec = Jvm.exec ∧ Γ.2.2.1.2.code = cc ∧ Γ.2.2.1.2.maxLocals = nL ∧ Γ.2.1.1.vm.findClass own = some Γ.2.1.2.1.cls ∧ (∀ w ∈ gw_tbl, w.before Γ.2.1.2.2.1 Γ.2.1.1 = true) ∧ Γ.2.2.1.1.locks = false ∧ Γ.2.2.1.1.sig.returnType = rt ∧ Γ.2.2.1.1.name = nm ∧
  va_K Γ.2.2.2.1 vwCl [] Γ.2.1.1 ∧ (∀ w ∈ nw_tbl, va_Nw w Γ.2.1.1) ∧ (d ≤ Γ.1.2.2.2.frames ∧ kc ≤ Γ.1.2.2.2.cells ∧ nc ≤ Γ.1.2.2.2.slots ∧ 40 * d ≤ Γ.1.2.2.2.locals) ∧
  va_X Γ.2.2.2.2.2.1 Γ.2.2.2.2.2.2.1 Γ.2.2.2.2.2.2.2.1 Γ.2.1.1 Γ.2.1.1.heap ∧ Γ.2.2.2.2.2.1 ≤ Γ.2.2.2.2.1 ∧ Γ.2.2.2.2.1 < Γ.2.1.1.heap.size ∧ str_ Γ.2.2.2 Γ.2.1.1 Γ.2.1.1.heap
def AW (Γ : AwC) (sh : AwS) (M : AwM) (k n pc : Nat) (ls : List (Option AwV)) (st : List AwV) (Q : State → Prop) : Prop :=
  ∀ (H : Heap) (locs : List Loc) (lsA : Array Slot), rep_ Γ.2.2.2 Γ.2.1.1 sh M H → va_S (A_ Γ.2.2.2) Γ.2.1.1.heap H locs → lh_ Γ.2.2.2 lsA Γ.2.2.1.2.maxLocals ls → (∀ v ∈ st, ok_ v) →
    W Γ.1.1 Γ.1.2.1 Γ.1.2.2.1 Γ.1.2.2.2 Γ.2.1.1 Γ.2.1.2.1 Γ.2.1.2.2.1 Γ.2.1.2.2.2 Γ.2.2.1.1 Γ.2.2.1.2 H locs k n Q (F0 Γ.2.1.2.1 pc lsA (st.map (cv_ Γ.2.2.2)))
def apre_ (G : AwG) (av : List AwV) (sh : AwS) (M : AwM) : Array Value → State → Prop := fun v U =>
  v = (av.map (cv_ G)).toArray ∧ (∀ w ∈ av, ok_ w) ∧ rep_ G U sh M U.heap ∧ va_K G.1 vwCl [] U ∧ (∀ w ∈ nw_tbl, va_Nw w U) ∧ va_X G.2.2.1 G.2.2.2.1 G.2.2.2.2.1 U U.heap ∧ G.2.2.1 ≤ G.2.1 ∧ G.2.1 < U.heap.size ∧ str_ G U U.heap
def apost_ (G : AwG) (r : Option AwV) (sh : AwS) (M : AwM) : Array Value → State → Outcome → State → Prop := fun _ st o t =>
  o = .returned (r.map (cv_ G)) ∧ (∀ v, r = some v → ok_ v) ∧ rep_ G t sh M t.heap ∧ va_F (A_ G) st t
def fin_ (Γ : AwC) (kc nc : Nat) (r : Option AwV) (sh : AwS) (M : AwM) : State → Prop := MQ Γ.2.1.2.2.2 (apost_ Γ.2.2.2 r sh M) Γ.2.1.2.2.1 Γ.2.1.1 kc nc (A_ Γ.2.2.2)
def AMet (y : MethodName) (cc : ByteArray) (nL : Nat) (rt : Option FieldType) (d kc nc : Nat) (av : List AwV) (sh : AwS) (M : AwM) (r : Option AwV) (sh' : AwS) (M' : AwM) : Prop :=
  ∀ (l : Launch) (G : AwG), Met l y (Cond.code y cc nL rt :: gw_tbl) (rm_ d kc nc) (apre_ G av sh M) (apost_ G r sh' M') kc nc (A_ G)
def alocs : List AwV → List (Option AwV)
  | [] => []
  | v :: vs => if ct_ v = 2 then some v :: none :: alocs vs else some v :: alocs vs
theorem alocs_len (G : AwG) : ∀ av : List AwV, (lg_sl (av.map (cv_ G))).length = (alocs av).length
  | [] => rfl
  | v :: vs => by
    have ih := alocs_len G vs
    have hc := cv_cat G v
    unfold alocs
    unfold lg_sl at *
    rw [List.map_cons, List.flatMap_cons, List.length_append, ih, hc]
    by_cases h : ct_ v = 2
    · rw [if_pos h, if_pos h]; simp; omega
    · rw [if_neg h, if_neg h]; simp; omega
theorem alocs_in (G : AwG) : ∀ (av : List AwV) (off i : Nat) (v : AwV), (alocs av)[i]? = some (some v) → (off + i, cv_ G v) ∈ lv_args off (av.map (cv_ G)) ∧ v ∈ av
  | [], off, i, v, h => by simp [alocs] at h
  | w :: vs, off, i, v, h => by
    have hc := cv_cat G w
    unfold alocs at h
    rw [List.map_cons]
    unfold lv_args
    rw [hc]
    by_cases hw : ct_ w = 2
    · rw [if_pos hw] at h
      rw [if_pos hw]
      match i, h with
      | 0, h => 
        simp at h; subst h
        exact ⟨by simp, by simp⟩
      | 1, h => simp at h
      | j + 2, h =>
        have h' : (alocs vs)[j]? = some (some v) := by simpa using h
        obtain ⟨a, b⟩ := alocs_in G vs (off + 2) j v h'
        refine ⟨List.mem_cons_of_mem _ ?_, List.mem_cons_of_mem _ b⟩
        rw [show off + (j + 2) = off + 2 + j by omega]
        exact a
    · rw [if_neg hw] at h
      rw [if_neg hw]
      match i, h with
      | 0, h =>
        simp at h; subst h
        exact ⟨by simp, by simp⟩
      | j + 1, h =>
        have h' : (alocs vs)[j]? = some (some v) := by simpa using h
        obtain ⟨a, b⟩ := alocs_in G vs (off + 1) j v h'
        refine ⟨List.mem_cons_of_mem _ ?_, List.mem_cons_of_mem _ b⟩
        rw [show off + (j + 1) = off + 1 + j by omega]
        exact a
theorem amet_of {y : MethodName} {cc : ByteArray} {nL : Nat} {rt : Option FieldType} {d kc nc : Nat} {av : List AwV} {sh : AwS} {M : AwM} {r : Option AwV} {sh' : AwS} {M' : AwM} (hy : plainFor y = true) (hlen : (alocs av).length ≤ nL)
    (body : ∀ Γ : AwC, AOK Γ y.cls cc nL d kc nc y.name rt → AW Γ sh M 0 0 0 (alocs av) [] (fin_ Γ kc nc r sh' M')) : AMet y cc nL rt d kc nc av sh M r sh' M' := by
  intro l G
  refine va_MetF (cc := cc) (maxL := nL) (ret := rt) hy rfl ?_
  intro p e s m args below meth c s₁ B hml hv
  obtain ⟨rfl, hok, hrep, hK, hN, hX, hb1, hb2, hZ⟩ := hv
  have hts := atoms_spec (ws := Cond.code y cc nL rt :: gw_tbl) B.pre
  have hown : s.vm.findClass y.cls = some m.cls := findClass_of_methodNamed B.named
  have hin : meth.name = y.name := (name_of_methodNamed B.named B.method).1
  have hlen' : (lg_sl (av.map (cv_ G))).length ≤ nL := by rw [alocs_len]; exact hlen
  have hl := lv_entry (av.map (cv_ G)) (n := nL) hlen'
  rw [lg_entry_eq]
  generalize (lg_sl (av.map (cv_ G)) ++ List.replicate (nL - (lg_sl (av.map (cv_ G))).length) Slot.unset).toArray = lsA at hl ⊢
  have K := body ((p, l, e, rm_ d kc nc), (s, m, (av.map (cv_ G)).toArray, below), (meth, c), G)
    ⟨B.exec, B.bytes, hml, hown, fun w hw => hts w (List.mem_cons_of_mem _ hw), B.notSynchronized, B.returns, hin, hK, hN, ⟨Nat.le_refl _, Nat.le_refl _, Nat.le_refl _, Nat.le_refl _⟩, hX, hb1, hb2, hZ⟩
  refine K s.heap [] lsA hrep va_S.rf ⟨by rw [hl.1]; exact hml.symm, hl.2.1, by show (alocs av).length ≤ c.maxLocals; rw [hml]; exact hlen, fun i v hi => ?_⟩ (fun v hv => by cases hv)
  obtain ⟨h1, h2⟩ := alocs_in G av 0 i v hi
  rw [Nat.zero_add] at h1
  exact ⟨hl.2.2 _ h1, hok v h2⟩
end AWD
