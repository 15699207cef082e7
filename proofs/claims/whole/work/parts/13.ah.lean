/-! the abstract walk: the heap, calls, ends -/
section AWH
variable {Γ : AwC} {own nm : String} {cc : ByteArray} {nL d kc nc : Nat} {rt : Option FieldType} {sh : AwS} {M : AwM} {k n pc pc' : Nat} {ls ls' : List (Option AwV)} {st : List AwV} {Q : State → Prop}
theorem gw_at {w : Cond} (i : Nat) (h : lw_tbl[i]? = some w) (g : goodWord w = true) : w ∈ gw_tbl := List.mem_filter.mpr ⟨List.mem_of_getElem? h, g⟩
theorem nw_at {w : Cond} (i : Nat) (h : lw_tbl[i]? = some w) (g : isNw_ w = true) : w ∈ nw_tbl := List.mem_filter.mpr ⟨List.mem_of_getElem? h, g⟩
theorem gw_good : ∀ w ∈ gw_tbl, goodWord w = true := fun w h => (List.mem_filter.mp h).2
theorem gw_lay {C : String} {T : u_T} {N : Nat} (h : ∀ w ∈ u_ws C T N, w ∈ lw_tbl) : ∀ w ∈ u_ws C T N, w ∈ gw_tbl := fun w hw => by
  refine List.mem_filter.mpr ⟨h w hw, ?_⟩
  obtain ⟨j, -, rfl⟩ := List.mem_map.mp hw
  unfold u_lay
  split <;> rfl
theorem clw_ : ∀ (ci : Nat) (r : vw_C), vwCl[ci]? = some r → ∀ w ∈ u_ws r.1 r.2.1 r.2.2, w ∈ gw_tbl := by
  intro ci r h
  match ci, h with
  | 0, h => cases h; exact gw_lay inX0
  | 1, h => cases h; exact gw_lay inX1
  | 2, h => cases h; exact gw_lay inX2
  | 3, h => cases h; exact gw_lay inX3
  | 4, h => cases h; exact gw_lay inX4
  | 5, h => cases h; exact gw_lay inX5
  | 6, h => cases h; exact gw_lay inX6
  | 7, h => cases h; exact gw_lay inX7
  | 8, h => cases h; exact gw_lay inX8
  | 9, h => cases h; exact gw_lay inX9
  | j + 10, h => simp [vwCl] at h
theorem clt_ : ∀ (ci : Nat) (r : vw_C), vwCl[ci]? = some r → ∀ j, j < r.2.2 → parseFieldDescriptor (r.2.1 j).2.2.1 = some (tyF ci j) := by
  intro ci r h
  match ci, h with
  | 0, h => cases h; exact tyX0_ok
  | 1, h => cases h; exact tyX1_ok
  | 2, h => cases h; exact tyX2_ok
  | 3, h => cases h; exact tyX3_ok
  | 4, h => cases h; exact tyX4_ok
  | 5, h => cases h; exact tyX5_ok
  | 6, h => cases h; exact tyX6_ok
  | 7, h => cases h; exact tyX7_ok
  | 8, h => cases h; exact tyX8_ok
  | 9, h => cases h; exact tyX9_ok
  | j + 10, h => simp [vwCl] at h
theorem cln_ : ∀ (ci : Nat) (r : vw_C), vwCl[ci]? = some r → ∀ a, a < r.2.2 → ∀ b, b < r.2.2 → a ≠ b → (r.2.1 a).2.1 ≠ (r.2.1 b).2.1 := by
  intro ci r h
  match ci, h with
  | 0, h => cases h; exact nmX0
  | 1, h => cases h; exact nmX1
  | 2, h => cases h; exact nmX2
  | 3, h => cases h; exact nmX3
  | 4, h => cases h; exact nmX4
  | 5, h => cases h; exact nmX5
  | 6, h => cases h; exact nmX6
  | 7, h => cases h; exact nmX7
  | 8, h => cases h; exact nmX8
  | 9, h => cases h; exact nmX9
  | j + 10, h => simp [vwCl] at h
def FL_ (own : String) (idx ci j : Nat) : Prop := ∃ r : vw_C, vwCl[ci]? = some r ∧ j < r.2.2 ∧ Cond.fieldLink own idx (r.2.1 j).1 (r.2.1 j).2.1 (r.2.1 j).2.2.1 ∈ gw_tbl
def FP_ (own : String) (idx ci j : Nat) : Prop := ∃ r : vw_C, vwCl[ci]? = some r ∧ j < r.2.2 ∧ Cond.fieldLink own idx (r.2.1 j).1 (r.2.1 j).2.1 (r.2.1 j).2.2.1 ∈ gw_tbl ∧ (r.2.1 j).2.2.2 = false
def FF_ (own : String) (idx ci j : Nat) : Prop := ∃ r : vw_C, vwCl[ci]? = some r ∧ j < r.2.2 ∧ Cond.fieldLink own idx (r.2.1 j).1 (r.2.1 j).2.1 (r.2.1 j).2.2.1 ∈ gw_tbl ∧ (r.2.1 j).2.2.2 = true ∧ (r.2.1 j).1 = own
theorem aw_getfield (hC : AOK Γ own cc nL d kc nc nm rt) {a : Int} {ci j idx : Nat} {v : AwV} (hd : decode cc pc = .ok (.getfield idx, 3)) (hp : pc + 3 = pc') (hf : FL_ own idx ci j) (hg : kd_ sh a = (0, ci)) (hv : avT (tyF ci j) (M a (j : Int)) = v) (kk : AW Γ sh M k n pc' ls (v :: st) Q) : AW Γ sh M k n pc ls (.inr (.inr a) :: st) Q := by
  subst hp
  subst hv
  obtain ⟨⟨p, l, e, R⟩, ⟨s, m, args, below⟩, ⟨meth, c⟩, G⟩ := Γ
  intro H locs lsA hr hS hL hst
  obtain ⟨-, h1⟩ := ok1 hst
  obtain ⟨⟨C, T, N⟩, hc, hj, hw⟩ := hf
  obtain ⟨ha0, hal, hsh⟩ := kd_at hg (by simp)
  obtain ⟨r', hc', ⟨cell, q1, q2, q3, q4⟩, hok⟩ := hr.2.2.1 a.toNat (0, ci) (by omega) hsh
  cases hc.symm.trans hc'
  obtain ⟨hS', hfc, kC, hkC, hkind⟩ := hC.2.2.2.2.2.2.2.2.1.1 ci _ hc
  obtain ⟨cf, kf, fi, f, hi, hsl⟩ := hS' j hj
  have hts := hC.2.2.2.2.1
  have hcast : ((a.toNat : Nat) : Int) = a := by omega
  have h3 := hok j hj
  rw [hcast] at h3
  have K := kk H locs lsA hr hS hL (okc h3 h1)
  dsimp only at K ⊢
  rw [List.map_cons, show cv_ G (.inr (.inr a)) = rv_ G a from rfl, rv_pos G ha0]
  refine W.getf hC.1 hC.2.1 hC.2.2.2.1 (hts _ hw) hi (u_facts hfc hkC (u_lays hts (clw_ ci _ hc) hj) hi).1 q1 (by rw [q3]; exact fun h => by cases h) (v := cv_ G (avT (tyF ci j) (M a j))) ?_ rfl rfl hd K
  rw [hsl, q4 j hj, hcast]
def bz_ (t : FieldType) (x : Int) : Prop := match t with
  | .boolean => x = 0 ∨ x = 1
  | .int => True
  | .long => True
  | .object _ => True
  | .array _ => True
  | _ => False
theorem bz_fit (G : AwG) {t : FieldType} {x : Int} (h : bz_ t x) : narrow t (cv_ G (avT t x)) = cv_ G (avT t x) ∧ fits t (cv_ G (avT t x)) = true := by
  cases t with
  | boolean => rcases h with rfl | rfl <;> exact ⟨rfl, rfl⟩
  | int => exact ⟨rfl, rfl⟩
  | long => exact ⟨rfl, rfl⟩
  | object C =>
    refine ⟨rfl, ?_⟩
    show fits (.object C) (rv_ G x) = true
    rcases rv_or G x with h | ⟨a, h⟩ <;> rw [h] <;> rfl
  | array C =>
    refine ⟨rfl, ?_⟩
    show fits (.array C) (rv_ G x) = true
    rcases rv_or G x with h | ⟨a, h⟩ <;> rw [h] <;> rfl
  | _ => exact absurd h (by simp [bz_])
theorem aw_putX (hC : AOK Γ own cc nL d kc nc nm rt) {a x : Int} {ci j idx : Nat} {v : AwV} (hd : decode cc pc = .ok (.putfield idx, 3)) (hp : pc + 3 = pc') (hf : FP_ own idx ci j ∨ (FF_ own idx ci j ∧ nm = "<init>")) (hg : kd_ sh a = (0, ci)) (hv : avT (tyF ci j) x = v) (hz : bz_ (tyF ci j) x) (kk : AW Γ sh (up_ M a (j : Int) x) k n pc' ls st Q) : AW Γ sh M k n pc ls (v :: .inr (.inr a) :: st) Q := by
  subst hp
  subst hv
  obtain ⟨⟨p, l, e, R⟩, ⟨s, m, args, below⟩, ⟨meth, c⟩, G⟩ := Γ
  intro H locs lsA hr hS hL hst
  obtain ⟨hx, h0⟩ := ok1 hst
  obtain ⟨-, h1⟩ := ok1 h0
  obtain ⟨ha0, hal, hsh⟩ := kd_at hg (by simp)
  obtain ⟨⟨C, T, N⟩, hc, ⟨cell, q1, q2, q3, q4⟩, hok⟩ := hr.2.2.1 a.toNat (0, ci) (by omega) hsh
  have hts := hC.2.2.2.2.1
  have hj : j < N := by
    rcases hf with ⟨r, hc', hj, -⟩ | ⟨⟨r, hc', hj, -⟩, -⟩ <;> (cases hc.symm.trans hc'; exact hj)
  have hw : Cond.fieldLink own idx (T j).1 (T j).2.1 (T j).2.2.1 ∈ gw_tbl := by
    rcases hf with ⟨r, hc', -, hw, -⟩ | ⟨⟨r, hc', -, hw, -⟩, -⟩ <;> (cases hc.symm.trans hc'; exact hw)
  obtain ⟨hS', hfc, kC, hkC, hkind⟩ := hC.2.2.2.2.2.2.2.2.1.1 ci _ hc
  obtain ⟨cf, kf, fi, f, hi, hsl⟩ := hS' j hj
  have hap := va_apart (own := own) hts (clw_ ci _ hc) (tyF ci) (clt_ ci _ hc) (cln_ ci _ hc) hC.2.2.2.2.2.2.2.2.1 hc
  have hcast : ((a.toNat : Nat) : Int) = a := by omega
  have hb := bz_fit G hz
  have hst' := (u_facts hfc hkC (u_lays hts (clw_ ci _ hc) hj) hi).1
  have KK : ∀ H' : Heap, H'[G.2.1 + a.toNat]? = some (cell.setSlot f.slot (cv_ G (avT (tyF ci j) x))) → H'.size = H.size → (∀ q, q ≠ G.2.1 + a.toNat → H'[q]? = H[q]?) → W p l e R s m args below meth c H' (locs ++ [⟨G.2.1 + a.toNat, f.slot⟩]) k n Q (F0 m (pc + 3) lsA (st.map (cv_ G))) := fun H' e1 e2 e3 => by
    refine kk H' _ lsA (hr.put hg (by simp) e2 e3 ⟨_, hc, ⟨_, e1, q2, q3, fun j' hj' => ?_⟩, fun j' hj' => ?_⟩) (hS.put e2 e3 (by show G.2.1 < G.2.1 + a.toNat; omega)) hL h1
    · rw [hsl, t_set q4 hap hj _ j' hj']
      show some (updV _ j _ j') = some (cv_ G (avT (tyF ci j') (up_ M a (j : Int) x (a.toNat : Int) (j' : Int))))
      unfold updV up_
      by_cases hjj : j' = j
      · subst hjj
        rw [if_pos rfl, if_pos ⟨hcast, rfl⟩]
      · rw [if_neg hjj, if_neg (by omega)]
    · unfold up_
      by_cases hjj : j' = j
      · subst hjj
        rw [if_pos ⟨hcast, rfl⟩]
        exact hx
      · rw [if_neg (by omega)]
        exact hok j' hj'
  dsimp only
  rw [List.map_cons, List.map_cons, show cv_ G (.inr (.inr a)) = rv_ G a from rfl, rv_pos G ha0]
  rcases hf with ⟨r, hc', -, -, hfin⟩ | ⟨⟨r, hc', -, -, hfin, hown⟩, hnm⟩
  · cases hc.symm.trans hc'
    have hlay := hts _ (clw_ ci _ hc _ (u_in_lay hj))
    unfold u_lay at hlay
    rw [if_neg (by rw [hfin]; decide)] at hlay
    exact W.putK hC.1 hC.2.1 (f := f) ⟨hC.2.2.2.1, hts _ hw, ⟨_, _, _, hi⟩, hst'⟩ (by rw [q2]; exact u_store hfc hkC hkind hlay hi (clt_ ci _ hc j hj) hb.1 hb.2) q1 q3 (by rw [hsl]; exact k2_hasslot (q4 j hj)) rfl rfl hd KK
  · cases hc.symm.trans hc'
    have hlay := hts _ (clw_ ci _ hc _ (u_in_lay hj))
    unfold u_lay at hlay
    rw [if_pos hfin] at hlay
    have hcf : m.cls = cf := by
      obtain ⟨_, _, c', _, _, _, -, -, hf', -, -, -, hown2, -⟩ := Cond.laysFinal_spec hlay
      have e1 : c' = cf := by have := hi.symm.trans hf'; simp at this; exact this.1.symm
      rw [show (T j).1 = own from hown] at hown2
      rw [← e1]; exact Option.some.inj (hC.2.2.2.1.symm.trans hown2)
    exact W.putFinK hC.1 hC.2.1 hC.2.2.2.1 (hts _ hw) hi hst' hcf (by rw [← hnm]; exact hC.2.2.2.2.2.2.2.1) (by rw [q2]; exact u_fits hfc hkC hkind (Or.inr hlay) hi (clt_ ci _ hc j hj) hb.1 hb.2) q1 q3 (by rw [hsl]; exact k2_hasslot (q4 j hj)) rfl rfl hd KK
theorem aw_putfield (hC : AOK Γ own cc nL d kc nc nm rt) {a x : Int} {ci j idx : Nat} {v : AwV} (hd : decode cc pc = .ok (.putfield idx, 3)) (hp : pc + 3 = pc') (hf : FP_ own idx ci j) (hg : kd_ sh a = (0, ci)) (hv : avT (tyF ci j) x = v) (hz : bz_ (tyF ci j) x) (kk : AW Γ sh (up_ M a (j : Int) x) k n pc' ls st Q) : AW Γ sh M k n pc ls (v :: .inr (.inr a) :: st) Q := aw_putX hC hd hp (Or.inl hf) hg hv hz kk
theorem aw_putfinal (hC : AOK Γ own cc nL d kc nc "<init>" rt) {a x : Int} {ci j idx : Nat} {v : AwV} (hd : decode cc pc = .ok (.putfield idx, 3)) (hp : pc + 3 = pc') (hf : FF_ own idx ci j) (hg : kd_ sh a = (0, ci)) (hv : avT (tyF ci j) x = v) (hz : bz_ (tyF ci j) x) (kk : AW Γ sh (up_ M a (j : Int) x) k n pc' ls st Q) : AW Γ sh M k n pc ls (v :: .inr (.inr a) :: st) Q := aw_putX hC hd hp (Or.inr ⟨hf, rfl⟩) hg hv hz kk
-- ARRAYS
theorem aw_iaload (hC : AOK Γ own cc nL d kc nc nm rt) {a i : Int} (hd : decode cc pc = .ok (.iaload, 1)) (hp : pc + 1 = pc') (hg : (kd_ sh a).1 = 1 ∧ 0 ≤ i ∧ i < (kd_ sh a).2) (kk : AW Γ sh M k n pc' ls (.inl (M a i) :: st) Q) : AW Γ sh M k n pc ls (.inl i :: .inr (.inr a) :: st) Q := by
  subst hp
  obtain ⟨⟨p, l, e, R⟩, ⟨s, m, args, below⟩, ⟨meth, c⟩, G⟩ := Γ
  intro H locs lsA hr hS hL hst
  obtain ⟨hi, h0⟩ := ok1 hst
  obtain ⟨-, h1⟩ := ok1 h0
  obtain ⟨g1, g2, g3⟩ := hg
  obtain ⟨tg, len⟩ : ∃ q : Nat × Nat, q = kd_ sh a := ⟨_, rfl⟩
  generalize hkd : kd_ sh a = kq at g1 g3
  obtain ⟨kt, kn⟩ := kq
  cases g1
  obtain ⟨ha0, hal, hsh⟩ := kd_at hkd (by simp)
  obtain ⟨cA, r1, r2, r3⟩ := hr.2.2.1 a.toNat _ (by omega) hsh
  have hcast : ((a.toNat : Nat) : Int) = a := by omega
  have hcasti : ((i.toNat : Nat) : Int) = i := by omega
  have hlt : i.toNat < kn := by dsimp only at g3; omega
  have hq := i32_vin (n := kn) hi g2 g3
  have K := kk H locs lsA hr hS hL (okc (by have := r3 i.toNat hlt; rw [hcast, hcasti] at this; exact this) h1)
  dsimp only at K ⊢
  rw [List.map_cons, List.map_cons, show cv_ G (.inr (.inr a)) = rv_ G a from rfl, rv_pos G ha0]
  refine W.iald hC.1 hC.2.1 r2 (r1 _ _) (fun q => by cases q) (by rw [arrV_size]; exact hq) (v := .int (i32 (M a i))) ?_ rfl rfl hd K
  rw [i32_cl hi, arrV_read _ _ hlt, hcast, hcasti]
theorem aw_laload (hC : AOK Γ own cc nL d kc nc nm rt) {a i : Int} (hd : decode cc pc = .ok (.laload, 1)) (hp : pc + 1 = pc') (hg : (kd_ sh a).1 = 2 ∧ 0 ≤ i ∧ i < (kd_ sh a).2) (kk : AW Γ sh M k n pc' ls (.inr (.inl (M a i)) :: st) Q) : AW Γ sh M k n pc ls (.inl i :: .inr (.inr a) :: st) Q := by
  subst hp
  obtain ⟨⟨p, l, e, R⟩, ⟨s, m, args, below⟩, ⟨meth, c⟩, G⟩ := Γ
  intro H locs lsA hr hS hL hst
  obtain ⟨hi, h0⟩ := ok1 hst
  obtain ⟨-, h1⟩ := ok1 h0
  obtain ⟨g1, g2, g3⟩ := hg
  obtain ⟨tg, len⟩ : ∃ q : Nat × Nat, q = kd_ sh a := ⟨_, rfl⟩
  generalize hkd : kd_ sh a = kq at g1 g3
  obtain ⟨kt, kn⟩ := kq
  cases g1
  obtain ⟨ha0, hal, hsh⟩ := kd_at hkd (by simp)
  obtain ⟨cA, r1, r2, r3⟩ := hr.2.2.1 a.toNat _ (by omega) hsh
  have hcast : ((a.toNat : Nat) : Int) = a := by omega
  have hcasti : ((i.toNat : Nat) : Int) = i := by omega
  have hlt : i.toNat < kn := by dsimp only at g3; omega
  have hq := i32_vin (n := kn) hi g2 g3
  have K := kk H locs lsA hr hS hL (okc (by have := r3 i.toNat hlt; rw [hcast, hcasti] at this; exact this) h1)
  dsimp only at K ⊢
  rw [List.map_cons, List.map_cons, show cv_ G (.inr (.inr a)) = rv_ G a from rfl, rv_pos G ha0]
  refine W.lald hC.1 hC.2.1 r2 (r1 _ _) (fun q => by cases q) (by rw [arrV_size]; exact hq) (v := .long (i64 (M a i))) ?_ rfl rfl hd K
  rw [i32_cl hi, arrV_read _ _ hlt, hcast, hcasti]
theorem aw_baload (hC : AOK Γ own cc nL d kc nc nm rt) {a i : Int} (hd : decode cc pc = .ok (.baload, 1)) (hp : pc + 1 = pc') (hg : (kd_ sh a).1 = 3 ∧ 0 ≤ i ∧ i < (kd_ sh a).2) (kk : AW Γ sh M k n pc' ls (.inl (M a i) :: st) Q) : AW Γ sh M k n pc ls (.inl i :: .inr (.inr a) :: st) Q := by
  subst hp
  obtain ⟨⟨p, l, e, R⟩, ⟨s, m, args, below⟩, ⟨meth, c⟩, G⟩ := Γ
  intro H locs lsA hr hS hL hst
  obtain ⟨hi, h0⟩ := ok1 hst
  obtain ⟨-, h1⟩ := ok1 h0
  obtain ⟨g1, g2, g3⟩ := hg
  obtain ⟨tg, len⟩ : ∃ q : Nat × Nat, q = kd_ sh a := ⟨_, rfl⟩
  generalize hkd : kd_ sh a = kq at g1 g3
  obtain ⟨kt, kn⟩ := kq
  cases g1
  obtain ⟨ha0, hal, hsh⟩ := kd_at hkd (by simp)
  obtain ⟨cA, r1, r2, r3⟩ := hr.2.2.1 a.toNat _ (by omega) hsh
  have hcast : ((a.toNat : Nat) : Int) = a := by omega
  have hcasti : ((i.toNat : Nat) : Int) = i := by omega
  have hlt : i.toNat < kn := by dsimp only at g3; omega
  have hq := i32_vin (n := kn) hi g2 g3
  have K := kk H locs lsA hr hS hL (okc (by have := r3 i.toNat hlt; rw [hcast, hcasti] at this; exact this) h1)
  dsimp only at K ⊢
  rw [List.map_cons, List.map_cons, show cv_ G (.inr (.inr a)) = rv_ G a from rfl, rv_pos G ha0]
  refine W.bald hC.1 hC.2.1 r2 (r1 _ _) (fun q => by cases q) (by rw [arrV_size]; exact hq) (v := .int (i32 (M a i))) ?_ rfl rfl hd K
  rw [i32_cl hi, arrV_read _ _ hlt, hcast, hcasti]
theorem aw_zaload (hC : AOK Γ own cc nL d kc nc nm rt) {a i : Int} (hd : decode cc pc = .ok (.baload, 1)) (hp : pc + 1 = pc') (hg : (kd_ sh a).1 = 4 ∧ 0 ≤ i ∧ i < (kd_ sh a).2) (kk : AW Γ sh M k n pc' ls (.inl (M a i) :: st) Q) : AW Γ sh M k n pc ls (.inl i :: .inr (.inr a) :: st) Q := by
  subst hp
  obtain ⟨⟨p, l, e, R⟩, ⟨s, m, args, below⟩, ⟨meth, c⟩, G⟩ := Γ
  intro H locs lsA hr hS hL hst
  obtain ⟨hi, h0⟩ := ok1 hst
  obtain ⟨-, h1⟩ := ok1 h0
  obtain ⟨g1, g2, g3⟩ := hg
  obtain ⟨tg, len⟩ : ∃ q : Nat × Nat, q = kd_ sh a := ⟨_, rfl⟩
  generalize hkd : kd_ sh a = kq at g1 g3
  obtain ⟨kt, kn⟩ := kq
  cases g1
  obtain ⟨ha0, hal, hsh⟩ := kd_at hkd (by simp)
  obtain ⟨cA, r1, r2, r3⟩ := hr.2.2.1 a.toNat _ (by omega) hsh
  have hcast : ((a.toNat : Nat) : Int) = a := by omega
  have hcasti : ((i.toNat : Nat) : Int) = i := by omega
  have hlt : i.toNat < kn := by dsimp only at g3; omega
  have hq := i32_vin (n := kn) hi g2 g3
  have K := kk H locs lsA hr hS hL (okc (by have := r3 i.toNat hlt; rw [hcast, hcasti] at this; exact this) h1)
  dsimp only at K ⊢
  rw [List.map_cons, List.map_cons, show cv_ G (.inr (.inr a)) = rv_ G a from rfl, rv_pos G ha0]
  refine W.zald hC.1 hC.2.1 r2 (r1 _ _) (fun q => by cases q) (by rw [arrV_size]; exact hq) (v := .int (i32 (M a i))) ?_ rfl rfl hd K
  rw [i32_cl hi, arrV_read _ _ hlt, hcast, hcasti]
theorem aw_iastore (hC : AOK Γ own cc nL d kc nc nm rt) {a i x : Int} (hd : decode cc pc = .ok (.iastore, 1)) (hp : pc + 1 = pc') (hg : (kd_ sh a).1 = 1 ∧ 0 ≤ i ∧ i < (kd_ sh a).2) (kk : AW Γ sh (up_ M a i x) k n pc' ls st Q) : AW Γ sh M k n pc ls (.inl x :: .inl i :: .inr (.inr a) :: st) Q := by
  subst hp
  obtain ⟨⟨p, l, e, R⟩, ⟨s, m, args, below⟩, ⟨meth, c⟩, G⟩ := Γ
  intro H locs lsA hr hS hL hst
  obtain ⟨hx, h00⟩ := ok1 hst
  obtain ⟨hi, h0⟩ := ok1 h00
  obtain ⟨-, h1⟩ := ok1 h0
  obtain ⟨g1, g2, g3⟩ := hg
  generalize hkd : kd_ sh a = kq at g1 g3
  obtain ⟨kt, kn⟩ := kq
  cases g1
  obtain ⟨ha0, hal, hsh⟩ := kd_at hkd (by simp)
  obtain ⟨cA, r1, r2, r3⟩ := hr.2.2.1 a.toNat _ (by omega) hsh
  have hcast : ((a.toNat : Nat) : Int) = a := by omega
  have hcasti : ((i.toNat : Nat) : Int) = i := by omega
  have hlt : i.toNat < kn := by dsimp only at g3; omega
  have hq := i32_vin (n := kn) hi g2 g3
  dsimp only
  rw [List.map_cons, List.map_cons, List.map_cons, show cv_ G (.inr (.inr a)) = rv_ G a from rfl, rv_pos G ha0]
  refine W.iast hC.1 hC.2.1 r2 (r1 _ _) (fun q => by cases q) (by rw [arrV_size]; exact hq) rfl rfl hd fun H' e1 e2 e3 => ?_
  refine kk H' _ lsA (hr.put hkd (by simp) e2 e3 ⟨cA, r1, ?_, fun j hj => ?_⟩) (hS.put e2 e3 (by show G.2.1 < G.2.1 + a.toNat; omega)) hL h1
  · rw [e1, i32_cl hi, arrV_store]
    congr 2
    funext j
    unfold updV up_
    by_cases hji : j = i.toNat
    · subst hji
      rw [if_pos rfl, if_pos ⟨hcast, hcasti⟩]
    · rw [if_neg hji, if_neg (by omega)]
  · unfold up_
    by_cases hji : (a.toNat : Int) = a ∧ (j : Int) = i
    · rw [if_pos hji]
      exact hx
    · rw [if_neg hji]
      exact r3 j hj
theorem aw_lastore (hC : AOK Γ own cc nL d kc nc nm rt) {a i x : Int} (hd : decode cc pc = .ok (.lastore, 1)) (hp : pc + 1 = pc') (hg : (kd_ sh a).1 = 2 ∧ 0 ≤ i ∧ i < (kd_ sh a).2) (kk : AW Γ sh (up_ M a i x) k n pc' ls st Q) : AW Γ sh M k n pc ls (.inr (.inl x) :: .inl i :: .inr (.inr a) :: st) Q := by
  subst hp
  obtain ⟨⟨p, l, e, R⟩, ⟨s, m, args, below⟩, ⟨meth, c⟩, G⟩ := Γ
  intro H locs lsA hr hS hL hst
  obtain ⟨hx, h00⟩ := ok1 hst
  obtain ⟨hi, h0⟩ := ok1 h00
  obtain ⟨-, h1⟩ := ok1 h0
  obtain ⟨g1, g2, g3⟩ := hg
  generalize hkd : kd_ sh a = kq at g1 g3
  obtain ⟨kt, kn⟩ := kq
  cases g1
  obtain ⟨ha0, hal, hsh⟩ := kd_at hkd (by simp)
  obtain ⟨cA, r1, r2, r3⟩ := hr.2.2.1 a.toNat _ (by omega) hsh
  have hcast : ((a.toNat : Nat) : Int) = a := by omega
  have hcasti : ((i.toNat : Nat) : Int) = i := by omega
  have hlt : i.toNat < kn := by dsimp only at g3; omega
  have hq := i32_vin (n := kn) hi g2 g3
  dsimp only
  rw [List.map_cons, List.map_cons, List.map_cons, show cv_ G (.inr (.inr a)) = rv_ G a from rfl, rv_pos G ha0]
  refine W.last hC.1 hC.2.1 r2 (r1 _ _) (fun q => by cases q) (by rw [arrV_size]; exact hq) rfl rfl hd fun H' e1 e2 e3 => ?_
  refine kk H' _ lsA (hr.put hkd (by simp) e2 e3 ⟨cA, r1, ?_, fun j hj => ?_⟩) (hS.put e2 e3 (by show G.2.1 < G.2.1 + a.toNat; omega)) hL h1
  · rw [e1, i32_cl hi, arrV_store]
    congr 2
    funext j
    unfold updV up_
    by_cases hji : j = i.toNat
    · subst hji
      rw [if_pos rfl, if_pos ⟨hcast, hcasti⟩]
    · rw [if_neg hji, if_neg (by omega)]
  · unfold up_
    by_cases hji : (a.toNat : Int) = a ∧ (j : Int) = i
    · rw [if_pos hji]
      exact hx
    · rw [if_neg hji]
      exact r3 j hj
theorem aw_bastore (hC : AOK Γ own cc nL d kc nc nm rt) {a i x : Int} (hd : decode cc pc = .ok (.bastore, 1)) (hp : pc + 1 = pc') (hg : (kd_ sh a).1 = 3 ∧ 0 ≤ i ∧ i < (kd_ sh a).2) (kk : AW Γ sh (up_ M a i (w8_ x)) k n pc' ls st Q) : AW Γ sh M k n pc ls (.inl x :: .inl i :: .inr (.inr a) :: st) Q := by
  subst hp
  obtain ⟨⟨p, l, e, R⟩, ⟨s, m, args, below⟩, ⟨meth, c⟩, G⟩ := Γ
  intro H locs lsA hr hS hL hst
  obtain ⟨hx, h00⟩ := ok1 hst
  obtain ⟨hi, h0⟩ := ok1 h00
  obtain ⟨-, h1⟩ := ok1 h0
  obtain ⟨g1, g2, g3⟩ := hg
  generalize hkd : kd_ sh a = kq at g1 g3
  obtain ⟨kt, kn⟩ := kq
  cases g1
  obtain ⟨ha0, hal, hsh⟩ := kd_at hkd (by simp)
  obtain ⟨cA, r1, r2, r3⟩ := hr.2.2.1 a.toNat _ (by omega) hsh
  have hcast : ((a.toNat : Nat) : Int) = a := by omega
  have hcasti : ((i.toNat : Nat) : Int) = i := by omega
  have hlt : i.toNat < kn := by dsimp only at g3; omega
  have hq := i32_vin (n := kn) hi g2 g3
  dsimp only
  rw [List.map_cons, List.map_cons, List.map_cons, show cv_ G (.inr (.inr a)) = rv_ G a from rfl, rv_pos G ha0]
  refine W.bast hC.1 hC.2.1 r2 (r1 _ _) (fun q => by cases q) (by rw [arrV_size]; exact hq) rfl rfl hd fun H' e1 e2 e3 => ?_
  refine kk H' _ lsA (hr.put hkd (by simp) e2 e3 ⟨cA, r1, ?_, fun j hj => ?_⟩) (hS.put e2 e3 (by show G.2.1 < G.2.1 + a.toNat; omega)) hL h1
  · rw [e1, i32_cl hi, arrV_store]
    congr 2
    funext j
    unfold updV up_
    by_cases hji : j = i.toNat
    · subst hji
      rw [if_pos rfl, if_pos ⟨hcast, hcasti⟩]
      show Value.int (i32 x).toInt8.toInt32 = _
      rw [i32_i2b hx]
    · rw [if_neg hji, if_neg (by omega)]
  · unfold up_
    by_cases hji : (a.toNat : Int) = a ∧ (j : Int) = i
    · rw [if_pos hji]
      exact w8_in x
    · rw [if_neg hji]
      exact r3 j hj
theorem aw_zastore (hC : AOK Γ own cc nL d kc nc nm rt) {a i x : Int} (hd : decode cc pc = .ok (.bastore, 1)) (hp : pc + 1 = pc') (hg : (kd_ sh a).1 = 4 ∧ 0 ≤ i ∧ i < (kd_ sh a).2) (hz : x = 0 ∨ x = 1) (kk : AW Γ sh (up_ M a i x) k n pc' ls st Q) : AW Γ sh M k n pc ls (.inl x :: .inl i :: .inr (.inr a) :: st) Q := by
  subst hp
  obtain ⟨⟨p, l, e, R⟩, ⟨s, m, args, below⟩, ⟨meth, c⟩, G⟩ := Γ
  intro H locs lsA hr hS hL hst
  obtain ⟨hx, h00⟩ := ok1 hst
  obtain ⟨hi, h0⟩ := ok1 h00
  obtain ⟨-, h1⟩ := ok1 h0
  obtain ⟨g1, g2, g3⟩ := hg
  generalize hkd : kd_ sh a = kq at g1 g3
  obtain ⟨kt, kn⟩ := kq
  cases g1
  obtain ⟨ha0, hal, hsh⟩ := kd_at hkd (by simp)
  obtain ⟨cA, r1, r2, r3⟩ := hr.2.2.1 a.toNat _ (by omega) hsh
  have hcast : ((a.toNat : Nat) : Int) = a := by omega
  have hcasti : ((i.toNat : Nat) : Int) = i := by omega
  have hlt : i.toNat < kn := by dsimp only at g3; omega
  have hq := i32_vin (n := kn) hi g2 g3
  dsimp only
  rw [List.map_cons, List.map_cons, List.map_cons, show cv_ G (.inr (.inr a)) = rv_ G a from rfl, rv_pos G ha0]
  refine W.zast hC.1 hC.2.1 r2 (r1 _ _) (fun q => by cases q) (by rw [arrV_size]; exact hq) rfl rfl hd fun H' e1 e2 e3 => ?_
  refine kk H' _ lsA (hr.put hkd (by simp) e2 e3 ⟨cA, r1, ?_, fun j hj => ?_⟩) (hS.put e2 e3 (by show G.2.1 < G.2.1 + a.toNat; omega)) hL h1
  · rw [e1, i32_cl hi, arrV_store]
    congr 2
    funext j
    unfold updV up_
    by_cases hji : j = i.toNat
    · subst hji
      rw [if_pos rfl, if_pos ⟨hcast, hcasti⟩]
      rcases hz with rfl | rfl <;> rfl
    · rw [if_neg hji, if_neg (by omega)]
  · unfold up_
    by_cases hji : (a.toNat : Int) = a ∧ (j : Int) = i
    · rw [if_pos hji]
      exact hx
    · rw [if_neg hji]
      exact r3 j hj
theorem aw_aaload (hC : AOK Γ own cc nL d kc nc nm rt) {a i : Int} (hd : decode cc pc = .ok (.aaload, 1)) (hp : pc + 1 = pc') (hg : (kd_ sh a).1 = 5 ∧ 0 ≤ i ∧ i < (kd_ sh a).2) (kk : AW Γ sh M k n pc' ls (.inr (.inr (M a i)) :: st) Q) : AW Γ sh M k n pc ls (.inl i :: .inr (.inr a) :: st) Q := by
  subst hp
  obtain ⟨⟨p, l, e, R⟩, ⟨s, m, args, below⟩, ⟨meth, c⟩, G⟩ := Γ
  intro H locs lsA hr hS hL hst
  obtain ⟨hi, h0⟩ := ok1 hst
  obtain ⟨-, h1⟩ := ok1 h0
  obtain ⟨g1, g2, g3⟩ := hg
  generalize hkd : kd_ sh a = kq at g1 g3
  obtain ⟨kt, kn⟩ := kq
  cases g1
  obtain ⟨ha0, hal, hsh⟩ := kd_at hkd (by simp)
  obtain ⟨cA, r1, r4, r2⟩ := hr.2.2.1 a.toNat _ (by omega) hsh
  have hcast : ((a.toNat : Nat) : Int) = a := by omega
  have hcasti : ((i.toNat : Nat) : Int) = i := by omega
  have hlt : i.toNat < kn := by dsimp only at g3; omega
  have hq := i32_vin (n := kn) hi g2 g3
  have K := kk H locs lsA hr hS hL (okc (show ok_ (.inr (.inr (M a i))) from trivial) h1)
  dsimp only at K ⊢
  rw [List.map_cons, List.map_cons, show cv_ G (.inr (.inr a)) = rv_ G a from rfl, rv_pos G ha0]
  refine W.aald (ty := .object "CoinCircle$Ledger") hC.1 hC.2.1 r2 (r1 _ _) rfl (fun q => by cases q) (by rw [arrV_size]; exact hq) (v := rv_ G (M a i)) ?_ rfl rfl hd K
  rw [i32_cl hi, arrV_read _ _ hlt, hcast, hcasti]
theorem aw_alen (hC : AOK Γ own cc nL d kc nc nm rt) {a v : Int} (hd : decode cc pc = .ok (.arraylength, 1)) (hp : pc + 1 = pc') (hg : 1 ≤ (kd_ sh a).1 ∧ (kd_ sh a).1 ≤ 5 ∧ (kd_ sh a).2 ≤ 2147483647) (hv : ((kd_ sh a).2 : Int) = v) (kk : AW Γ sh M k n pc' ls (.inl v :: st) Q) : AW Γ sh M k n pc ls (.inr (.inr a) :: st) Q := by
  subst hv
  subst hp
  obtain ⟨⟨p, l, e, R⟩, ⟨s, m, args, below⟩, ⟨meth, c⟩, G⟩ := Γ
  intro H locs lsA hr hS hL hst
  obtain ⟨-, h1⟩ := ok1 hst
  obtain ⟨g1, g2, g3⟩ := hg
  generalize hkd : kd_ sh a = kq at g1 g2 g3 kk
  obtain ⟨kt, kn⟩ := kq
  dsimp only at g1 g2 g3
  obtain ⟨ha0, hal, hsh⟩ := kd_at hkd (by dsimp only; omega)
  have hrk := hr.2.2.1 a.toNat _ (by omega) hsh
  have K := kk H locs lsA hr hS hL (okc (show I32 (kn : Int) by unfold I32; omega) h1)
  dsimp only at K ⊢
  rw [List.map_cons, show cv_ G (.inr (.inr a)) = rv_ G a from rfl, rv_pos G ha0]
  have hcell : ∃ (cA : ClassId) (ty : FieldType) (f : Nat → Value), ArrOfT s cA ty ∧ H[G.2.1 + a.toNat]? = some (arrV cA kn f) := by
    rcases (show kt = 1 ∨ kt = 2 ∨ kt = 3 ∨ kt = 4 ∨ kt = 5 by omega) with rfl | rfl | rfl | rfl | rfl
    · obtain ⟨cA, r1, r2, -⟩ := hrk; exact ⟨_, _, _, r1, r2⟩
    · obtain ⟨cA, r1, r2, -⟩ := hrk; exact ⟨_, _, _, r1, r2⟩
    · obtain ⟨cA, r1, r2, -⟩ := hrk; exact ⟨_, _, _, r1, r2⟩
    · obtain ⟨cA, r1, r2, -⟩ := hrk; exact ⟨_, _, _, r1, r2⟩
    · obtain ⟨cA, r1, -, r2⟩ := hrk; exact ⟨_, _, _, r1, r2⟩
  obtain ⟨cA, ty, f, r1, r2⟩ := hcell
  exact W.alen (n := i32 (kn : Int)) hC.1 hC.2.1 r2 (r1 _ _) (by rw [arrV_size]; rfl) rfl rfl hd K
theorem rep_.grow {G : AwG} {U : State} {sh : AwS} {M : AwM} {H H1 : Heap} {kq : Nat × Nat} (h : rep_ G U sh M H) (z : H1.size = H.size + 1) (o : ∀ q : Nat, q < H.size → H1[q]? = H[q]?) (hn : rk_ G U H1 sh.length kq (fun _ => 0)) : rep_ G U (sh ++ [kq]) M H1 := by
  refine ⟨by rw [z, h.1, List.length_append]; rfl, by rw [List.length_append]; exact Nat.lt_of_lt_of_le h.2.1 (Nat.le_add_right _ _), fun a ka h0 hk => ?_, fun a ha i => h.2.2.2 a (by rw [List.length_append] at ha; exact Nat.le_trans (Nat.le_add_right _ _) ha) i⟩
  by_cases hl : a < sh.length
  · rw [List.getElem?_append_left hl] at hk
    exact rk_kept (h.2.2.1 a ka h0 hk) (o _ (by rw [h.1]; omega))
  · rw [List.getElem?_append_right (by omega)] at hk
    have hz : a - sh.length < 1 := (List.getElem?_eq_some_iff.mp hk).1
    have ha : a = sh.length := by omega
    subst ha
    rw [Nat.sub_self] at hk
    cases hk
    have e : M ((sh.length : Nat) : Int) = fun _ => 0 := funext fun i => h.2.2.2 sh.length (Nat.le_refl _) i
    rw [e]
    exact hn
def NW_ (own : String) (idx ci N : Nat) : Prop := ∃ r : vw_C, vwCl[ci]? = some r ∧ r.2.2 = N ∧ Cond.classLink own idx r.1 ∈ gw_tbl ∧ Cond.instantiable r.1 N ∈ gw_tbl ∧ Cond.initialized r.1 ∈ gw_tbl ∧ ∀ j, j < N → tyF ci j ≠ .float ∧ tyF ci j ≠ .double
theorem dv_0 (G : AwG) {t : FieldType} (h : t ≠ .float ∧ t ≠ .double) : defaultValue t = cv_ G (avT t 0) := by
  cases t with
  | float => exact absurd rfl h.1
  | double => exact absurd rfl h.2
  | object C => show Value.null = rv_ G 0; unfold rv_; rw [if_pos rfl]
  | array C => show Value.null = rv_ G 0; unfold rv_; rw [if_pos rfl]
  | _ => rfl
theorem ok_0 (t : FieldType) : ok_ (avT t 0) := by
  cases t <;> first | trivial | (show I32 0; exact I32_0) | (show I64 0; unfold I64; omega)
theorem aw_new (hC : AOK Γ own cc nL d kc nc nm rt) {ci N idx : Nat} {v : Int} (hd : decode cc pc = .ok (.new idx, 3)) (hp : pc + 3 = pc') (hf : NW_ own idx ci N) (hk : k + 1 ≤ kc) (hn : n + N ≤ nc) (hv : ((sh.length : Nat) : Int) = v) (kk : AW Γ (sh ++ [(0, ci)]) M (k + 1) (n + N) pc' ls (.inr (.inr v) :: st) Q) : AW Γ sh M k n pc ls st Q := by
  subst hv
  subst hp
  obtain ⟨⟨p, l, e, R⟩, ⟨s, m, args, below⟩, ⟨meth, c⟩, G⟩ := Γ
  intro H locs lsA hr hS hL hst
  obtain ⟨⟨C, T, N'⟩, hc, hN, w1, w2, w3, hty⟩ := hf
  cases hN
  have hts := hC.2.2.2.2.1
  have hKn := hC.2.2.2.2.2.2.2.2.1.1 ci _ hc
  have hR := hC.2.2.2.2.2.2.2.2.2.2.1
  have h0 := hr.2.1
  refine W.newcK hC.1 hC.2.1 hC.2.2.2.1 (hts _ w1) (hts _ w2) (hts _ w3) rfl hd (Nat.le_trans hk hR.2.1) (Nat.le_trans hn hR.2.2.1) hKn.2.1 rfl fun H1 kC hkC e1 z1 o1 => ?_
  have hb := u_born (tyF ci) hts (clw_ ci _ hc) hKn hkC e1 (clt_ ci _ hc)
  have hz : H.size = G.2.1 + sh.length := hr.1
  have K := kk H1 locs lsA (hr.grow z1 o1 ⟨_, hc, (by rw [hz] at hb; exact hb.to (fun j hj => dv_0 G (hty j hj))), fun j _ => ok_0 _⟩) ⟨Nat.le_trans hS.1 (by omega), fun x g1 g2 => (o1 x (Nat.lt_of_lt_of_le g1 hS.1)).trans (hS.2.1 x g1 g2), hS.2.2⟩ hL (okc (show ok_ (.inr (.inr _)) from trivial) hst)
  dsimp only at K ⊢
  rw [List.map_cons, show cv_ G (.inr (.inr (sh.length : Int))) = rv_ G sh.length from rfl, rv_pos G (by omega)] at K
  rw [hz]
  exact K
theorem aw_newarr_int (hC : AOK Γ own cc nL d kc nc nm rt) {x v : Int} {N : Nat} (hd : decode cc pc = .ok (.newarray .int, 2)) (hp : pc + 2 = pc') (hw : Cond.arrayClass .int ∈ gw_tbl) (hx : x = (N : Int)) (hN : N ≤ 65536) (hk : k + 1 ≤ kc) (hn : n + N ≤ nc) (hv : ((sh.length : Nat) : Int) = v) (kk : AW Γ (sh ++ [(1, N)]) M (k + 1) (n + N) pc' ls (.inr (.inr v) :: st) Q) : AW Γ sh M k n pc ls (.inl x :: st) Q := by
  subst hv
  subst hx
  subst hp
  obtain ⟨⟨p, l, e, R⟩, ⟨s, m, args, below⟩, ⟨meth, c⟩, G⟩ := Γ
  intro H locs lsA hr hS hL hst
  obtain ⟨hx, h1⟩ := ok1 hst
  have hts := hC.2.2.2.2.1
  have hR := hC.2.2.2.2.2.2.2.2.2.2.1
  have h0 := hr.2.1
  have hz : H.size = G.2.1 + sh.length := hr.1
  refine va_newaK (atype := .int) hC.1 hC.2.1 (hts _ hw) rfl hd rfl (N := N) (by rw [← i32_0, i32_lt hx I32_0]; omega) (by rw [i32_cl hx]; rfl) (by show N * _ ≤ _; simp [componentBytes, newarray.typeOf]; omega) (Nat.le_trans hk hR.2.1) (Nat.le_trans hn hR.2.2.1) rfl fun H1 cA e1 z1 o1 hA hfA => ?_
  have K := kk H1 locs lsA (hr.grow z1 o1 ⟨cA, hA, (by rw [hz] at e1; exact e1), fun j _ => I32_0⟩) ⟨Nat.le_trans hS.1 (by omega), fun x g1 g2 => (o1 x (Nat.lt_of_lt_of_le g1 hS.1)).trans (hS.2.1 x g1 g2), hS.2.2⟩ hL (okc (show ok_ (.inr (.inr _)) from trivial) h1)
  dsimp only at K ⊢
  rw [List.map_cons, show cv_ G (.inr (.inr (sh.length : Int))) = rv_ G sh.length from rfl, rv_pos G (by omega)] at K
  rw [hz]
  exact K
theorem aw_newarr_long (hC : AOK Γ own cc nL d kc nc nm rt) {x v : Int} {N : Nat} (hd : decode cc pc = .ok (.newarray .long, 2)) (hp : pc + 2 = pc') (hw : Cond.arrayClass .long ∈ gw_tbl) (hx : x = (N : Int)) (hN : N ≤ 65536) (hk : k + 1 ≤ kc) (hn : n + N ≤ nc) (hv : ((sh.length : Nat) : Int) = v) (kk : AW Γ (sh ++ [(2, N)]) M (k + 1) (n + N) pc' ls (.inr (.inr v) :: st) Q) : AW Γ sh M k n pc ls (.inl x :: st) Q := by
  subst hv
  subst hx
  subst hp
  obtain ⟨⟨p, l, e, R⟩, ⟨s, m, args, below⟩, ⟨meth, c⟩, G⟩ := Γ
  intro H locs lsA hr hS hL hst
  obtain ⟨hx, h1⟩ := ok1 hst
  have hts := hC.2.2.2.2.1
  have hR := hC.2.2.2.2.2.2.2.2.2.2.1
  have h0 := hr.2.1
  have hz : H.size = G.2.1 + sh.length := hr.1
  refine va_newaK (atype := .long) hC.1 hC.2.1 (hts _ hw) rfl hd rfl (N := N) (by rw [← i32_0, i32_lt hx I32_0]; omega) (by rw [i32_cl hx]; rfl) (by show N * _ ≤ _; simp [componentBytes, newarray.typeOf]; omega) (Nat.le_trans hk hR.2.1) (Nat.le_trans hn hR.2.2.1) rfl fun H1 cA e1 z1 o1 hA hfA => ?_
  have K := kk H1 locs lsA (hr.grow z1 o1 ⟨cA, hA, (by rw [hz] at e1; exact e1), fun j _ => (show I64 0 by unfold I64; omega)⟩) ⟨Nat.le_trans hS.1 (by omega), fun x g1 g2 => (o1 x (Nat.lt_of_lt_of_le g1 hS.1)).trans (hS.2.1 x g1 g2), hS.2.2⟩ hL (okc (show ok_ (.inr (.inr _)) from trivial) h1)
  dsimp only at K ⊢
  rw [List.map_cons, show cv_ G (.inr (.inr (sh.length : Int))) = rv_ G sh.length from rfl, rv_pos G (by omega)] at K
  rw [hz]
  exact K
theorem aw_newarr_byte (hC : AOK Γ own cc nL d kc nc nm rt) {x v : Int} {N : Nat} (hd : decode cc pc = .ok (.newarray .byte, 2)) (hp : pc + 2 = pc') (hw : Cond.arrayClass .byte ∈ gw_tbl) (hx : x = (N : Int)) (hN : N ≤ 65536) (hk : k + 1 ≤ kc) (hn : n + N ≤ nc) (hv : ((sh.length : Nat) : Int) = v) (kk : AW Γ (sh ++ [(3, N)]) M (k + 1) (n + N) pc' ls (.inr (.inr v) :: st) Q) : AW Γ sh M k n pc ls (.inl x :: st) Q := by
  subst hv
  subst hx
  subst hp
  obtain ⟨⟨p, l, e, R⟩, ⟨s, m, args, below⟩, ⟨meth, c⟩, G⟩ := Γ
  intro H locs lsA hr hS hL hst
  obtain ⟨hx, h1⟩ := ok1 hst
  have hts := hC.2.2.2.2.1
  have hR := hC.2.2.2.2.2.2.2.2.2.2.1
  have h0 := hr.2.1
  have hz : H.size = G.2.1 + sh.length := hr.1
  refine va_newaK (atype := .byte) hC.1 hC.2.1 (hts _ hw) rfl hd rfl (N := N) (by rw [← i32_0, i32_lt hx I32_0]; omega) (by rw [i32_cl hx]; rfl) (by show N * _ ≤ _; simp [componentBytes, newarray.typeOf]; omega) (Nat.le_trans hk hR.2.1) (Nat.le_trans hn hR.2.2.1) rfl fun H1 cA e1 z1 o1 hA hfA => ?_
  have K := kk H1 locs lsA (hr.grow z1 o1 ⟨cA, hA, (by rw [hz] at e1; exact e1), fun j _ => I32_0⟩) ⟨Nat.le_trans hS.1 (by omega), fun x g1 g2 => (o1 x (Nat.lt_of_lt_of_le g1 hS.1)).trans (hS.2.1 x g1 g2), hS.2.2⟩ hL (okc (show ok_ (.inr (.inr _)) from trivial) h1)
  dsimp only at K ⊢
  rw [List.map_cons, show cv_ G (.inr (.inr (sh.length : Int))) = rv_ G sh.length from rfl, rv_pos G (by omega)] at K
  rw [hz]
  exact K
theorem aw_newarr_boolean (hC : AOK Γ own cc nL d kc nc nm rt) {x v : Int} {N : Nat} (hd : decode cc pc = .ok (.newarray .boolean, 2)) (hp : pc + 2 = pc') (hw : Cond.arrayClass .boolean ∈ gw_tbl) (hx : x = (N : Int)) (hN : N ≤ 65536) (hk : k + 1 ≤ kc) (hn : n + N ≤ nc) (hv : ((sh.length : Nat) : Int) = v) (kk : AW Γ (sh ++ [(4, N)]) M (k + 1) (n + N) pc' ls (.inr (.inr v) :: st) Q) : AW Γ sh M k n pc ls (.inl x :: st) Q := by
  subst hv
  subst hx
  subst hp
  obtain ⟨⟨p, l, e, R⟩, ⟨s, m, args, below⟩, ⟨meth, c⟩, G⟩ := Γ
  intro H locs lsA hr hS hL hst
  obtain ⟨hx, h1⟩ := ok1 hst
  have hts := hC.2.2.2.2.1
  have hR := hC.2.2.2.2.2.2.2.2.2.2.1
  have h0 := hr.2.1
  have hz : H.size = G.2.1 + sh.length := hr.1
  refine va_newaK (atype := .boolean) hC.1 hC.2.1 (hts _ hw) rfl hd rfl (N := N) (by rw [← i32_0, i32_lt hx I32_0]; omega) (by rw [i32_cl hx]; rfl) (by show N * _ ≤ _; simp [componentBytes, newarray.typeOf]; omega) (Nat.le_trans hk hR.2.1) (Nat.le_trans hn hR.2.2.1) rfl fun H1 cA e1 z1 o1 hA hfA => ?_
  have K := kk H1 locs lsA (hr.grow z1 o1 ⟨cA, hA, (by rw [hz] at e1; exact e1), fun j _ => I32_0⟩) ⟨Nat.le_trans hS.1 (by omega), fun x g1 g2 => (o1 x (Nat.lt_of_lt_of_le g1 hS.1)).trans (hS.2.1 x g1 g2), hS.2.2⟩ hL (okc (show ok_ (.inr (.inr _)) from trivial) h1)
  dsimp only at K ⊢
  rw [List.map_cons, show cv_ G (.inr (.inr (sh.length : Int))) = rv_ G sh.length from rfl, rv_pos G (by omega)] at K
  rw [hz]
  exact K
end AWH
