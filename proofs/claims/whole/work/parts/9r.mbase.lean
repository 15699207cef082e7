/-! the model's reading of a formula: what it keeps -/
section PMBA
def sg (x : Tk) (c : Int) : Bool := decide (x.1 = 1 ∧ x.2.1 = c)
def ow (x : Tk) (k : Int) : Bool := decide (x.1 = 4 ∧ x.2.1 = k)
theorem sg_t {x : Tk} {c : Int} : sg x c = true ↔ x.1 = 1 ∧ x.2.1 = c := by unfold sg; exact decide_eq_true_iff
theorem ow_t {x : Tk} {c : Int} : ow x c = true ↔ x.1 = 4 ∧ x.2.1 = c := by unfold ow; exact decide_eq_true_iff
theorem mblm_n {M : AwM} {k p : Int} (h8 : M 167 8 = 0) : fX9_blame SH M 167 k p = some (up_ (up_ M 167 8 k) 167 9 p) := by
  unfold fX9_blame
  rw [kd167, gd_t rfl, h8, if_neg (by decide), bd_1, bd_1]
theorem mblm_f {M : AwM} {k p : Int} (h8 : 0 < M 167 8) : fX9_blame SH M 167 k p = some M := by
  unfold fX9_blame
  rw [kd167, gd_t rfl, if_pos h8]
theorem mlex_n {M : AwM} {x : Tk} (h : MTK M x) (hx : x.1 ≠ 5) : fX9_lex SH M 167 = some M := by
  unfold fX9_lex
  rw [kd167, gd_t rfl, h.2.2.2.1 hx, if_pos rfl]
theorem mlex_5 {M : AwM} {x : Tk} (h : MTK M x) (hx : x.1 = 5) (h8 : M 167 8 = 0) : fX9_lex SH M 167 = some (up_ (up_ M 167 8 1) 167 9 (x.2.2.2.1 : Int)) := by
  unfold fX9_lex
  rw [kd167, gd_t rfl, (h.2.2.1 hx).1, if_neg (by omega), mblm_n h8, pb_1, u1_1]
theorem mlex_f {M : AwM} (h8 : 0 < M 167 8) : fX9_lex SH M 167 = some M := by
  unfold fX9_lex
  rw [kd167, gd_t rfl]
  by_cases z : M 167 12 = -1
  · rw [if_pos z]
  · rw [if_neg z, mblm_f h8, pb_1, u1_1]
theorem msgn_n {M : AwM} {T : Int → Int} {L : Nat} {x : Tk} (h : MTK M x) (hk : TkOK T L x) (hx : x.1 ≠ 5) {c : Int} (hc : c ∈ sgL) : fX9_isSign SH M 167 c = some (bi (sg x c)) := by
  obtain ⟨_, _, _, _, m0, m1, m2, m3, m4⟩ := h
  have k06 := hk.1
  unfold fX9_isSign sg
  rw [kd167, gd_t rfl]
  rcases (show x.1 = 0 ∨ x.1 = 1 ∨ x.1 = 2 ∨ x.1 = 3 ∨ x.1 = 4 ∨ x.1 = 6 by omega) with q | q | q | q | q | q
  · rw [m0 q, if_neg (by decide), decide_eq_false (by omega)]; rfl
  · rw [(m1 (Or.inl q)).1, if_pos rfl, (m1 (Or.inl q)).2]
    by_cases e : x.2.1 = c
    · rw [if_pos e, decide_eq_true ⟨q, e⟩]; rfl
    · rw [if_neg e, decide_eq_false (fun z => e z.2)]; rfl
  · rw [(m2 q).1, if_neg (by decide), decide_eq_false (by omega)]; rfl
  · rw [(m3 q).1, if_neg (by decide), decide_eq_false (by omega)]; rfl
  · rw [(m4 q).1, if_neg (by decide), decide_eq_false (by omega)]; rfl
  · have n6 := hk.2.2.2.2.2.2.2.2.2 q
    rw [(m1 (Or.inr q)).1, if_pos rfl, (m1 (Or.inr q)).2, if_neg (fun e => n6 (by rw [e]; exact hc)), decide_eq_false (by omega)]; rfl
theorem ndOK_up : ∀ (k j : Nat) (n : Int), k ≤ j → ndOK k n → ndOK j n
  | 0, 0, _, _, h => h
  | 0, _ + 1, _, _, h => Or.inl h
  | k + 1, 0, _, hk, _ => absurd hk (by omega)
  | k + 1, j + 1, n, hk, h => by
    rcases h with h | ⟨a, b, c, d⟩
    · exact Or.inl h
    · exact Or.inr ⟨a, b, c, ndOK_up k j _ (by omega) d⟩
theorem mwrd_n {M : AwM} {T : Int → Int} {L : Nat} {x : Tk} (h : MTK M x) (hk : TkOK T L x) (hx : x.1 ≠ 5) {w k : Int} (k0 : 0 ≤ k) (k1 : k < 23) (hw : w = own8f k) : fX9_isWord SH M 167 w = some (bi (ow x k)) := by
  obtain ⟨_, _, _, _, m0, m1, m2, m3, m4⟩ := h
  have k06 := hk.1
  subst hw
  unfold fX9_isWord ow
  rw [kd167, gd_t rfl]
  rcases (show x.1 = 0 ∨ x.1 = 1 ∨ x.1 = 2 ∨ x.1 = 3 ∨ x.1 = 4 ∨ x.1 = 6 by omega) with q | q | q | q | q | q
  · rw [m0 q, if_neg (by decide), decide_eq_false (by omega)]; rfl
  · rw [(m1 (Or.inl q)).1, if_neg (by decide), decide_eq_false (by omega)]; rfl
  · rw [(m2 q).1, if_neg (by decide), decide_eq_false (by omega)]; rfl
  · have n3 := (hk.2.2.2.2.2.2.2.1 q).1
    rw [(m3 q).1, if_pos rfl, (m3 q).2, if_neg (fun e => by
      have := (own8_w (ndOK_up 6 8 _ (by omega) n3.1) k0 k1).mp (Eq.mp cmp_z e)
      omega), decide_eq_false (by omega)]; rfl
  · have n4 := (hk.2.2.2.2.2.2.2.2.1 q).1
    rw [(m4 q).1, if_pos rfl, (m4 q).2]
    by_cases e : x.2.1 = k
    · rw [if_pos (Eq.mpr cmp_z (by rw [e])), decide_eq_true ⟨q, e⟩]; rfl
    · rw [if_neg (fun z => e (by
        have z' := Eq.mp cmp_z z
        obtain ⟨a, a'⟩ := own8_n n4.1 n4.2
        obtain ⟨b, b'⟩ := own8_n k0 k1
        rw [a, b] at z'
        exact own5_u n4.1 n4.2 k0 k1 (n8_inj a' b' z'))), decide_eq_false (fun z => e z.2)]; rfl
  · rw [(m1 (Or.inr q)).1, if_neg (by decide), decide_eq_false (by omega)]; rfl
/-- a frame: kind, phase, begins, pair, what waits (the last one first) -/
abbrev Fr := Int × Int × Bool × Int × List Int
def tot : List Fr → Nat
  | [] => 0
  | f :: r => f.2.2.2.2.length + tot r
def p34 : List Fr → Nat
  | [] => 0
  | f :: r => (if f.1 = 3 ∨ f.1 = 4 then 1 else 0) + p34 r
def opsM (M : AwM) : Nat → List Int → Prop
  | _, [] => True
  | b, x :: r => (M 195 ((b + r.length : Nat) : Int) = x ∧ 10 ≤ x ∧ x ≤ 22) ∧ opsM M b r
def frm (M : AwM) : List Fr → Prop
  | [] => True
  | f :: r => (M 190 (r.length : Int) = f.1 ∧ M 191 (r.length : Int) = f.2.1 ∧ M 192 (r.length : Int) = bi f.2.2.1 ∧ (f.2.2.2.1 ≠ 0 → M 193 (r.length : Int) = f.2.2.2.1 ∧ 10 ≤ f.2.2.2.1 ∧ f.2.2.2.1 ≤ 22) ∧ M 194 (r.length : Int) = (tot r : Int) ∧ opsM M (tot r) f.2.2.2.2) ∧ frm M r
theorem opsM_lo {M M' : AwM} {b : Nat} : ∀ {l : List Int}, opsM M b l → (∀ i : Int, i < ((b + l.length : Nat) : Int) → M' 195 i = M 195 i) → opsM M' b l
  | [], _, _ => trivial
  | x :: r, h, f => by
    rw [List.length_cons] at f
    exact ⟨⟨(f _ (by omega)).trans h.1.1, h.1.2⟩, opsM_lo h.2 (fun i hi => f i (by omega))⟩
theorem frm_lo {M M' : AwM} : ∀ {fs : List Fr}, frm M fs → (∀ a i : Int, 190 ≤ a → a ≤ 194 → i < (fs.length : Int) → M' a i = M a i) → (∀ i : Int, i < (tot fs : Int) → M' 195 i = M 195 i) → frm M' fs
  | [], _, _, _ => trivial
  | f :: r, h, g, g5 => by
    rw [List.length_cons] at g
    have e : tot (f :: r) = f.2.2.2.2.length + tot r := rfl
    rw [e] at g5
    obtain ⟨⟨a, b, c, d, e1, e2⟩, k⟩ := h
    have ih := frm_lo k (fun a i x y z => g a i x y (by omega)) (fun i hi => g5 i (by omega))
    refine ⟨⟨(g _ _ (by omega) (by omega) (by omega)).trans a, (g _ _ (by omega) (by omega) (by omega)).trans b, (g _ _ (by omega) (by omega) (by omega)).trans c, fun z => ⟨(g _ _ (by omega) (by omega) (by omega)).trans (d z).1, (d z).2⟩, (g _ _ (by omega) (by omega) (by omega)).trans e1, opsM_lo e2 (fun i hi => g5 i (by omega))⟩, ih⟩
/-- the codes -/
def cods (M : AwM) (b : Int) (cf : Nat) (C : List Int) : Prop := ∀ (k : Nat) (c : Int), C[k]? = some c → (0 ≤ M 185 (1600 * b + (cf : Int) + (k : Int)) ∧ M 185 (1600 * b + (cf : Int) + (k : Int)) ≤ 22) ∧ (M 185 (1600 * b + (cf : Int) + (k : Int)) ≤ 6 ∨ 9 ≤ M 185 (1600 * b + (cf : Int) + (k : Int))) ∧ (M 185 (1600 * b + (cf : Int) + (k : Int)) = 0 → 0 ≤ M 186 (1600 * b + (cf : Int) + (k : Int)) ∧ M 186 (1600 * b + (cf : Int) + (k : Int)) ≤ 9999) ∧ mce (M 185 (1600 * b + (cf : Int) + (k : Int))) (M 186 (1600 * b + (cf : Int) + (k : Int))) = c
theorem cods_fr {M M' : AwM} {b : Int} {cf : Nat} {C : List Int} (h : cods M b cf C) (g : ∀ a i : Int, 185 ≤ a → a ≤ 186 → i < 1600 * b + (cf : Int) + (C.length : Int) → M' a i = M a i) : cods M' b cf C := fun k c hk => by
  have lt := (List.getElem?_eq_some_iff.mp hk).1
  rw [g 185 _ (by omega) (by omega) (by omega), g 186 _ (by omega) (by omega) (by omega)]
  exact h k c hk
section
variable (T : Int → Int) (L : Nat) (b : Int) (cf : Nat)
/-- what the model keeps while it reads a formula: frames, how many are open, codes -/
def MB (M : AwM) (fs : List Fr) (o : Nat) (C : List Int) : Prop :=
  (LAY M ∧ M 167 36 = b ∧ M 167 8 = 0 ∧ MTp M T L) ∧
  (M 167 42 = (fs.length : Int) ∧ M 167 43 = (o : Int) ∧ M 167 45 = (tot fs : Int) ∧ M 167 35 = (cf : Int) + (C.length : Int)) ∧
  (frm M fs ∧ cods M b cf C) ∧ (cf + C.length ≤ 1600 ∧ tot fs ≤ 60 ∧ fs.length ≤ 8 ∧ o ≤ 7) ∧ (b = 0 ∨ b = 1)
/-- what it writes beside the token -/
def mbf (M' M : AwM) : Prop := ∀ a i : Int, ¬ (a = 167 ∧ (i = 35 ∨ i = 42 ∨ i = 43 ∨ i = 45 ∨ i = 46)) → ¬ (190 ≤ a ∧ a ≤ 195) → ¬ ((a = 185 ∨ a = 186) ∧ 1600 * b + (cf : Int) ≤ i ∧ i < 1600 * b + 1600) → M' a i = M a i
end
variable {T : Int → Int} {L : Nat} {b : Int} {cf : Nat}
theorem mbf_rf {M : AwM} : mbf b cf M M := fun _ _ _ _ _ => rfl
theorem mbf_tr {M M1 M2 : AwM} (h : mbf b cf M1 M) (h' : mbf b cf M2 M1) : mbf b cf M2 M := fun a i p q r => (h' a i p q r).trans (h a i p q r)
theorem lay_mb : layT.all (fun q => decide (¬ (190 ≤ q.1 ∧ q.1 ≤ 195) ∧ ¬ (169 ≤ q.1 ∧ q.1 ≤ 189))) = true := by decide +kernel
theorem LAY_mb {M M' : AwM} (h : LAY M) (f : mbf b cf M' M) : LAY M' := LAY_fq h (fun q hq => by
  have t := of_decide_eq_true (List.all_eq_true.mp lay_ma q hq)
  have u := of_decide_eq_true (List.all_eq_true.mp lay_mb q hq)
  exact f _ _ (by omega) (by omega) (by omega))
theorem MTK_mb {M M' : AwM} {x : Tk} (h : MTK M x) (f : mbf b cf M' M) : MTK M' x := by
  have e : ∀ i : Int, (3 ≤ i ∧ i ≤ 7 ∨ i = 12) → M' 167 i = M 167 i := fun i hi => f _ _ (by omega) (by omega) (by omega)
  unfold MTK
  rw [e 4 (by omega), e 5 (by omega), e 12 (by omega), e 3 (by omega), e 6 (by omega), e 7 (by omega)]
  exact h
theorem MTp_mb {M M' : AwM} (h : MTp M T L) (f : mbf b cf M' M) : MTp M' T L := ⟨⟨(f _ _ (by omega) (by omega) (by omega)).trans h.1.1, (f _ _ (by omega) (by omega) (by omega)).trans h.1.2⟩, h.2.1, fun i x y => ⟨(h.2.2 i x y).1, (f _ _ (by omega) (by omega) (by omega)).trans (h.2.2 i x y).2⟩⟩
/-- what is alike after a step beside the token -/
theorem MB_base {M M' : AwM} {fs fs' : List Fr} {o o' : Nat} {C C' : List Int} (h : MB T L b cf M fs o C) (f : mbf b cf M' M) (h2 : M' 167 42 = (fs'.length : Int) ∧ M' 167 43 = (o' : Int) ∧ M' 167 45 = (tot fs' : Int) ∧ M' 167 35 = (cf : Int) + (C'.length : Int)) (h3 : frm M' fs' ∧ cods M' b cf C') (h4 : cf + C'.length ≤ 1600 ∧ tot fs' ≤ 60 ∧ fs'.length ≤ 8 ∧ o' ≤ 7) : MB T L b cf M' fs' o' C' :=
  ⟨⟨LAY_mb h.1.1 f, (f _ _ (by omega) (by omega) (by omega)).trans h.1.2.1, (f _ _ (by omega) (by omega) (by omega)).trans h.1.2.2.1, MTp_mb h.1.2.2.2 f⟩, h2, h3, h4, h.2.2.2.2⟩
theorem MB_ma {M M' : AwM} {fs : List Fr} {o : Nat} {C : List Int} (h : MB T L b cf M fs o C) (f : maf M' M) : MB T L b cf M' fs o C := by
  obtain ⟨⟨a1, a2, a3, a4⟩, ⟨b1, b2, b3, b4⟩, ⟨c1, c2⟩, d, e⟩ := h
  exact ⟨⟨LAY_ma a1 f, (f _ _ (by omega)).trans a2, (f _ _ (by omega)).trans a3, MTp_ma a4 f⟩, ⟨(f _ _ (by omega)).trans b1, (f _ _ (by omega)).trans b2, (f _ _ (by omega)).trans b3, (f _ _ (by omega)).trans b4⟩, ⟨frm_lo c1 (fun a i _ _ _ => f a i (by omega)) (fun i _ => f _ _ (by omega)), cods_fr c2 (fun a i _ _ _ => f a i (by omega))⟩, d, e⟩
/-- the flag -/
theorem MB_46 {M : AwM} {fs : List Fr} {o : Nat} {C : List Int} {v : Int} (h : MB T L b cf M fs o C) : MB T L b cf (up_ M 167 46 v) fs o C ∧ mbf b cf (up_ M 167 46 v) M := by
  have f : mbf b cf (up_ M 167 46 v) M := fun a i p _ _ => up_nn (fun z => p ⟨z.1, by omega⟩)
  obtain ⟨h1, ⟨b1, b2, b3, b4⟩, ⟨c1, c2⟩, d, e⟩ := id h
  exact ⟨MB_base h f ⟨(up_oi (by decide)).trans b1, (up_oi (by decide)).trans b2, (up_oi (by decide)).trans b3, (up_oi (by decide)).trans b4⟩ ⟨frm_lo c1 (fun a i _ _ _ => up_of (by omega)) (fun i _ => up_of (by omega)), cods_fr c2 (fun a i _ _ _ => up_of (by omega))⟩ d, f⟩
/-- how many are open -/
theorem MB_43 {M : AwM} {fs : List Fr} {o o' : Nat} {C : List Int} (h : MB T L b cf M fs o C) (ho : o' ≤ 7) : MB T L b cf (up_ M 167 43 (o' : Int)) fs o' C ∧ mbf b cf (up_ M 167 43 (o' : Int)) M := by
  have f : mbf b cf (up_ M 167 43 (o' : Int)) M := fun a i p _ _ => up_nn (fun z => p ⟨z.1, by omega⟩)
  obtain ⟨h1, ⟨b1, b2, b3, b4⟩, ⟨c1, c2⟩, d, e⟩ := id h
  exact ⟨MB_base h f ⟨(up_oi (by decide)).trans b1, up_at, (up_oi (by decide)).trans b3, (up_oi (by decide)).trans b4⟩ ⟨frm_lo c1 (fun a i _ _ _ => up_of (by omega)) (fun i _ => up_of (by omega)), cods_fr c2 (fun a i _ _ _ => up_of (by omega))⟩ ⟨d.1, d.2.1, d.2.2.1, ho⟩, f⟩
/-- one is held back -/
theorem MB_hold {M : AwM} {k ph pr : Int} {bg : Bool} {ops : List Int} {r : List Fr} {o : Nat} {C : List Int} {op : Int} (h : MB T L b cf M ((k, ph, bg, pr, ops) :: r) o C) (hop : 10 ≤ op ∧ op ≤ 22) (ht : ops.length + tot r + 1 ≤ 60) : ∃ M', fX9_holdsBack SH M 167 op = some M' ∧ MB T L b cf M' ((k, ph, bg, pr, op :: ops) :: r) o C ∧ mbf b cf M' M := by
  obtain ⟨⟨a1, a2, a3, a4⟩, ⟨b1, b2, b3, b4⟩, ⟨c1, c2⟩, d, e⟩ := id h
  have et : tot ((k, ph, bg, pr, ops) :: r) = ops.length + tot r := rfl
  have et' : tot ((k, ph, bg, pr, op :: ops) :: r) = ops.length + 1 + tot r := rfl
  rw [et] at b3
  have e1 : up_ M 195 ((ops.length + tot r : Nat) : Int) op 167 45 = ((ops.length + tot r : Nat) : Int) := (up_of (by decide)).trans b3
  have f : mbf b cf (up_ (up_ M 195 ((ops.length + tot r : Nat) : Int) op) 167 45 ((ops.length + tot r + 1 : Nat) : Int)) M := fun a i p q _ => by
    rw [up_nn (fun z => p ⟨z.1, by omega⟩), up_of (by omega)]
  refine ⟨_, ?_, MB_base h f ⟨?_, ?_, ?_, ?_⟩ ⟨⟨?_, ?_⟩, ?_⟩ ⟨d.1, by rw [et']; omega, d.2.2.1, d.2.2.2⟩, f⟩
  · unfold fX9_holdsBack
    rw [kd167, gd_t rfl, ly167_44 a1, kd195, b3, ga_t (by omega) (by omega), bd_1, e1, w32_s (v := ((ops.length + tot r : Nat) : Int) + 1) (by omega) (by omega), bd_1]
    rfl
  · rw [up_oi (by decide), up_of (by decide)]; exact b1
  · rw [up_oi (by decide), up_of (by decide)]; exact b2
  · rw [up_at, et']; omega
  · rw [up_oi (by decide), up_of (by decide)]; exact b4
  · obtain ⟨⟨f1, f2, f3, f4, f5, f6⟩, f7⟩ := c1
    refine ⟨?_, ?_, ?_, fun z => ?_, ?_, ⟨?_, hop⟩, ?_⟩
    · rw [up_of (by decide), up_of (by decide)]; exact f1
    · rw [up_of (by decide), up_of (by decide)]; exact f2
    · rw [up_of (by decide), up_of (by decide)]; exact f3
    · rw [up_of (by decide), up_of (by decide)]; exact f4 z
    · rw [up_of (by decide), up_of (by decide)]; exact f5
    · rw [up_of (by decide), show tot r + ops.length = ops.length + tot r by omega, up_at]
    · exact opsM_lo f6 (fun i hi => by rw [up_of (by decide), up_oi (by omega)])
  · exact frm_lo c1.2 (fun a i _ _ _ => by rw [up_of (by omega), up_of (by omega)]) (fun i hi => by rw [up_of (by decide), up_oi (by omega)])
  · exact cods_fr c2 (fun a i _ _ _ => by rw [up_of (by omega), up_of (by omega)])
/-- the top frame's kind, phase, begins -/
theorem MB_top {M : AwM} {k ph pr k' ph' pr' : Int} {bg bg' : Bool} {ops : List Int} {r : List Fr} {o : Nat} {C : List Int} {a v : Int} (h : MB T L b cf M ((k, ph, bg, pr, ops) :: r) o C) (hc : (a = 190 ∧ k' = v ∧ ph' = ph ∧ bg' = bg ∧ pr' = pr) ∨ (a = 191 ∧ k' = k ∧ ph' = v ∧ bg' = bg ∧ pr' = pr) ∨ (a = 192 ∧ k' = k ∧ ph' = ph ∧ bi bg' = v ∧ pr' = pr)) : MB T L b cf (up_ M a (r.length : Int) v) ((k', ph', bg', pr', ops) :: r) o C ∧ mbf b cf (up_ M a (r.length : Int) v) M := by
  have ha : 190 ≤ a ∧ a ≤ 192 := by omega
  have f : mbf b cf (up_ M a (r.length : Int) v) M := fun a' i p q _ => up_of (by omega)
  obtain ⟨⟨a1, a2, a3, a4⟩, ⟨b1, b2, b3, b4⟩, ⟨c1, c2⟩, d, e⟩ := id h
  obtain ⟨⟨f1, f2, f3, f4, f5, f6⟩, f7⟩ := c1
  refine ⟨MB_base h f ⟨(up_of (by omega)).trans b1, (up_of (by omega)).trans b2, (up_of (by omega)).trans b3, (up_of (by omega)).trans b4⟩ ⟨⟨?_, frm_lo f7 (fun a' i x y z => up_nn (fun w => by omega)) (fun i _ => up_of (by omega))⟩, cods_fr c2 (fun a' i _ _ _ => up_of (by omega))⟩ d, f⟩
  rcases hc with ⟨rfl, rfl, rfl, rfl, rfl⟩ | ⟨rfl, rfl, rfl, rfl, rfl⟩ | ⟨rfl, rfl, rfl, rfl, rfl⟩
  · exact ⟨up_at, (up_of (by decide)).trans f2, (up_of (by decide)).trans f3, fun z => by rw [up_of (by decide)]; exact f4 z, (up_of (by decide)).trans f5, opsM_lo f6 (fun i _ => up_of (by decide))⟩
  · exact ⟨(up_of (by decide)).trans f1, up_at, (up_of (by decide)).trans f3, fun z => by rw [up_of (by decide)]; exact f4 z, (up_of (by decide)).trans f5, opsM_lo f6 (fun i _ => up_of (by decide))⟩
  · exact ⟨(up_of (by decide)).trans f1, (up_of (by decide)).trans f2, up_at, fun z => by rw [up_of (by decide)]; exact f4 z, (up_of (by decide)).trans f5, opsM_lo f6 (fun i _ => up_of (by decide))⟩
/-- a code is added -/
theorem MB_add {M : AwM} {fs : List Fr} {o : Nat} {C : List Int} {s v c : Int} (h : MB T L b cf M fs o C) (hs : (0 ≤ s ∧ s ≤ 22) ∧ (s ≤ 6 ∨ 9 ≤ s)) (hv : s = 0 → 0 ≤ v ∧ v ≤ 9999) (hc : mce s v = c) (hn : cf + C.length < 1600) : ∃ M', fX9_add SH M 167 s v = some M' ∧ MB T L b cf M' fs o (C ++ [c]) ∧ mbf b cf M' M ∧ (∀ i : Int, i ≠ 35 → M' 167 i = M 167 i) ∧ ∀ a i : Int, 190 ≤ a → M' a i = M a i := by
  obtain ⟨⟨a1, a2, a3, a4⟩, ⟨b1, b2, b3, b4⟩, ⟨c1, c2⟩, d, e⟩ := id h
  have ei : w32 (w32 (1600 * b) + ((cf : Int) + (C.length : Int))) = 1600 * b + (cf : Int) + (C.length : Int) := by
    rw [w32_s (v := 1600 * b) (by omega) (by omega), w32_s (by omega) (by omega)]; omega
  have f : mbf b cf (up_ (up_ (up_ M 185 (1600 * b + (cf : Int) + (C.length : Int)) s) 186 (1600 * b + (cf : Int) + (C.length : Int)) v) 167 35 ((cf : Int) + (C.length : Int) + 1)) M := fun a i p q w => by
    rw [up_nn (fun z => p ⟨z.1, by omega⟩), up_nn (fun z => w ⟨Or.inr z.1, by omega⟩), up_nn (fun z => w ⟨Or.inl z.1, by omega⟩)]
  have lc : (C ++ [c]).length = C.length + 1 := by rw [List.length_append]; rfl
  refine ⟨_, ?_, MB_base h f ⟨?_, ?_, ?_, ?_⟩ ⟨?_, fun k c' hk => ?_⟩ ⟨by rw [lc]; omega, d.2⟩, f, fun i hi => ?_, fun a i ha => ?_⟩
  · unfold fX9_add
    rw [kd167, gd_t rfl, ly167_30 a1, kd185, a2, b4, ei, ga_t (by omega) (by omega), bd_1, up_of (show (167 : Int) ≠ 185 by decide), up_of (show (167 : Int) ≠ 185 by decide), up_of (show (167 : Int) ≠ 185 by decide), ly167_31 a1, kd186, a2, b4, ei, ga_t (by omega) (by omega), bd_1, up_of (show (167 : Int) ≠ 186 by decide), up_of (show (167 : Int) ≠ 185 by decide), b4, w32_s (v := (cf : Int) + (C.length : Int) + 1) (by omega) (by omega), bd_1]
  · rw [up_oi (by decide), up_of (by decide), up_of (by decide)]; exact b1
  · rw [up_oi (by decide), up_of (by decide), up_of (by decide)]; exact b2
  · rw [up_oi (by decide), up_of (by decide), up_of (by decide)]; exact b3
  · rw [up_at, lc]; omega
  · exact frm_lo c1 (fun a i _ _ _ => by rw [up_of (by omega), up_of (by omega), up_of (by omega)]) (fun i _ => by rw [up_of (by decide), up_of (by decide), up_of (by decide)])
  · by_cases ek : k = C.length
    · subst ek
      rw [List.getElem?_append_right (Nat.le_refl _)] at hk
      simp at hk
      rw [up_of (show (185 : Int) ≠ 167 by decide), up_of (show (185 : Int) ≠ 186 by decide), up_at, up_of (show (186 : Int) ≠ 167 by decide), up_at, ← hk]
      exact ⟨hs.1, hs.2, hv, hc⟩
    · have lt := (List.getElem?_eq_some_iff.mp hk).1
      rw [lc] at lt
      rw [List.getElem?_append_left (by omega)] at hk
      rw [up_of (show (185 : Int) ≠ 167 by decide), up_of (show (185 : Int) ≠ 186 by decide), up_oi (by omega), up_of (show (186 : Int) ≠ 167 by decide), up_oi (by omega), up_of (show (186 : Int) ≠ 185 by decide)]
      exact c2 k c' hk
  · rw [up_oi hi, up_of (by decide), up_of (by decide)]
  · rw [up_of (by omega), up_of (by omega), up_of (by omega)]
end PMBA
