/-! the lists grow at their end; who holds in them -/
section PPRF
theorem pf_rch (l : List (Int × Int × Int × Int)) (x : Int × Int × Int × Int) : l <+: rchQ l x := by
  unfold rchQ
  by_cases e : inQ l x.1 x.2.1 = true
  · rw [if_pos e]; exact ⟨[], List.append_nil _⟩
  · rw [if_neg e]; exact ⟨[x], rfl⟩
theorem pf_tr {a b c : List (Int × Int × Int × Int)} (h : a <+: b) (h' : b <+: c) : a <+: c := by
  obtain ⟨x, rfl⟩ := h
  obtain ⟨y, rfl⟩ := h'
  exact ⟨x ++ y, (List.append_assoc a x y).symm⟩
theorem pf_rf (a : List (Int × Int × Int × Int)) : a <+: a := ⟨[], List.append_nil _⟩
theorem pf_pay (l : List (Int × Int × Int × Int)) (w m : Int) : ∀ t : Nat, l <+: payQ l w m t
  | 0 => pf_rf l
  | t + 1 => by
    unfold payQ
    by_cases c : ¬ (t : Int) = w ∧ hb m (t : Int) = true
    · rw [if_pos c]; exact pf_tr (pf_pay l w m t) (pf_rch _ _)
    · rw [if_neg c]; exact pf_pay l w m t
theorem pf_pre (l : List (Int × Int × Int × Int)) (s d : AwM) (c w m : Int) : ∀ t : Nat, l <+: preQ l s d c w m t
  | 0 => pf_rf l
  | t + 1 => by
    unfold preQ
    by_cases z : (hb m (t : Int) || hb (d 3 c) (t : Int)) = false ∧ tst s d c w (t : Int) (pc m) (cnH s d c w) = true
    · rw [if_pos z]; exact pf_tr (pf_pre l s d c w m t) (pf_rch _ _)
    · rw [if_neg z]; exact pf_pre l s d c w m t
theorem pf_run (s d : AwM) (c : Int) (j : Nat) : rnQ s d c j <+: rnQ s d c (j + 1) := by
  cases e : (rnQ s d c j)[j]? with
  | none =>
    have : rnQ s d c (j + 1) = rnQ s d c j := by
      show (match (rnQ s d c j)[j]? with
        | none => rnQ s d c j
        | some x => goQ (rnQ s d c j) s d c x.1 x.2.1) = _
      rw [e]
    rw [this]
    exact pf_rf _
  | some x =>
    rw [rnQ_s e]
    exact pf_tr (pf_pay _ _ _ _) (pf_pre _ _ _ _ _ _ _)
theorem pf_le (s d : AwM) (c : Int) {i : Nat} : ∀ j : Nat, i ≤ j → rnQ s d c i <+: rnQ s d c j
  | 0, h => by rw [show i = 0 by omega]; exact pf_rf _
  | j + 1, h => by
    by_cases e : i = j + 1
    · rw [e]; exact pf_rf _
    · exact pf_tr (pf_le s d c j (by omega)) (pf_run s d c j)
theorem pf_at {a b : List (Int × Int × Int × Int)} (h : a <+: b) {k : Nat} {x : Int × Int × Int × Int} (hk : a[k]? = some x) : b[k]? = some x := by
  obtain ⟨y, rfl⟩ := h
  rw [List.getElem?_append_left (List.getElem?_eq_some_iff.mp hk).1]
  exact hk
/-- nobody holds it in the list who is p -/
def NH (l : List (Int × Int × Int × Int)) (p : Int) : Prop := ∀ x ∈ l, x.1 ≠ p
theorem nh_rch {l : List (Int × Int × Int × Int)} {p : Int} (h : NH l p) {x : Int × Int × Int × Int} (hx : x.1 ≠ p) : NH (rchQ l x) p := by
  unfold rchQ
  by_cases e : inQ l x.1 x.2.1 = true
  · rw [if_pos e]; exact h
  · rw [if_neg e]
    intro y hy
    rcases List.mem_append.mp hy with a | a
    · exact h y a
    · rw [List.mem_singleton.mp a]; exact hx
theorem nh_pay {l : List (Int × Int × Int × Int)} {w m p : Int} (h : NH l p) (hf : hb m p = false) : ∀ t : Nat, NH (payQ l w m t) p
  | 0 => h
  | t + 1 => by
    unfold payQ
    by_cases c : ¬ (t : Int) = w ∧ hb m (t : Int) = true
    · rw [if_pos c]
      refine nh_rch (nh_pay h hf t) (fun z => ?_)
      have z' : (t : Int) = p := z
      have := c.2
      rw [z', hf] at this
      exact absurd this (by decide)
    · rw [if_neg c]; exact nh_pay h hf t
theorem nh_pre {l : List (Int × Int × Int × Int)} {s d : AwM} {c w m p : Int} (h : NH l p) (hw : w ≠ p) : ∀ t : Nat, NH (preQ l s d c w m t) p
  | 0 => h
  | t + 1 => by
    unfold preQ
    by_cases z : (hb m (t : Int) || hb (d 3 c) (t : Int)) = false ∧ tst s d c w (t : Int) (pc m) (cnH s d c w) = true
    · rw [if_pos z]; exact nh_rch (nh_pre h hw t) hw
    · rw [if_neg z]; exact nh_pre h hw t
theorem nh_run {s d : AwM} {c p : Int} (h0 : d 1 c ≠ p) : ∀ j : Nat, PC s d c p j → NH (rnQ s d c j) p
  | 0, _ => nh_rch (fun x hx => absurd hx (List.not_mem_nil)) h0
  | j + 1, h => by
    have ih := nh_run h0 j (fun i hi => h i (by omega))
    obtain ⟨y, hy, hf⟩ := h j (by omega)
    rw [rnQ_s hy]
    exact nh_pre (nh_pay ih hf _) (ih y (List.mem_of_getElem? hy)) _
end PPRF
