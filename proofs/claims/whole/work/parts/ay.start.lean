/-! the start: what both say behind the constructors -/
section PSTA
def REL (M : AwM) : Prop := ∃ s d n R mi, CR M s d n R mi ∧ MR M s d n R mi
def mi0 : AwM := fun a i => if a = 15 ∧ i = 1 then -1 else if a = 18 ∧ i = 0 then 1 else 0
def ini8 : Option (AwS × AwM) := fX8_init [(9, 0), (0, 8)] (fun _ _ => 0) 1
def chk8 (o : Option (AwS × AwM)) : Bool := match o with
  | none => false
  | some q => decide (q.1.length = 167)
set_option maxRecDepth 100000 in
theorem ini8_ok : chk8 ini8 = true := by decide +kernel
def staT : List (Int × Int × Int) := [(1, 3, 137), (3, 1, 10), (153, 1, 137), (160, 1, 137), (1, 1, 0), (1, 10, 0), (1, 12, 0), (1, 13, 1), (3, 4, 0), (3, 5, -1), (26, 1, 0), (26, 2, 0), (137, 11, 0), (137, 12, 0), (147, 1, 0), (150, 1, 0), (154, 0, 0), (167, 1, 0), (167, 10, 0), (167, 11, -1), (167, 13, 0), (167, 53, 0), (167, 54, 0), (167, 55, 1), (167, 67, 0), (167, 70, 0), (138, 0, 0), (138, 1, 0), (138, 2, 0), (134, 0, 0), (134, 1, 0), (134, 2, 0), (134, 3, 0), (134, 4, 0), (134, 5, 0), (169, 0, 0), (171, 0, 0), (176, 0, 0), (179, 0, 0), (180, 0, 0), (196, 0, 0), (196, 1, 0), (196, 2, 0), (196, 3, 0), (196, 4, 0), (196, 5, 0), (197, 0, 0), (181, 0, -1), (183, 0, -1)]
set_option maxRecDepth 100000 in
theorem sta_in : staT.all (fun q => numT.contains q) = true := by decide +kernel
theorem mi0_z {a i : Int} (h : a ≠ 15) (h' : a ≠ 18) : mi0 a i = 0 := by
  unfold mi0
  rw [if_neg (fun z => h z.1), if_neg (fun z => h' z.1)]
theorem MiOK_0 : MiOK mi0 := by
  refine ⟨by rw [mi0_z (by decide) (by decide)]; decide, fun i x y => ?_, by rw [mi0_z (by decide) (by decide)]; decide, by rw [mi0_z (by decide) (by decide)]; decide, by decide⟩
  rw [mi0_z (by decide) (by decide)] at y
  omega
theorem sta_n {M : AwM} (l : LAY M) (h : holdsT numT M) : REL M := by
  have h0 : holdsT staT M := fun q hq => h q (by
    have := List.all_eq_true.mp sta_in q hq
    simpa using this)
  have ow : holdsT ownT M := fun q hq => h q (List.mem_filter.mp hq).1
  unfold holdsT staT at h0
  simp only [List.forall_mem_cons] at h0
  obtain ⟨a1, a2, a3, a4, a5, a6, a7, a8, a9, a10, a11, a12, a13, a14, a15, a16, a17, a18, a19, a20, a21, a22, a23, a24, a25, a26, a27, a28, a29, a30, a31, a32, a33, a34, a35, a36, a37, a38, a39, a40, a41, a42, a43, a44, a45, a46, a47, a48, a49, -⟩ := h0
  refine ⟨D0, beg D0, 0, fun _ => D0, mi0, ⟨?_, by rw [a4, a1], by rw [a2, a1]; rfl, ow, ⟨by rw [a11]; decide, a12, by decide, fun j x y => absurd y (by omega)⟩, MiOK_0, ?_⟩, ⟨?_, ⟨by rw [a22]; decide, a23, by decide, fun j x y => absurd y (by omega)⟩, MiOK_0, ?_⟩⟩
  · rw [a1]
    refine ⟨l, Or.inl rfl, Or.inr rfl, a3, D0_ok.1, LdOK_b D0_ok, ⟨⟨a27, a28, a29, a13, a14⟩, fun p x y => ?_, fun p x y => ?_, fun p x y => ?_, fun p x y => ?_, fun k w x y z u => ?_, ⟨a15, fun p x y => ?_⟩, ⟨a16, fun p x y => ?_⟩⟩, ⟨a17, fun c x y => ?_, fun c x y => ?_, fun c x y => ?_, fun c p x y => ?_⟩⟩
    · exact absurd (show p < 0 from y) (by omega)
    · exact absurd (show p < 0 from y) (by omega)
    · exact absurd (show p < 0 from y) (by omega)
    · exact absurd (show p < 0 from y) (by omega)
    · exact absurd (show w < 0 from u) (by omega)
    · exact absurd (show p < 0 from y) (by omega)
    · exact absurd (show p < 0 from y) (by omega)
    · exact absurd (show c < 0 from y) (by omega)
    · exact absurd (show c < 0 from y) (by omega)
    · exact absurd (show c < 0 from y) (by omega)
    · exact absurd (show c < 0 from y) (by omega)
  · refine ⟨a5, fun i x y => absurd (show i < 0 from y) (by omega), a9, a10, a6, fun i x y => absurd (show i < 0 from y) (by omega), a7, fun i x y => absurd (show i < 0 from y) (by omega), a8, fun i x y => ?_⟩
    rw [mi0_z (by decide) (by decide)]
    rcases (show i = 0 ∨ i = 1 ∨ i = 2 ∨ i = 3 ∨ i = 4 ∨ i = 5 by omega) with rfl | rfl | rfl | rfl | rfl | rfl
    · exact a30
    · exact a31
    · exact a32
    · exact a33
    · exact a34
    · exact a35
  · rw [a21]
    refine ⟨l, a21, by decide, by decide, D0_ok.1, LdOK_b D0_ok, ⟨⟨a36, a37, a38, a39, a40⟩, fun p x y => ?_, fun p x y => ?_, fun p x y => ?_, fun p x y => ?_, ⟨fun _ => a48, fun q => ?_⟩, ⟨fun _ => a49, fun q => ?_⟩, fun k w x y z u => ?_⟩, ⟨a47, fun c x y => ?_, fun c x y => ?_, fun c x y => ?_, fun c p x y => ?_⟩⟩
    · exact absurd (show p < 0 from y) (by omega)
    · exact absurd (show p < 0 from y) (by omega)
    · exact absurd (show p < 0 from y) (by omega)
    · exact absurd (show p < 0 from y) (by omega)
    · exact absurd (show (0 : Int) < 0 from q) (by decide)
    · exact absurd (show (0 : Int) < 0 from q) (by decide)
    · exact absurd (show w < 0 from u) (by omega)
    · exact absurd (show c < 0 from y) (by omega)
    · exact absurd (show c < 0 from y) (by omega)
    · exact absurd (show c < 0 from y) (by omega)
    · exact absurd (show c < 0 from y) (by omega)
  · refine ⟨a18, fun i x y => absurd (show i < 0 from y) (by omega), a19, a20, a25, fun i x y => absurd (show i < 0 from y) (by omega), a26, fun i x y => absurd (show i < 0 from y) (by omega), a24, fun i x y => ?_⟩
    rw [mi0_z (by decide) (by decide)]
    rcases (show i = 0 ∨ i = 1 ∨ i = 2 ∨ i = 3 ∨ i = 4 ∨ i = 5 by omega) with rfl | rfl | rfl | rfl | rfl | rfl
    · exact a41
    · exact a42
    · exact a43
    · exact a44
    · exact a45
    · exact a46
theorem start_n : ∃ sh7 M8 M, fX8_init [(9, 0), (0, 8)] (fun _ _ => 0) 1 = some (sh7, M8) ∧ ((sh7.length : Nat) : Int) = 167 ∧ fX9_init (sh7 ++ [(0, 9)]) M8 167 = some (SH, M) ∧ REL M := by
  obtain ⟨M, e, l, hn⟩ := ini_at
  have k8 := ini8_ok
  unfold iniF at e
  unfold ini8 at k8
  obtain ⟨⟨sh7, M8⟩, q1, q2⟩ := pb_s e
  replace q2 := u2_s q2
  rw [q1] at k8
  have k9 : sh7.length = 167 := of_decide_eq_true k8
  have k7 : ((sh7.length : Nat) : Int) = 167 := by rw [k9]; rfl
  rw [k7] at q2
  exact ⟨sh7, M8, M, q1, k7, q2, sta_n l hn⟩
end PSTA
