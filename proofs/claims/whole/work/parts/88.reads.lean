/-! the reads, from the two relations -/
section PRDS
variable {M s d : AwM} {n : Int} {R : Int → AwM} {mi : AwM}
theorem has_b (h : CR M s d n R mi) (g : MR M s d n R mi) (v : Int) : ∃ r, fX8_has SH M 1 v = some r ∧ fX9_has SH M 167 v = some r := has_e (relR_of h g).1
theorem fault_b (h : CR M s d n R mi) (g : MR M s d n R mi) (v : Int) : ∃ r, fX8_fault SH M 1 v = some r ∧ fX9_fault SH M 167 v = some r := fault_e (relR_of h g).1
theorem coin_b (h : CR M s d n R mi) (g : MR M s d n R mi) (i v : Int) : ∃ r, fX8_coin SH M 1 i v = some r ∧ fX9_coin SH M 167 i v = some r := coin_e (relR_of h g).1
theorem person_b (h : CR M s d n R mi) (g : MR M s d n R mi) (i v : Int) : ∃ r, fX8_person SH M 1 i v = some r ∧ fX9_person SH M 167 i v = some r := person_e (relR_of h g).1
theorem met_b (h : CR M s d n R mi) (g : MR M s d n R mi) (i p : Int) : ∃ r, fX8_met SH M 1 i p = some r ∧ fX9_met SH M 167 i p = some r := met_e (relR_of h g).1 (relR_of h g).2
theorem status_b (h : CR M s d n R mi) (g : MR M s d n R mi) (v : Int) : ∃ r, fX8_status SH M 1 v = some r ∧ fX9_status SH M 167 v = some r :=
  status_e h.lay (fun i a b => (h.mi.2.2.2.2.2.2.2.2.2 i a b).trans (g.mi.2.2.2.2.2.2.2.2.2 i a b).symm)
theorem letterIs_b (h : CR M s d n R mi) (g : MR M s d n R mi) (v : Int) : ∃ r, fX8_letterIs SH M 1 v = some r ∧ fX9_letterIs SH M 167 v = some r := by
  have e := g.mi.2.2.2.2.1
  have k := g.mk
  unfold MiOK at k
  refine letterIs_e h.lay (h.mi.2.2.2.2.1.trans e.symm) (by omega) (by omega) (fun i a b => ?_)
  rw [e] at b
  exact (h.mi.2.2.2.2.2.1 i a b).trans (g.mi.2.2.2.2.2.1 i a b).symm
theorem octet_b (h : CR M s d n R mi) (g : MR M s d n R mi) (v : Int) : ∃ r, fX8_octet SH M 1 v = some r ∧ fX9_octet SH M 167 v = some r := by
  have e := g.mi.2.2.2.2.2.2.1
  have k := g.mk
  unfold MiOK at k
  refine octet_e h.lay (h.mi.2.2.2.2.2.2.1.trans e.symm) (by omega) (by omega) (fun i a b => ?_)
  rw [e] at b
  exact (h.mi.2.2.2.2.2.2.2.1 i a b).trans (g.mi.2.2.2.2.2.2.2.1 i a b).symm
end PRDS
