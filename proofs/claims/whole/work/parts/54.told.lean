/-! letterIs, octet -/
section PTOLD
theorem is_n {sh : AwS} {M : AwM} {v n : Int} (n0 : 0 ≤ n) (n1 : n < 1000000) : fX9_is sh M v 0 (w32 (n - 1)) = some (bi (decide (0 ≤ v ∧ v < n))) := by
  unfold fX9_is
  rw [w32_s (by omega) (by omega)]
  by_cases a : v < 0
  · rw [if_pos a, decide_eq_false (by omega)]; rfl
  · rw [if_neg a]
    by_cases c : v < n
    · rw [if_neg (by omega), decide_eq_true (⟨by omega, c⟩ : 0 ≤ v ∧ v < n)]; rfl
    · rw [if_pos (by omega), decide_eq_false (by omega)]; rfl
theorem letterIs_e {M : AwM} {v : Int} (hl : LAY M) (hn : M 1 10 = M 167 67) (n0 : 0 ≤ M 167 67) (n1 : M 167 67 ≤ 20) (he : ∀ i : Int, 0 ≤ i → i < M 167 67 → M 135 i = M 206 i) : ∃ r, fX8_letterIs SH M 1 v = some r ∧ fX9_letterIs SH M 167 v = some r := by
  unfold fX8_letterIs fX9_letterIs
  rw [kd167, gd_t rfl, is_n n0 (by omega), pb_1, u1_1]
  by_cases a : v < 0
  · exact ⟨-1, by rw [if_pos a], by rw [decide_eq_false (by omega), if_pos (by decide)]⟩
  · rw [if_neg a, kd1, gd_t rfl, hn]
    by_cases c : v < M 167 67
    · refine ⟨M 206 v, ?_, ?_⟩
      · rw [if_pos c, if_pos (by omega), ly1_9 hl, kd135, gd_t ⟨rfl, by omega, by show v < ((20 : Nat) : Int); omega⟩, he v (by omega) c]
      · rw [decide_eq_true (⟨by omega, c⟩ : 0 ≤ v ∧ v < M 167 67), if_neg (by decide), ly167_68 hl, kd206, gd_t ⟨rfl, by omega, by show v < ((20 : Nat) : Int); omega⟩]
    · exact ⟨-1, by rw [if_neg c], by rw [decide_eq_false (by omega), if_pos (by decide)]⟩
theorem octet_e {M : AwM} {v : Int} (hl : LAY M) (hn : M 1 12 = M 167 70) (n0 : 0 ≤ M 167 70) (n1 : M 167 70 ≤ 135) (he : ∀ i : Int, 0 ≤ i → i < M 167 70 → an_ (M 136 i) 255 = M 207 i) : ∃ r, fX8_octet SH M 1 v = some r ∧ fX9_octet SH M 167 v = some r := by
  unfold fX8_octet fX9_octet
  rw [kd167, gd_t rfl, is_n n0 (by omega), pb_1, u1_1]
  by_cases a : v < 0
  · exact ⟨-1, by rw [if_pos a], by rw [decide_eq_false (by omega), if_pos (by decide)]⟩
  · rw [if_neg a, kd1, gd_t rfl, hn]
    by_cases c : v < M 167 70
    · refine ⟨M 207 v, ?_, ?_⟩
      · rw [if_pos c, if_pos (by omega), ly1_11 hl, kd136, gd_t ⟨rfl, by omega, by show v < ((135 : Nat) : Int); omega⟩, he v (by omega) c]
      · rw [decide_eq_true (⟨by omega, c⟩ : 0 ≤ v ∧ v < M 167 70), if_neg (by decide), ly167_69 hl, kd207, gd_t ⟨rfl, by omega, by show v < ((150 : Nat) : Int); omega⟩]
    · exact ⟨-1, by rw [if_neg c], by rw [decide_eq_false (by omega), if_pos (by decide)]⟩
end PTOLD
