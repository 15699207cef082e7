/-! the change, both sides; many coins paid -/
section PCHG
def cgS (s : AwM) (h : Nat) (m : Int) : Nat → Int
  | 0 => -1
  | g + 1 => if g &&& h = g ∧ wts s (g : Int) = m ∧ (cgS s h m g = -1 ∨ pc (g : Int) < pc (cgS s h m g)) then (g : Int) else cgS s h m g
theorem cgS_s {s : AwM} {h g : Nat} {m : Int} : cgS s h m (g + 1) = if g &&& h = g ∧ wts s (g : Int) = m ∧ (cgS s h m g = -1 ∨ pc (g : Int) < pc (cgS s h m g)) then (g : Int) else cgS s h m g := rfl
theorem cgS_skip {s : AwM} {h a : Nat} {m : Int} : ∀ k : Nat, (∀ x, a ≤ x → x < a + k → ¬ x &&& h = x) → cgS s h m (a + k) = cgS s h m a
  | 0, _ => rfl
  | k + 1, hx => by
    rw [show a + (k + 1) = (a + k) + 1 by omega, cgS_s, if_neg (fun z => hx (a + k) (by omega) (by omega) z.1)]
    exact cgS_skip k (fun x x0 x1 => hx x x0 (by omega))
theorem cgS_in {s : AwM} {h : Nat} {m : Int} : ∀ n : Nat, cgS s h m n = -1 ∨ ∃ g : Nat, cgS s h m n = (g : Int) ∧ g &&& h = g
  | 0 => Or.inl rfl
  | n + 1 => by
    rw [cgS_s]
    by_cases z : n &&& h = n ∧ wts s (n : Int) = m ∧ (cgS s h m n = -1 ∨ pc (n : Int) < pc (cgS s h m n))
    · rw [if_pos z]; exact Or.inr ⟨n, rfl, z.1⟩
    · rw [if_neg z]; exact cgS_in n
def fwS (x : Int) : Int := if x = -1 then 13 else pc x
theorem chgC_n {M : AwM} {cr so : Int} {s d : AwM} (h : CC M cr so s d) {k : Nat} {m : Int} (hk : k < 2 ^ (s 0 1).toNat) : fX5_fewestWorth SH M so (k : Int) m = some (cgS s k m (2 ^ (s 0 1).toNat)) := by
  have hc := h.ok.c
  have h12 : 2 ^ (s 0 1).toNat ≤ 2 ^ 12 := Nat.pow_le_pow_right (by decide) (by omega)
  have key := lp_rel (body := u4 (fX5_fewestWorth_L12 SH M so (k : Int) m)) (P := fun j (t : Int × Int × Int × Int) => ∃ p : Nat, p &&& k = p ∧ j ≤ p ∧ t.2.2.1 = (p : Int) ∧ t.1 = cgS s k m p ∧ t.2.1 = fwS (cgS s k m p) ∧ t.2.2.2 = (j : Int)) (X := fun r => r = .inr (cgS s k m (2 ^ (s 0 1).toNat))) (n := 4096) ?_ FU (-1, 13, 0, 0) (FU_gt (by omega)) ⟨0, by simp, Nat.le_refl _, rfl, rfl, rfl, rfl⟩
  · obtain ⟨r, e, rfl⟩ := key
    unfold fX5_fewestWorth
    rw [e, pb_1]
    rfl
  · rintro j ⟨a, b, p', i⟩ hj ⟨p, hs, hjp, hp, ha, hb', hi⟩
    change p' = (p : Int) at hp
    change a = _ at ha
    change b = _ at hb'
    change i = (j : Int) at hi
    subst hp
    subst ha
    subst hb'
    subst hi
    have ple := sub_le hs
    have mp : ms 12 (p : Int) := ms_n.mpr ⟨p, rfl, by omega⟩
    have pb' := pc_b (p : Int)
    have st : cgS s k m (p + 1) = if p &&& k = p ∧ wts s (p : Int) = m ∧ (cgS s k m p = -1 ∨ pc (p : Int) < pc (cgS s k m p)) then (p : Int) else cgS s k m p := cgS_s
    have fin : ∀ x y : Int, x = cgS s k m (p + 1) → y = fwS (cgS s k m (p + 1)) → (j < 4096 ∧ ∃ s', fX5_fewestWorth_J51_12 SH M so (k : Int) m x y (p : Int) (j : Int) = some (.inl s') ∧ ∃ q : Nat, q &&& k = q ∧ j + 1 ≤ q ∧ s'.2.2.1 = (q : Int) ∧ s'.1 = cgS s k m q ∧ s'.2.1 = fwS (cgS s k m q) ∧ s'.2.2.2 = ((j + 1 : Nat) : Int)) ∨ ∃ r, fX5_fewestWorth_J51_12 SH M so (k : Int) m x y (p : Int) (j : Int) = some (.inr r) ∧ r = .inr (cgS s k m (2 ^ (s 0 1).toNat)) := fun x y hx hy => by
      subst hx
      subst hy
      unfold fX5_fewestWorth_J51_12
      rw [nxtI (by omega) hs, w32_s (v := (j : Int) + 1) (by omega) (by omega)]
      rcases nxt_ok 32 (show k < 2 ^ 32 by omega) hs with ⟨x, y⟩ | ⟨x, y, z⟩
      · refine Or.inr ⟨.inr (cgS s k m (p + 1)), by rw [y, if_pos (show ((0 : Nat) : Int) = 0 from rfl)], ?_⟩
        have := cgS_skip (s := s) (h := k) (m := m) (a := p + 1) (2 ^ (s 0 1).toNat - (p + 1)) (fun w w0 w1 hw => by have := sub_le hw; omega)
        rw [show p + 1 + (2 ^ (s 0 1).toNat - (p + 1)) = 2 ^ (s 0 1).toNat by omega] at this
        rw [this]
      · generalize hq : nxt 32 k p = q at *
        have sk := cgS_skip (s := s) (h := k) (m := m) (a := p + 1) (q - (p + 1)) (fun w w0 w1 hw => by have := z w hw (by omega); omega)
        rw [show p + 1 + (q - (p + 1)) = q by omega] at sk
        refine Or.inl ⟨by omega, (cgS s k m (p + 1), fwS (cgS s k m (p + 1)), (q : Int), (j : Int) + 1), by rw [if_neg (by omega)], q, y, by omega, rfl, sk.symm, ?_, by simp⟩
        show fwS (cgS s k m (p + 1)) = fwS (cgS s k m q)
        rw [sk]
    rw [u4_1]
    unfold fX5_fewestWorth_L12
    rw [if_pos (by omega), bc_n mp, pb_1, u1_1, kso0 h.hso, gd_t rfl, wts_n h mp, pb_1, u1_1]
    have cases1 : pc (p : Int) < fwS (cgS s k m p) ↔ (cgS s k m p = -1 ∨ pc (p : Int) < pc (cgS s k m p)) := by
      unfold fwS
      by_cases z : cgS s k m p = -1
      · rw [if_pos z]; constructor
        · intro _; exact Or.inl z
        · intro _; omega
      · rw [if_neg z]; constructor
        · intro w; exact Or.inr w
        · rintro (w | w)
          · exact absurd w z
          · exact w
    by_cases z : pc (p : Int) < fwS (cgS s k m p)
    · rw [if_pos z]
      by_cases w : wts s (p : Int) = m
      · rw [if_pos w]
        have st1 : cgS s k m (p + 1) = (p : Int) := by rw [st, if_pos ⟨hs, w, cases1.mp z⟩]
        refine fin _ _ st1.symm ?_
        rw [st1]
        unfold fwS
        rw [if_neg (by omega)]
      · rw [if_neg w]
        have st1 : cgS s k m (p + 1) = cgS s k m p := by rw [st, if_neg (fun q => w q.2.1)]
        exact fin _ _ st1.symm (by rw [st1])
    · rw [if_neg z]
      have st1 : cgS s k m (p + 1) = cgS s k m p := by rw [st, if_neg (fun q => z (cases1.mpr q.2.2))]
      exact fin _ _ st1.symm (by rw [st1])
theorem chgM_n {M : AwM} {b L : Int} {s d : AwM} (h : MM M b L s d) {k : Nat} {m : Int} (hk : k < 2 ^ (s 0 1).toNat) : fX9_changeOf SH M 167 (k : Int) m = some (cgS s k m (2 ^ (s 0 1).toNat)) := by
  have hc := h.ok.c
  have hbb := h.b01
  have h12 : 2 ^ (s 0 1).toNat ≤ 2 ^ 12 := Nat.pow_le_pow_right (by decide) (by omega)
  have key := lp_cnt (body := u2 (fX9_changeOf_L5 SH M 167 (k : Int) m)) (fun i => (cgS s k m i, (i : Int))) (cgS s k m (2 ^ (s 0 1).toNat)) (2 ^ (s 0 1).toNat) ?_ ?_ FU (FU_gt (by omega))
  · unfold fX9_changeOf
    rw [show ((-1 : Int), (0 : Int)) = (cgS s k m 0, ((0 : Nat) : Int)) from rfl, key, pb_1, u1_1]
  · intro i hi
    have mi : ms 12 (i : Int) := ms_n.mpr ⟨i, rfl, by omega⟩
    have st : cgS s k m (i + 1) = if i &&& k = i ∧ wts s (i : Int) = m ∧ (cgS s k m i = -1 ∨ pc (i : Int) < pc (cgS s k m i)) then (i : Int) else cgS s k m i := cgS_s
    rw [u2_1]
    unfold fX9_changeOf_L5 fX9_changeOf_J63_5
    rw [kd167, gd_t rfl, ly167_16 h.lay, kd171, h.bk, ga_t (by omega) (by omega), h.n1, slc_n h, if_pos (by omega), w32_s (v := (i : Int) + 1) (by omega) (by omega)]
    have fin : ∀ x : Int, x = cgS s k m (i + 1) → (some (.inl (x, (i : Int) + 1)) : Option ((Int × Int) ⊕ Int)) = some (.inl (cgS s k m (i + 1), ((i + 1 : Nat) : Int))) := fun x hx => by rw [hx]; simp
    by_cases z : i &&& k = i
    · rw [if_pos ((sbs_n (by omega) (by omega)).mpr z), mwts_n h mi, pb_1, u1_1]
      by_cases w : wts s (i : Int) = m
      · rw [if_pos w]
        by_cases y : cgS s k m i = -1
        · rw [if_pos y]
          exact fin _ (by rw [st, if_pos ⟨z, w, Or.inl y⟩])
        · have mb : ms 12 (cgS s k m i) := by
            rcases cgS_in (s := s) (h := k) (m := m) i with q | ⟨g, q, hg⟩
            · exact absurd q y
            · rw [q]
              have := sub_le hg
              exact ms_n.mpr ⟨g, rfl, by omega⟩
          rw [if_neg y, bits_n mi, pb_1, u1_1, bits_n mb, pb_1, u1_1]
          by_cases x : pc (i : Int) < pc (cgS s k m i)
          · rw [if_pos x]; exact fin _ (by rw [st, if_pos ⟨z, w, Or.inr x⟩])
          · rw [if_neg x]; exact fin _ (by rw [st, if_neg (fun q => by rcases q.2.2 with q | q; exact y q; exact x q)])
      · rw [if_neg w]; exact fin _ (by rw [st, if_neg (fun q => w q.2.1)])
    · rw [if_neg (fun q => z ((sbs_n (by omega) (by omega)).mp q))]; exact fin _ (by rw [st, if_neg (fun q => z q.1)])
  · rw [u2_1]
    unfold fX9_changeOf_L5
    rw [kd167, gd_t rfl, ly167_16 h.lay, kd171, h.bk, ga_t (by omega) (by omega), h.n1, slc_n h, if_neg (by omega)]
/-- the coins of g paid to p, one by one -/
def pyS (d : AwM) (g p : Int) : Nat → AwM
  | 0 => d
  | c + 1 => if hb g (c : Int) = true then pya (pyS d g p c) (c : Int) p else pyS d g p c
theorem pyS_n {d : AwM} {g p a i : Int} (h1 : a ≠ 1) (h4 : a ≠ 4) : ∀ n : Nat, pyS d g p n a i = d a i
  | 0 => rfl
  | n + 1 => by
    unfold pyS
    split
    · rw [pya_n _ _ h1 h4]; exact pyS_n h1 h4 n
    · exact pyS_n h1 h4 n
theorem pyS_1 {d : AwM} {g p c : Int} : ∀ n : Nat, 0 ≤ c → pyS d g p n 1 c = if c < n ∧ hb g c = true then p else d 1 c
  | 0, h => by rw [if_neg (by omega)]; rfl
  | n + 1, h => by
    unfold pyS
    by_cases z : hb g (n : Int) = true
    · rw [if_pos z, pya_1]
      by_cases w : c = n
      · rw [if_pos w, if_pos ⟨by omega, by rw [w]; exact z⟩]
      · rw [if_neg w, pyS_1 n h]
        by_cases y : c < n ∧ hb g c = true
        · rw [if_pos y, if_pos ⟨by omega, y.2⟩]
        · rw [if_neg y, if_neg (fun q => y ⟨by omega, q.2⟩)]
    · rw [if_neg z, pyS_1 n h]
      by_cases y : c < n ∧ hb g c = true
      · rw [if_pos y, if_pos ⟨by omega, y.2⟩]
      · rw [if_neg y, if_neg (fun q => by
          by_cases w : c = n
          · rw [w] at q; exact z q.2
          · exact y ⟨by omega, q.2⟩)]
theorem pyS_4 {d : AwM} {g p c q : Int} (p0 : 0 ≤ p) (p1 : p < 10) (q0 : 0 ≤ q) (q1 : q < 10) : ∀ n : Nat, (∀ e : Int, 0 ≤ e → e < n → 0 ≤ d 1 e ∧ d 1 e < 10) → 0 ≤ c → pyS d g p n 4 (10 * c + q) = if c < n ∧ hb g c = true ∧ (q = p ∨ q = d 1 c) then d 0 0 else d 4 (10 * c + q)
  | 0, _, h => by rw [if_neg (by omega)]; rfl
  | n + 1, hd, h => by
    have ih := pyS_4 (d := d) (g := g) (c := c) p0 p1 q0 q1 n (fun e e0 e1 => hd e e0 (by omega)) h
    have hn : pyS d g p n 1 (n : Int) = d 1 n := by rw [pyS_1 n (by omega), if_neg (by omega)]
    have hh := hd (n : Int) (by omega) (by omega)
    unfold pyS
    by_cases z : hb g (n : Int) = true
    · rw [if_pos z, pya_4 q0 q1 p0 p1 (by rw [hn]; exact hh.1) (by rw [hn]; exact hh.2), hn, pyS_n (by decide) (by decide), ih]
      by_cases w : c = n
      · by_cases y : q = p ∨ q = d 1 n
        · rw [if_pos ⟨w, y⟩, if_pos ⟨by omega, by rw [w]; exact z, by rw [w]; exact y⟩]
        · rw [if_neg (fun t => y t.2), if_neg (by omega), if_neg (fun t => y (by rw [← w]; exact t.2.2))]
      · rw [if_neg (fun t => w t.1)]
        by_cases y : c < n ∧ hb g c = true ∧ (q = p ∨ q = d 1 c)
        · rw [if_pos y, if_pos ⟨by omega, y.2⟩]
        · rw [if_neg y, if_neg (fun t => y ⟨by omega, t.2⟩)]
    · rw [if_neg z, ih]
      by_cases y : c < n ∧ hb g c = true ∧ (q = p ∨ q = d 1 c)
      · rw [if_pos y, if_pos ⟨by omega, y.2⟩]
      · rw [if_neg y, if_neg (fun t => by
          by_cases w : c = n
          · rw [w] at t; exact z t.2.1
          · exact y ⟨by omega, t.2⟩)]
theorem payAll_n {M : AwM} {cr so g p : Int} {s d : AwM} (h : CC M cr so s d) (hg : ms 12 g) (p0 : 0 ≤ p) (p1 : p < s 0 0) (hk : ∀ c : Int, 0 ≤ c → c < s 0 1 → hb g c = true → hb (d 2 c) p = true) : ∃ M', fX0_payAll SH M cr g p = some M' ∧ CC M' cr so s (pyS d g p (s 0 1).toNat) ∧ cfr cr so M' M := by
  have hc := h.ok.c
  have key := lp_rel (body := u2 (fX0_payAll_L2 SH cr g p)) (P := fun j (t : Int × AwM) => t.1 = (j : Int) ∧ CC t.2 cr so s (pyS d g p j) ∧ cfr cr so t.2 M) (X := fun r : AwM => CC r cr so s (pyS d g p (s 0 1).toNat) ∧ cfr cr so r M) (n := (s 0 1).toNat) ?_ FU (0, M) (FU_gt (by omega)) ⟨rfl, h, cfr_rf⟩
  · obtain ⟨M', e, h', f'⟩ := key
    refine ⟨M', ?_, h', f'⟩
    unfold fX0_payAll
    rw [e, pb_1, u1_1]
  · rintro j ⟨i, M3⟩ hj ⟨hi, h3, f3⟩
    change i = (j : Int) at hi
    change CC M3 cr so s _ at h3
    subst hi
    rw [u2_1]
    unfold fX0_payAll_L2
    rw [kcr0 h.hcr, gd_t rfl, coins_n h3.cw, h3.n1, pb_1, u1_1]
    by_cases hjn : j < (s 0 1).toNat
    · rw [if_pos (by omega), isIn_n hg (by omega), pb_1, u1_1, hz_p (by omega), bi_if, w32_s (v := (j : Int) + 1) (by omega) (by omega)]
      by_cases z : hb g (j : Int) = true
      · obtain ⟨M4, e4, h4, f4⟩ := payTo_n h3 (c := (j : Int)) (by omega) (by omega) p0 p1 (by rw [pyS_n (by decide) (by decide)]; exact hk _ (by omega) (by omega) z)
        have st : pyS d g p (j + 1) = pya (pyS d g p j) (j : Int) p := if_pos z
        rw [if_pos z, e4, pb_1, u1_1]
        exact Or.inl ⟨hjn, _, rfl, by simp, by rw [st]; exact h4, cfr_tr f3 f4⟩
      · have st : pyS d g p (j + 1) = pyS d g p j := if_neg z
        rw [if_neg z]
        exact Or.inl ⟨hjn, _, rfl, by simp, by rw [st]; exact h3, f3⟩
    · have ej : (s 0 1).toNat = j := by omega
      exact Or.inr ⟨M3, by rw [if_neg (by omega)], by rw [ej]; exact h3, f3⟩
end PCHG
