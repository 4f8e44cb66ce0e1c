/-! PART 31: range checks; the rows -/
theorem inb_0 {x : Int32} {n : Nat} (hn : n ≤ 2 ^ 31) (h : inb x n) : ¬ x < 0 := by
  obtain ⟨j, h1, rfl⟩ := h
  exact nI_pos (by omega)
theorem inb_lt {x : Int32} {n : Nat} (hn : n < 2 ^ 31) (h : inb x n) : x < nI n := by
  obtain ⟨j, h1, rfl⟩ := h
  exact nI_lt h1 hn
theorem inb_n {x : Int32} {n : Nat} (hn : n < 2 ^ 31) (h : ¬ inb x n) : x < 0 ∨ ¬ x < nI n := by
  by_cases h1 : x < 0
  · exact Or.inl h1
  · refine Or.inr (fun h2 => h ((inb_iff (by omega)).mpr ?_))
    rw [Int32.lt_iff_toInt_lt] at h1 h2
    rw [nI_toInt hn] at h2
    have h3 : (0 : Int32).toInt = 0 := rfl
    omega
theorem i32_lt_of_le {x : Int32} {n : Nat} (hn : n + 1 < 2 ^ 31) : nI n < x ↔ ¬ x < nI (n + 1) := by
  rw [Int32.lt_iff_toInt_lt, Int32.lt_iff_toInt_lt, nI_toInt (by omega), nI_toInt hn]
  omega
theorem px_within_y {x : Int32} {n : Nat} {m : pj_M} (hn : n + 1 < 2 ^ 31) (h : inb x (n + 1)) : F_X10_within x 0 (nI n) m = some (1, m) := by
  unfold F_X10_within
  rw [if_neg (inb_0 (by omega) h), if_neg (fun h2 => (i32_lt_of_le hn).mp h2 (inb_lt hn h))]
theorem px_within_n {x : Int32} {n : Nat} {m : pj_M} (hn : n + 1 < 2 ^ 31) (h : ¬ inb x (n + 1)) : F_X10_within x 0 (nI n) m = some (0, m) := by
  unfold F_X10_within
  rcases inb_n hn h with h1 | h1
  · rw [if_pos h1]
  · by_cases h2 : x < 0
    · rw [if_pos h2]
    · rw [if_neg h2, if_pos ((i32_lt_of_le hn).mpr h1)]
theorem pm_in_y {x : Int32} {n : Nat} {m : pj_M} (hn : n + 1 < 2 ^ 31) (h : inb x (n + 1)) : F_X11_in x 0 (nI n) m = some (1, m) := by
  unfold F_X11_in
  rw [if_neg (inb_0 (by omega) h), if_neg (fun h2 => (i32_lt_of_le hn).mp h2 (inb_lt hn h))]
theorem pm_in_n {x : Int32} {n : Nat} {m : pj_M} (hn : n + 1 < 2 ^ 31) (h : ¬ inb x (n + 1)) : F_X11_in x 0 (nI n) m = some (0, m) := by
  unfold F_X11_in
  rcases inb_n hn h with h1 | h1
  · rw [if_pos h1]
  · by_cases h2 : x < 0
    · rw [if_pos h2]
    · rw [if_neg h2, if_pos ((i32_lt_of_le hn).mpr h1)]
theorem px_exists_y {x : Int32} {m : pj_M} (h : inb x 8) : F_X6_exists x m = some (1, m) := by
  unfold F_X6_exists
  rw [if_neg (inb_0 (by decide) h), if_pos (show x < 8 from inb_lt (n := 8) (by decide) h)]
theorem px_exists_n {x : Int32} {m : pj_M} (h : ¬ inb x 8) : F_X6_exists x m = some (0, m) := by
  unfold F_X6_exists
  by_cases h2 : x < 0
  · rw [if_pos h2]
  · rcases inb_n (n := 8) (by decide) h with h1 | h1
    · exact absurd h1 h2
    · rw [if_neg h2, if_neg (show ¬ x < 8 from h1)]
theorem pm_isRow_y {x : Int32} {m : pj_M} (h : inb x 8) : F_X11_isRow x m = some (1, m) := by
  unfold F_X11_isRow
  rw [show (7 : Int32) = nI 7 from rfl, pm_in_y (by decide) h]
  rfl
theorem pm_isRow_n {x : Int32} {m : pj_M} (h : ¬ inb x 8) : F_X11_isRow x m = some (0, m) := by
  unfold F_X11_isRow
  rw [show (7 : Int32) = nI 7 from rfl, pm_in_n (by decide) h]
  rfl
/-- only these cells, and these places of others, have changed -/
def fk (l : List Nat) (p : List (Nat × Nat)) (m m' : pj_M) : Prop := (∀ a k, a ∉ l → (a, k) ∉ p → m'.1 a k = m.1 a k) ∧ ∀ a, a ∉ l → m'.2 a = m.2 a
theorem fk.rf (l : List Nat) (p : List (Nat × Nat)) (m : pj_M) : fk l p m m := ⟨fun _ _ _ _ => rfl, fun _ _ => rfl⟩
theorem fk.tr {l : List Nat} {p : List (Nat × Nat)} {m m1 m2 : pj_M} (h1 : fk l p m m1) (h2 : fk l p m1 m2) : fk l p m m2 := ⟨fun a k ha hk => (h2.1 a k ha hk).trans (h1.1 a k ha hk), fun a ha => (h2.2 a ha).trans (h1.2 a ha)⟩
theorem fk.mono {l l' : List Nat} {p p' : List (Nat × Nat)} {m m' : pj_M} (h : fk l p m m') (hl : ∀ a ∈ l, a ∈ l') (hp : ∀ q ∈ p, q ∈ p' ∨ q.1 ∈ l') : fk l' p' m m' := ⟨fun a k ha hk => h.1 a k (fun h2 => ha (hl a h2)) (fun h2 => (hp (a, k) h2).elim hk ha), fun a ha => h.2 a (fun h2 => ha (hl a h2))⟩
theorem fk.wr {l : List Nat} {p : List (Nat × Nat)} (m : pj_M) {a : Nat} (ha : a ∈ l) (k : Nat) (v : Int32) : fk l p m (pj_wr m a k v) := ⟨fun b j hb _ => by
  have h1 : b ≠ a := fun e => hb (e ▸ ha)
  simp [hr_wr, h1], fun _ _ => rfl⟩
theorem fk.wp {l : List Nat} {p : List (Nat × Nat)} (m : pj_M) {a k : Nat} (ha : (a, k) ∈ p) (v : Int32) : fk l p m (pj_wr m a k v) := ⟨fun b j _ hj => by
  rw [hr_wr, if_neg (fun h => hj (by rw [h.1, h.2]; exact ha))], fun _ _ => rfl⟩
theorem fk.cell {l : List Nat} {p : List (Nat × Nat)} {m m' : pj_M} (h : fk l p m m') (a : Nat) (ha : a ∉ l) (hp : ∀ q ∈ p, q.1 ≠ a) : m'.1 a = m.1 a := funext fun k => h.1 a k ha (fun h2 => hp _ h2 rfl)
/-- the rows of both sides -/
def I_rows (m : pj_M) : Prop := ∀ r, r < 8 → (m.1 2 r = -1 ∧ m.1 73 r = -1000000) ∨ ∃ l L, l < 3 ∧ L ≤ 40 ∧ m.1 2 r = nI l ∧ m.1 73 r = nI l ∧ m.1 3 r = nI L ∧ m.1 74 r = nI L ∧ ∀ i, i < L → m.1 4 (40 * r + i) = m.1 75 (40 * r + i)
def I_stat (m : pj_M) : Prop := m.1 0 13 = m.1 72 4
theorem hx_make {r L : Nat} (hr : r < 8) (hL : L ≤ 40) : ∀ (z i : Nat) (m : pj_M), i ≤ L → L - i < z → ∃ m', H_X6_make_17 z (nI r) (nI L) (nI i) m = some m' ∧ fk [4] [] m m' ∧ ∀ k, m'.1 4 k = if 40 * r + i ≤ k ∧ k < 40 * r + L then 0 else m.1 4 k := by
  intro z
  induction z with
  | zero => intro i m hi hz; omega
  | succ z ih =>
    intro i m hi hz
    rw [H_X6_make_17]
    by_cases h : i < L
    · have e1 : nI r * 40 + nI i = nI (40 * r + i) := by
        rw [show (40 : Int32) = nI 40 from rfl, hn_mul, hn_add, Nat.mul_comm]
      rw [if_pos (nI_lt h (by omega)), e1, if_neg (hn_in (by omega) (by decide)), hn_cl (by omega), nI_1]
      obtain ⟨m', h1, h2, h3⟩ := ih (i + 1) (pj_wr m 4 (40 * r + i) 0) (by omega) (by omega)
      refine ⟨m', h1, (fk.wr m (by decide) _ _).tr h2, fun k => ?_⟩
      rw [h3, hr_wr]
      by_cases hk : k = 40 * r + i
      · subst hk
        rw [if_neg (by omega), if_pos ⟨rfl, rfl⟩, if_pos (by omega)]
      · simp only [hk, and_false, if_false]
        by_cases h4 : 40 * r + (i + 1) ≤ k ∧ k < 40 * r + L
        · rw [if_pos h4, if_pos (by omega)]
        · rw [if_neg h4, if_neg (by omega)]
    · rw [if_neg (nI_nlt (by omega) (by omega))]
      refine ⟨m, rfl, fk.rf _ _ _, fun k => ?_⟩
      rw [if_neg (by omega)]
theorem hm_row {r : Nat} {x3 : Int32} (hr : r < 8) : ∀ (z i : Nat) (m : pj_M), i ≤ 40 → 40 - i < z → ∃ m', H_X11_row_52 z (nI r) x3 (nI i) m = some (x3, pj_wr m' 72 4 0) ∧ fk [75] [] m m' ∧ ∀ k, m'.1 75 k = if 40 * r + i ≤ k ∧ k < 40 * r + 40 then 0 else m.1 75 k := by
  intro z
  induction z with
  | zero => intro i m hi hz; omega
  | succ z ih =>
    intro i m hi hz
    rw [H_X11_row_52, show (40 : Int32) = nI 40 from rfl]
    by_cases h : i < 40
    · have e1 : nI 40 * nI r + nI i = nI (40 * r + i) := by
        rw [hn_mul, hn_add]
      rw [if_pos (nI_lt h (by omega)), e1, if_neg (hn_in (by omega) (by decide)), hn_cl (by omega), nI_1]
      obtain ⟨m', h1, h2, h3⟩ := ih (i + 1) (pj_wr m 75 (40 * r + i) 0) (by omega) (by omega)
      refine ⟨m', h1, (fk.wr m (by decide) _ _).tr h2, fun k => ?_⟩
      rw [h3, hr_wr]
      by_cases hk : k = 40 * r + i
      · subst hk
        rw [if_neg (by omega), if_pos ⟨rfl, rfl⟩, if_pos (by omega)]
      · simp only [hk, and_false, if_false]
        by_cases h4 : 40 * r + (i + 1) ≤ k ∧ k < 40 * r + 40
        · rw [if_pos h4, if_pos (by omega)]
        · rw [if_neg h4, if_neg (by omega)]
    · rw [if_neg (nI_nlt (by omega) (by omega))]
      refine ⟨m, rfl, fk.rf _ _ _, fun k => ?_⟩
      rw [if_neg (by omega)]
theorem fk.cells {l : List Nat} {p : List (Nat × Nat)} {m m' : pj_M} (h : fk l p m m') (cs : List Nat) (hc : (cs.all fun a => !(l.contains a) && p.all (fun q => !(q.1 == a))) = true) : ∀ a ∈ cs, m'.1 a = m.1 a := by
  intro a ha
  have h1 := List.all_eq_true.mp hc a ha
  simp only [Bool.and_eq_true, Bool.not_eq_true', List.contains_eq_mem, decide_eq_false_iff_not, List.all_eq_true, beq_eq_false_iff_ne] at h1
  exact h.cell a h1.1 (fun q hq => h1.2 q hq)
theorem I_rows.keep {m m' : pj_M} (I : I_rows m) (h : ∀ a ∈ [2, 3, 4, 73, 74, 75], m'.1 a = m.1 a) : I_rows m' := by
  unfold I_rows
  rw [h 2 (by decide), h 3 (by decide), h 4 (by decide), h 73 (by decide), h 74 (by decide), h 75 (by decide)]
  exact I
/-- both sides have set their findings -/
theorem stat_both {m m1 m2 : pj_M} {v : Int32} (e1 : m1.1 0 13 = v) (e2 : m2.1 72 4 = v) (h : m2.1 0 = m1.1 0) : I_stat m2 := by
  unfold I_stat
  rw [h, e1, e2]
theorem hn_in' {i n : Nat} (h : i < n) (hi : i < 2 ^ 31) : ¬ (nI i < 0 ∨ n ≤ i) := fun h2 => h2.elim (nI_pos hi) (fun h3 => by omega)
theorem ne10 : ¬ (1 : Int32) = 0 := by decide
theorem op_row {m : pj_M} (I : I_rows m) (hs : I_stat m) (x1 x2 x3 : Int32) : ∃ r m1 m2, F_X10_row x1 x2 x3 m = some (r, m1) ∧ F_X11_row x1 x2 x3 m1 = some (r, m2) ∧ I_rows m2 ∧ I_stat m2 ∧ fk [2, 3, 4, 73, 74, 75] [(0, 13), (72, 4)] m m2 := by
  unfold F_X10_row F_X11_row
  by_cases h1 : inb x1 8
  · rw [px_exists_y h1]
    simp only [Option.bind_some, if_neg ne10, pm_isRow_y h1]
    by_cases h2 : inb x2 3
    · rw [show (2 : Int32) = nI 2 from rfl, px_within_y (by decide) h2]
      simp only [Option.bind_some, if_neg ne10, pm_in_y (show 2 + 1 < 2 ^ 31 by decide) h2]
      by_cases h3 : (40 : Int32) < x3
      · simp only [if_pos h3]
        exact ⟨_, _, _, rfl, rfl, I, hs, fk.rf _ _ _⟩
      · simp only [if_neg h3]
        by_cases h4 : x3 < 0
        · simp only [if_pos h4, F_X10_found, F_X11_found, Option.bind_some]
          have hf : fk [2, 3, 4, 73, 74, 75] [(0, 13), (72, 4)] m (pj_wr (pj_wr m 0 13 4) 72 4 4) := (fk.wp _ (by decide) _).tr (fk.wp _ (by decide) _)
          refine ⟨_, _, _, rfl, rfl, I.keep ?_, ?_, hf⟩
          · exact ((fk.wp (l := []) (p := [(0, 13), (72, 4)]) m (by decide) 4).tr (fk.wp _ (by decide) 4)).cells _ (by decide)
          · simp [I_stat, hr_wr]
        · simp only [if_neg h4]
          obtain ⟨r, hr, rfl⟩ := h1
          obtain ⟨l, hl, rfl⟩ := h2
          obtain ⟨L, hL, rfl⟩ : inb x3 41 := by
            refine (inb_iff (by decide)).mpr ?_
            rw [Int32.lt_iff_toInt_lt] at h3 h4
            have e1 : (40 : Int32).toInt = 40 := rfl
            have e2 : (0 : Int32).toInt = 0 := rfl
            omega
          have hL' : L ≤ 40 := by omega
          unfold F_X6_make
          simp only [hn_cl (show r < 2 ^ 31 by omega), if_neg (hn_in' hr (show r < 2 ^ 31 by omega))]
          obtain ⟨m1, g1, g2, g3⟩ := hx_make hr hL' pj_z 0 (pj_wr (pj_wr m 2 r (nI l)) 3 r (nI L)) (by omega) (by have := pj_z_ge; omega)
          have g1 : H_X6_make_17 pj_z (nI r) (nI L) 0 (pj_wr (pj_wr m 2 r (nI l)) 3 r (nI L)) = some m1 := g1
          rw [g1]
          simp only [F_X10_fine, Option.bind_some]
          obtain ⟨m2, k1, k2, k3⟩ := hm_row (x3 := nI L) hr pj_z 0 (pj_wr (pj_wr (pj_wr m1 0 13 0) 73 r (nI l)) 74 r (nI L)) (by omega) (by have := pj_z_ge; omega)
          refine ⟨_, _, _, rfl, k1, ?_, ?_, ?_⟩
          · intro r' hr'
            have c1 : ∀ k, m1.1 2 k = (if k = r then nI l else m.1 2 k) ∧ m1.1 3 k = (if k = r then nI L else m.1 3 k) ∧ m1.1 73 k = m.1 73 k ∧ m1.1 74 k = m.1 74 k ∧ m1.1 75 k = m.1 75 k := by
              intro k
              rw [g2.1 2 k (by decide) List.not_mem_nil, g2.1 3 k (by decide) List.not_mem_nil, g2.1 73 k (by decide) List.not_mem_nil, g2.1 74 k (by decide) List.not_mem_nil, g2.1 75 k (by decide) List.not_mem_nil]
              simp [hr_wr]
            have c2 : ∀ k, (pj_wr m2 72 4 0).1 2 k = m1.1 2 k ∧ (pj_wr m2 72 4 0).1 3 k = m1.1 3 k ∧ (pj_wr m2 72 4 0).1 4 k = m1.1 4 k ∧ (pj_wr m2 72 4 0).1 73 k = (if k = r then nI l else m1.1 73 k) ∧ (pj_wr m2 72 4 0).1 74 k = (if k = r then nI L else m1.1 74 k) ∧ (pj_wr m2 72 4 0).1 75 k = (if 40 * r + 0 ≤ k ∧ k < 40 * r + 40 then 0 else m1.1 75 k) := by
              intro k
              have e := fun a (ha : a ∉ [75]) => k2.1 a k ha List.not_mem_nil
              simp only [hr_wr, k3, show ¬ (2 : Nat) = 72 by decide, show ¬ (3 : Nat) = 72 by decide, show ¬ (4 : Nat) = 72 by decide, show ¬ (73 : Nat) = 72 by decide, show ¬ (74 : Nat) = 72 by decide, show ¬ (75 : Nat) = 72 by decide, false_and, if_false]
              rw [e 2 (by decide), e 3 (by decide), e 4 (by decide), e 73 (by decide), e 74 (by decide)]
              simp [hr_wr]
            obtain ⟨d1, d2, d3, d4, d5, d6⟩ := c2 r'
            rw [d1, d2, d4, d5, (c1 r').1, (c1 r').2.1, (c1 r').2.2.1, (c1 r').2.2.2.1]
            by_cases hrr : r' = r
            · subst hrr
              refine Or.inr ⟨l, L, hl, hL', by simp, by simp, by simp, by simp, fun i hi => ?_⟩
              rw [(c2 _).2.2.1, (c2 _).2.2.2.2.2, g3, if_pos (by omega), if_pos (by omega)]
            · simp only [hrr, if_false]
              rcases I r' hr' with h | ⟨l', L', a1, a2, a3, a4, a5, a6, a7⟩
              · exact Or.inl h
              · refine Or.inr ⟨l', L', a1, a2, a3, a4, a5, a6, fun i hi => ?_⟩
                rw [(c2 _).2.2.1, (c2 _).2.2.2.2.2, g3, if_neg (by omega), if_neg (by omega), (c1 _).2.2.2.2]
                simp only [hr_wr, show ¬ (4 : Nat) = 3 by decide, show ¬ (4 : Nat) = 2 by decide, false_and, if_false]
                exact a7 i hi
          · show (pj_wr m2 72 4 0).1 0 13 = (pj_wr m2 72 4 0).1 72 4
            simp only [hr_wr, show ¬ (0 : Nat) = 72 by decide, false_and, if_false, and_self, if_true]
            rw [k2.1 0 13 (by decide) (by decide)]
            simp [hr_wr]
          · refine fk.tr ?_ (fk.tr (k2.mono (by decide) (by decide)) (fk.wp _ (by decide) _))
            refine fk.tr (fk.tr ?_ (g2.mono (by decide) (by decide))) ?_
            · exact (fk.wr _ (by decide) _ _).tr (fk.wr _ (by decide) _ _)
            · exact ((fk.wp _ (by decide) _).tr (fk.wr _ (by decide) _ _)).tr (fk.wr _ (by decide) _ _)
    · rw [show (2 : Int32) = nI 2 from rfl, px_within_n (by decide) h2]
      simp only [Option.bind_some, pm_in_n (show 2 + 1 < 2 ^ 31 by decide) h2, if_true]
      exact ⟨_, _, _, rfl, rfl, I, hs, fk.rf _ _ _⟩
  · rw [px_exists_n h1]
    simp only [Option.bind_some, pm_isRow_n h1, if_true]
    exact ⟨_, _, _, rfl, rfl, I, hs, fk.rf _ _ _⟩
