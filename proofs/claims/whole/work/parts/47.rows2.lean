/-! PART 47: set, drop, copy -/
theorem ok_set {σ : sg} (hσ : WF σ) (x1 x2 x3 : Int32) : OK1 (F_X10_set x1 x2 x3) (F_X11_set x1 x2 x3) σ := by
  by_cases h1 : inb x1 8
  · obtain ⟨r, hr, rfl⟩ := id h1
    cases hρ : σ.1 r with
    | none =>
      refine ok_found (n := 1) hσ (fun m h => ?_) (fun m h => ?_)
      · simp only [F_X10_set, px_exists_y h1, xmis_n hr (h.1.no hr hρ), Option.bind_some, ne10, if_false, bind_id]
      · simp only [F_X11_set, pm_isRow_y h1, mmis_n hr (h.1.no hr hρ), Option.bind_some, ne10, if_false, bind_id]
    | some v =>
      obtain ⟨l, L, g⟩ := v
      obtain ⟨hl, hL⟩ := hσ.1 r l L g hρ
      by_cases h2 : inb x2 L
      · obtain ⟨i, hi, rfl⟩ := id h2
        refine ⟨cutl l x3, (ru σ.1 r (some (l, L, fun k => if k = i then cutl l x3 else g k)), 0, σ.2.2), ⟨ru_wf hσ.1 r l L _ hl hL, hσ.2⟩, fun c m hc h => ?_, fun m h => ?_⟩
        · obtain ⟨a1, a2, a3, a4, a5⟩ := h.1.1.so hr hρ
          have hf : fk [2, 3, 4] [(0, 13)] m (pj_wr (pj_wr m 4 (40 * r + i) (cutl l x3)) 0 13 0) := (fk.wr _ (by decide) _ _).tr (fk.wp _ (by decide) _)
          refine ⟨pj_wr (pj_wr m 4 (40 * r + i) (cutl l x3)) 0 13 0, ?_, h.row hf (h.1.1.put hl hL (fun k => ?_) (fun k => ?_) (fun k hk => ?_) (fun j hj => ?_)) (hr_wrs _ _ _ _), hf.hi (by decide) (by decide)⟩
          · have e1 : F_X6_length (nI r) m = some (nI L, m) := by
              unfold F_X6_length
              rw [if_neg (hn_in hr (by decide)), hn_cl (by omega), a4]
            have e2 : F_X6_put (nI r) (nI i) x3 m = some (cutl l x3, pj_wr m 4 (40 * r + i) (cutl l x3)) := by
              unfold F_X6_put
              rw [if_neg (hn_in hr (by decide)), hn_cl (by omega), a3, px_cutl hl]
              simp only [Option.bind_some]
              rw [l40, hn_mul, hn_add, if_neg (hn_in (by omega) (by decide)), hn_cl (by omega), Nat.mul_comm r 40]
            simp only [F_X10_set, px_exists_y h1, xmis_y hr hl a3, e1, (px_in1 (show L < 2 ^ 31 by omega)).1 h2, e2, F_X10_fine, Option.bind_some, ne10, if_false, if_true]
          · rw [hr_wra (by decide), hr_wra (by decide)]
            by_cases hk : k = r
            · rw [if_pos hk, hk, a3]
            · rw [if_neg hk]
          · rw [hr_wra (by decide), hr_wra (by decide)]
            by_cases hk : k = r
            · rw [if_pos hk, hk, a4]
            · rw [if_neg hk]
          · rw [hr_wra (by decide), hr_wrk (by omega)]
          · rw [hr_wra (by decide), hr_wr]
            by_cases hji : j = i
            · rw [if_pos ⟨rfl, by omega⟩, if_pos hji]
            · rw [if_neg (by omega), if_neg hji]
              exact a5 j hj
        · obtain ⟨a1, a2, a3, a4, a5⟩ := h.1.so hr hρ
          have hf : fk (73 :: 74 :: 75 :: cms) ((72, 4) :: pms) m (pj_wr (pj_wr m 75 (40 * r + i) (cutl l x3)) 72 4 0) := (fk.wr _ (by decide) _ _).tr (fk.wp _ (by decide) _)
          refine ⟨pj_wr (pj_wr m 75 (40 * r + i) (cutl l x3)) 72 4 0, ?_, h.row hf (h.1.put hl hL (fun k => ?_) (fun k => ?_) (fun k hk => ?_) (fun j hj => ?_)) (hr_wrs _ _ _ _), lo_rw hf⟩
          · have e0 : 40 * nI r + nI i = nI (40 * r + i) := by rw [l40, hn_mul, hn_add]
            simp only [F_X11_set, pm_isRow_y h1, mmis_y hr hl a3, hn_cl (show r < 2 ^ 31 by omega), hn_in' hr (show r < 2 ^ 31 by omega), a4, (pm_in1 (show L < 2 ^ 31 by omega)).1 h2, a3, pm_cutl hl, e0, hn_cl (show 40 * r + i < 2 ^ 31 by omega), hn_in' (show 40 * r + i < 320 by omega) (show 40 * r + i < 2 ^ 31 by omega), hr_wrs, F_X11_well, Option.bind_some, ne10, if_false, if_true]
          · rw [hr_wra (by decide), hr_wra (by decide)]
            by_cases hk : k = r
            · rw [if_pos hk, hk, a3]
            · rw [if_neg hk]
          · rw [hr_wra (by decide), hr_wra (by decide)]
            by_cases hk : k = r
            · rw [if_pos hk, hk, a4]
            · rw [if_neg hk]
          · rw [hr_wra (by decide), hr_wrk (by omega)]
          · rw [hr_wra (by decide), hr_wr]
            by_cases hji : j = i
            · rw [if_pos ⟨rfl, by omega⟩, if_pos hji]
            · rw [if_neg (by omega), if_neg hji]
              exact a5 j hj
      · refine ok_found (n := 2) hσ (fun m h => ?_) (fun m h => ?_)
        · obtain ⟨a1, a2, a3, a4, a5⟩ := h.1.so hr hρ
          have e1 : F_X6_length (nI r) m = some (nI L, m) := by
            unfold F_X6_length
            rw [if_neg (hn_in hr (by decide)), hn_cl (by omega), a4]
          simp only [F_X10_set, px_exists_y h1, xmis_y hr hl a3, e1, (px_in1 (show L < 2 ^ 31 by omega)).2 h2, Option.bind_some, ne10, if_false, if_true, bind_id]
        · obtain ⟨a1, a2, a3, a4, a5⟩ := h.1.so hr hρ
          simp only [F_X11_set, pm_isRow_y h1, mmis_y hr hl a3, hn_cl (show r < 2 ^ 31 by omega), hn_in' hr (show r < 2 ^ 31 by omega), a4, (pm_in1 (show L < 2 ^ 31 by omega)).2 h2, Option.bind_some, ne10, if_false, if_true, bind_id]
  · refine ok_same hσ (r := -1000001) (fun m h => ?_) (fun m h => ?_)
    · simp only [F_X10_set, px_exists_n h1, Option.bind_some, if_true]
    · simp only [F_X11_set, pm_isRow_n h1, Option.bind_some, if_true]
theorem XR.del {m m' : pj_M} {ρ : sr} (h : XR m ρ) {r : Nat} (e2 : ∀ k, m'.1 2 k = if k = r then -1 else m.1 2 k) (e3 : ∀ k, k ≠ r → m'.1 3 k = m.1 3 k) (e4 : m'.1 4 = m.1 4) : XR m' (ru ρ r none) := by
  intro r' hr'
  by_cases hrr : r' = r
  · simp only [ru, hrr, if_true]
    rw [e2, if_pos rfl]
  · have h1 := h r' hr'
    simp only [ru, hrr, if_false]
    rw [e2, if_neg hrr, e3 r' hrr, e4]
    exact h1
theorem MR.del {m m' : pj_M} {ρ : sr} (h : MR m ρ) {r : Nat} (e2 : ∀ k, m'.1 73 k = if k = r then -1000000 else m.1 73 k) (e3 : ∀ k, k ≠ r → m'.1 74 k = m.1 74 k) (e4 : m'.1 75 = m.1 75) : MR m' (ru ρ r none) := by
  intro r' hr'
  by_cases hrr : r' = r
  · simp only [ru, hrr, if_true]
    rw [e2, if_pos rfl]
  · have h1 := h r' hr'
    simp only [ru, hrr, if_false]
    rw [e2, if_neg hrr, e3 r' hrr, e4]
    exact h1
theorem ok_drop {σ : sg} (hσ : WF σ) (x1 : Int32) : OK1 (F_X10_drop x1) (F_X11_drop x1) σ := by
  by_cases h1 : inb x1 8
  · obtain ⟨r, hr, rfl⟩ := id h1
    cases hρ : σ.1 r with
    | none =>
      refine ok_found (n := 1) hσ (fun m h => ?_) (fun m h => ?_)
      · simp only [F_X10_drop, px_exists_y h1, xmis_n hr (h.1.no hr hρ), Option.bind_some, ne10, if_false, bind_id]
      · simp only [F_X11_drop, pm_isRow_y h1, mmis_n hr (h.1.no hr hρ), Option.bind_some, ne10, if_false, bind_id]
    | some v =>
      obtain ⟨l, L, g⟩ := v
      obtain ⟨hl, hL⟩ := hσ.1 r l L g hρ
      refine ⟨nI L, (ru σ.1 r none, 0, σ.2.2), ⟨ru_wf0 hσ.1 r, hσ.2⟩, fun c m hc h => ?_, fun m h => ?_⟩
      · obtain ⟨a1, a2, a3, a4, a5⟩ := h.1.1.so hr hρ
        have hf : fk [2, 3, 4] [(0, 13)] m (pj_wr (pj_wr (pj_wr m 2 r (-1)) 3 r 0) 0 13 0) := ((fk.wr _ (by decide) _ _).tr (fk.wr _ (by decide) _ _)).tr (fk.wp _ (by decide) _)
        refine ⟨pj_wr (pj_wr (pj_wr m 2 r (-1)) 3 r 0) 0 13 0, ?_, h.row hf (h.1.1.del (fun k => ?_) (fun k hk => ?_) ?_) (hr_wrs _ _ _ _), hf.hi (by decide) (by decide)⟩
        · simp only [F_X10_drop, px_exists_y h1, xmis_y hr hl a3, F_X6_length, F_X6_remove, hn_cl (show r < 2 ^ 31 by omega), hn_in' hr (show r < 2 ^ 31 by omega), a4, F_X10_fine, Option.bind_some, ne10, if_false, if_true]
        · rw [hr_wra (by decide), hr_wra (by decide), hr_wr]
          simp
        · rw [hr_wra (by decide), hr_wrk hk, hr_wra (by decide)]
        · rw [hr_wra (by decide), hr_wra (by decide), hr_wra (by decide)]
      · obtain ⟨a1, a2, a3, a4, a5⟩ := h.1.so hr hρ
        have hf : fk (73 :: 74 :: 75 :: cms) ((72, 4) :: pms) m (pj_wr (pj_wr m 73 r (-1000000)) 72 4 0) := (fk.wr _ (by decide) _ _).tr (fk.wp _ (by decide) _)
        refine ⟨pj_wr (pj_wr m 73 r (-1000000)) 72 4 0, ?_, h.row hf (h.1.del (fun k => ?_) (fun k hk => ?_) ?_) (hr_wrs _ _ _ _), lo_rw hf⟩
        · have e1 : (pj_wr m 73 r (-1000000)).1 74 r = nI L := by rw [hr_wra (by decide), a4]
          simp only [F_X11_drop, pm_isRow_y h1, mmis_y hr hl a3, hn_cl (show r < 2 ^ 31 by omega), hn_in' hr (show r < 2 ^ 31 by omega), e1, F_X11_well, Option.bind_some, ne10, if_false, if_true]
        · rw [hr_wra (by decide), hr_wr]
          simp
        · rw [hr_wra (by decide), hr_wra (by decide)]
        · rw [hr_wra (by decide), hr_wra (by decide)]
  · refine ok_same hσ (r := -1000001) (fun m h => ?_) (fun m h => ?_)
    · simp only [F_X10_drop, px_exists_n h1, Option.bind_some, if_true]
    · simp only [F_X11_drop, pm_isRow_n h1, Option.bind_some, if_true]
/-- a stretch of a row -/
def rg (L : Nat) (i n : Int32) : Prop := 0 ≤ i.toInt ∧ 0 ≤ n.toInt ∧ i.toInt + n.toInt ≤ L
theorem rg_of {L : Nat} {i n : Int32} (hL : L ≤ 40) (h : rg L i n) : ∃ i' n', i = nI i' ∧ n = nI n' ∧ i' + n' ≤ L := by
  obtain ⟨h1, h2, h3⟩ := h
  refine ⟨i.toInt.toNat, n.toInt.toNat, Int32.toInt_inj.mp ?_, Int32.toInt_inj.mp ?_, by omega⟩
  · rw [nI_toInt (by omega)]
    omega
  · rw [nI_toInt (by omega)]
    omega
theorem i32_n0 {x : Int32} : x < 0 ↔ x.toInt < 0 := by
  rw [Int32.lt_iff_toInt_lt]
  exact Iff.rfl
theorem px_range {m : pj_M} {r L : Nat} {i n : Int32} (hr : r < 8) (hL : L ≤ 40) (h : m.1 3 r = nI L) : (rg L i n → F_X6_hasRange (nI r) i n m = some (1, m)) ∧ (¬ rg L i n → F_X6_hasRange (nI r) i n m = some (0, m)) := by
  unfold F_X6_hasRange
  rw [if_neg (hn_in hr (by decide)), hn_cl (by omega), h]
  have hi := Int32.toInt_lt i
  have hn := Int32.toInt_lt n
  have ni := i32_n0 (x := i)
  have nn := i32_n0 (x := n)
  have e : 0 ≤ n.toInt → ((nI L - n < i) ↔ ((L : Int) - n.toInt < i.toInt)) := fun h0 => by
    have key : (nI L - n).toInt = L - n.toInt := by
      rw [Int32.toInt_sub, nI_toInt (by omega)]
      exact Int.bmod_eq_of_le (by omega) (by omega)
    rw [Int32.lt_iff_toInt_lt, key]
  constructor
  · rintro ⟨h1, h2, h3⟩
    have e := e h2
    rw [if_neg (fun h => by have := ni.mp h; omega), if_neg (fun h => by have := nn.mp h; omega), if_neg (fun h => by have := e.mp h; omega)]
  · intro h0
    by_cases h1 : i < 0
    · rw [if_pos h1]
    · by_cases h2 : n < 0
      · rw [if_neg h1, if_pos h2]
      · have h1' : ¬ i.toInt < 0 := fun h => h1 (ni.mpr h)
        have h2' : ¬ n.toInt < 0 := fun h => h2 (nn.mpr h)
        have e := e (by omega)
        rw [if_neg h1, if_neg h2, if_pos]
        exact e.mpr (Int.not_le.mp (fun h4 => h0 ⟨by omega, by omega, by omega⟩))
theorem pm_range {m : pj_M} {r L : Nat} {i n : Int32} (hr : r < 8) (hL : L ≤ 40) (h : m.1 74 r = nI L) : (rg L i n → F_X11_isPart (nI r) i n m = some (1, m)) ∧ (¬ rg L i n → F_X11_isPart (nI r) i n m = some (0, m)) := by
  unfold F_X11_isPart
  rw [if_neg (hn_in hr (by decide)), if_neg (hn_in hr (by decide)), hn_cl (by omega), h]
  have hi := Int32.toInt_lt i
  have hn := Int32.toInt_lt n
  have ni := i32_n0 (x := i)
  have nn := i32_n0 (x := n)
  have e : 0 ≤ i.toInt → ((nI L - i < n) ↔ ((L : Int) - i.toInt < n.toInt)) := fun h0 => by
    have key : (nI L - i).toInt = L - i.toInt := by
      rw [Int32.toInt_sub, nI_toInt (by omega)]
      exact Int.bmod_eq_of_le (by omega) (by omega)
    rw [Int32.lt_iff_toInt_lt, key]
  have e1 : (nI L < i) ↔ ((L : Int) < i.toInt) := by
    rw [Int32.lt_iff_toInt_lt, nI_toInt (by omega)]
  constructor
  · rintro ⟨h1, h2, h3⟩
    have e := e h1
    rw [if_neg (fun h => by have := ni.mp h; omega), if_neg (fun h => by have := nn.mp h; omega), if_neg (fun h => by have := e1.mp h; omega), if_neg (fun h => by have := e.mp h; omega)]
  · intro h0
    by_cases h1 : i < 0
    · rw [if_pos h1]
    · by_cases h2 : n < 0
      · rw [if_neg h1, if_pos h2]
      · rw [if_neg h1, if_neg h2]
        by_cases h3 : nI L < i
        · rw [if_pos h3]
        · have h1' : ¬ i.toInt < 0 := fun h => h1 (ni.mpr h)
          have h2' : ¬ n.toInt < 0 := fun h => h2 (nn.mpr h)
          have e := e (by omega)
          rw [if_neg h3, if_pos]
          exact e.mpr (Int.not_le.mp (fun h4 => h0 ⟨by omega, by omega, by omega⟩))
/-- the reference's copy: by way of the spare row -/
theorem hm_cp1 {a i b j n : Nat} (ha : a < 8) (hi : i + n ≤ 40) (m : pj_M) : ∃ m', H_X11_copy_92 pj_z (nI a) (nI i) (nI b) (nI j) (nI n) 0 m = H_X11_copy_129 pj_z (nI b) (nI j) (nI n) 0 m' ∧ fk [76] [] m m' ∧ ∀ k, k < n → m'.1 76 k = m.1 75 (40 * a + i + k) := by
  have key : ∃ m', H_X11_copy_92 pj_z (nI a) (nI i) (nI b) (nI j) (nI n) 0 m = H_X11_copy_129 pj_z (nI b) (nI j) (nI n) 0 m' ∧ fk [76] [] m m' ∧ ∀ k, k < n → m'.1 76 k = if 0 ≤ k then m.1 75 (40 * a + i + k) else m.1 76 k := by
    refine lp0 (P := fun z d => ∀ m, ∃ m', H_X11_copy_92 z (nI a) (nI i) (nI b) (nI j) (nI n) (nI d) m = H_X11_copy_129 pj_z (nI b) (nI j) (nI n) 0 m' ∧ fk [76] [] m m' ∧ ∀ k, k < n → m'.1 76 k = if d ≤ k then m.1 75 (40 * a + i + k) else m.1 76 k) n (by omega) ?_ ?_ m
    · intro z m
      refine ⟨m, ?_, fk.rf _ _ _, fun k hk => by rw [if_neg (by omega)]⟩
      rw [H_X11_copy_92]
      simp (disch := omega) only [Option.bind_some, ofn, l0, l1, l2, l3, l4, l5, l6, l7, l8, l9, l10, l11, l12, l19, l20, l30, l31, l40, l72, l100, hn_mul, hn_add, hn_sub, hn_or, hn_and, sh_r, sh_l, bt_n, bt_0, bt_1, hn_cl, if_true, if_false, ↓reduceIte, hn_lt, hn_le, hn_eq, ne_1, ne_m, lt_t, lt_f, le_t, le_f, eq_t, eq_f, Nat.not_lt_zero, false_or, or_false, or_self, false_and, and_false, true_and, and_true, not_true, not_false_iff]
    · intro z d hd ih m
      obtain ⟨m', g1, g2, g3⟩ := ih (pj_wr m 76 d (m.1 75 (40 * a + i + d)))
      refine ⟨m', ?_, (fk.wr _ (by decide) _ _).tr g2, fun k hk => ?_⟩
      · rw [H_X11_copy_92, ← g1]
        simp (disch := omega) only [Option.bind_some, ofn, l0, l1, l2, l3, l4, l5, l6, l7, l8, l9, l10, l11, l12, l19, l20, l30, l31, l40, l72, l100, hn_mul, hn_add, hn_sub, hn_or, hn_and, sh_r, sh_l, bt_n, bt_0, bt_1, hn_cl, if_true, if_false, ↓reduceIte, hn_lt, hn_le, hn_eq, ne_1, ne_m, lt_t, lt_f, le_t, le_f, eq_t, eq_f, Nat.not_lt_zero, false_or, or_false, or_self, false_and, and_false, true_and, and_true, not_true, not_false_iff]
      · rw [g3 k hk, hr_wra (by decide), hr_wr]
        by_cases hkd : k = d
        · rw [if_neg (by omega), if_pos ⟨rfl, hkd⟩, if_pos (by omega), hkd]
        · simp only [hkd, and_false, if_false]
          by_cases h4 : d + 1 ≤ k
          · rw [if_pos h4, if_pos (by omega)]
          · rw [if_neg h4, if_neg (by omega)]
  obtain ⟨m', g1, g2, g3⟩ := key
  exact ⟨m', g1, g2, fun k hk => by rw [g3 k hk, if_pos (Nat.zero_le _)]⟩
theorem hm_cp2 {b j n : Nat} (hb : b < 8) (hj : j + n ≤ 40) (m : pj_M) : ∃ m', H_X11_copy_129 pj_z (nI b) (nI j) (nI n) 0 m = some (nI n, pj_wr m' 72 4 0) ∧ fk [75] [] m m' ∧ ∀ k, m'.1 75 k = if 40 * b + j ≤ k ∧ k < 40 * b + j + n then m.1 76 (k - (40 * b + j)) else m.1 75 k := by
  refine lp0 (P := fun z d => ∀ m, ∃ m', H_X11_copy_129 z (nI b) (nI j) (nI n) (nI d) m = some (nI n, pj_wr m' 72 4 0) ∧ fk [75] [] m m' ∧ ∀ k, m'.1 75 k = if 40 * b + j + d ≤ k ∧ k < 40 * b + j + n then m.1 76 (k - (40 * b + j)) else m.1 75 k) n (by omega) ?_ ?_ m
  · intro z m
    refine ⟨m, ?_, fk.rf _ _ _, fun k => by rw [if_neg (by omega)]⟩
    rw [H_X11_copy_129]
    simp (disch := omega) only [Option.bind_some, ofn, l0, l1, l2, l3, l4, l5, l6, l7, l8, l9, l10, l11, l12, l19, l20, l30, l31, l40, l72, l100, hn_mul, hn_add, hn_sub, hn_or, hn_and, sh_r, sh_l, bt_n, bt_0, bt_1, hn_cl, if_true, if_false, ↓reduceIte, hn_lt, hn_le, hn_eq, ne_1, ne_m, lt_t, lt_f, le_t, le_f, eq_t, eq_f, Nat.not_lt_zero, false_or, or_false, or_self, false_and, and_false, true_and, and_true, not_true, not_false_iff, F_X11_well]
  · intro z d hd ih m
    obtain ⟨m', g1, g2, g3⟩ := ih (pj_wr m 75 (40 * b + j + d) (m.1 76 d))
    refine ⟨m', ?_, (fk.wr _ (by decide) _ _).tr g2, fun k => ?_⟩
    · rw [H_X11_copy_129, ← g1]
      simp (disch := omega) only [Option.bind_some, ofn, l0, l1, l2, l3, l4, l5, l6, l7, l8, l9, l10, l11, l12, l19, l20, l30, l31, l40, l72, l100, hn_mul, hn_add, hn_sub, hn_or, hn_and, sh_r, sh_l, bt_n, bt_0, bt_1, hn_cl, if_true, if_false, ↓reduceIte, hn_lt, hn_le, hn_eq, ne_1, ne_m, lt_t, lt_f, le_t, le_f, eq_t, eq_f, Nat.not_lt_zero, false_or, or_false, or_self, false_and, and_false, true_and, and_true, not_true, not_false_iff]
    · rw [g3 k, hr_wra (by decide), hr_wr]
      by_cases hkd : k = 40 * b + j + d
      · rw [if_neg (by omega), if_pos ⟨rfl, hkd⟩, if_pos (by omega), show k - (40 * b + j) = d by omega]
      · simp only [hkd, and_false, if_false]
        by_cases h4 : 40 * b + j + (d + 1) ≤ k ∧ k < 40 * b + j + n
        · rw [if_pos h4, if_pos (by omega)]
        · rw [if_neg h4, if_neg (by omega)]
theorem ok_copy {σ : sg} (hσ : WF σ) (x1 x2 x3 x4 x5 : Int32) : OK1 (F_X10_copy x1 x2 x3 x4 x5) (F_X11_copy x1 x2 x3 x4 x5) σ := by
  by_cases h1 : inb x1 8
  · by_cases h2 : inb x3 8
    · obtain ⟨a, ha, rfl⟩ := id h1
      obtain ⟨b, hb, rfl⟩ := id h2
      cases hρa : σ.1 a with
      | none =>
        refine ok_found (n := 1) hσ (fun m h => ?_) (fun m h => ?_)
        · simp only [F_X10_copy, px_exists_y h1, px_exists_y h2, xmis_n ha (h.1.no ha hρa), Option.bind_some, ne10, if_false, bind_id]
        · simp only [F_X11_copy, pm_isRow_y h1, pm_isRow_y h2, mmis_n ha (h.1.no ha hρa), Option.bind_some, ne10, if_false, bind_id]
      | some va =>
        obtain ⟨la, La, ga⟩ := va
        obtain ⟨hla, hLa⟩ := hσ.1 a la La ga hρa
        cases hρb : σ.1 b with
        | none =>
          refine ok_found (n := 1) hσ (fun m h => ?_) (fun m h => ?_)
          · simp only [F_X10_copy, px_exists_y h1, px_exists_y h2, xmis_y ha hla (h.1.so ha hρa).2.2.1, xmis_n hb (h.1.no hb hρb), Option.bind_some, ne10, if_false, if_true, bind_id]
          · simp only [F_X11_copy, pm_isRow_y h1, pm_isRow_y h2, mmis_y ha hla (h.1.so ha hρa).2.2.1, mmis_n hb (h.1.no hb hρb), Option.bind_some, ne10, if_false, if_true, bind_id]
        | some vb =>
          obtain ⟨lb, Lb, gb⟩ := vb
          obtain ⟨hlb, hLb⟩ := hσ.1 b lb Lb gb hρb
          have Xl : ∀ m, xR0 m σ → ∀ r, r < 8 → ∀ l L g, σ.1 r = some (l, L, g) → F_X6_lane (nI r) m = some (nI l, m) := fun m h r hr l L g e => by
            unfold F_X6_lane
            rw [if_neg (hn_in hr (by decide)), hn_cl (by omega), (h.1.so hr e).2.2.1]
          by_cases hll : la = lb
          · have Ml : ∀ m, mR m σ → (m.1 73 a = m.1 73 b) = True := fun m h => by rw [(h.1.so ha hρa).2.2.1, (h.1.so hb hρb).2.2.1, hll]; exact eq_true rfl
            by_cases hra : rg La x2 x5
            · by_cases hrb : rg Lb x4 x5
              · obtain ⟨i, n, rfl, rfl, hin⟩ := rg_of hLa hra
                obtain ⟨j, n', rfl, e', hjn⟩ := rg_of hLb hrb
                obtain rfl : n = n' := hn_inj (by omega) (by omega) e'
                refine ⟨nI n, (ru σ.1 b (some (lb, Lb, fun k => if j ≤ k ∧ k < j + n then ga (i + (k - j)) else gb k)), 0, σ.2.2), ⟨ru_wf hσ.1 b lb Lb _ hlb hLb, hσ.2⟩, fun c m hc h => ?_, fun m h => ?_⟩
                · obtain ⟨a1, a2, a3, a4, a5⟩ := h.1.1.so ha hρa
                  obtain ⟨b1, b2, b3, b4, b5⟩ := h.1.1.so hb hρb
                  have hf : fk [2, 3, 4] [(0, 13)] m (pj_wr (pj_cp m 4 (40 * a + i) 4 (40 * b + j) n) 0 13 0) := (((fr.cp [2, 3, 4] m (by decide) _ _ _ _).fk _)).tr (fk.wp _ (by decide) _)
                  refine ⟨_, ?_, h.row hf (h.1.1.put hlb hLb (fun k => ?_) (fun k => ?_) (fun k hk => ?_) (fun d hd => ?_)) (hr_wrs _ _ _ _), hf.hi (by decide) (by decide)⟩
                  · have ec : F_X6_carry (nI a) (nI i) (nI b) (nI j) (nI n) m = some (pj_cp m 4 (40 * a + i) 4 (40 * b + j) n) := by
                      unfold F_X6_carry
                      simp (disch := omega) only [Option.bind_some, ofn, l0, l1, l2, l3, l4, l5, l6, l7, l8, l9, l10, l11, l12, l19, l20, l30, l31, l40, l72, l100, hn_mul, hn_add, hn_sub, hn_or, hn_and, sh_r, sh_l, bt_n, bt_0, bt_1, hn_cl, if_true, if_false, ↓reduceIte, hn_lt, hn_le, hn_eq, ne_1, ne_m, lt_t, lt_f, le_t, le_f, eq_t, eq_f, Nat.not_lt_zero, false_or, or_false, or_self, false_and, and_false, true_and, and_true, not_true, not_false_iff]
                      rw [Nat.mul_comm a, Nat.mul_comm b]
                    simp only [F_X10_copy, px_exists_y h1, px_exists_y h2, xmis_y ha hla a3, xmis_y hb hlb b3, Xl m h.1 a ha _ _ _ hρa, Xl m h.1 b hb _ _ _ hρb, hll, (px_range ha hLa a4).1 hra, (px_range hb hLb b4).1 hrb, ec, F_X10_fine, Option.bind_some, ne10, if_false, if_true]
                  · rw [hr_wra (by decide), (fr.cp [4] m (by decide) _ _ _ _).at 2 rfl]
                    by_cases hk : k = b
                    · rw [if_pos hk, hk, b3]
                    · rw [if_neg hk]
                  · rw [hr_wra (by decide), (fr.cp [4] m (by decide) _ _ _ _).at 3 rfl]
                    by_cases hk : k = b
                    · rw [if_pos hk, hk, b4]
                    · rw [if_neg hk]
                  · rw [hr_wra (by decide), hr_cp, if_neg (by omega)]
                  · rw [hr_wra (by decide), hr_cp]
                    by_cases hjd : j ≤ d ∧ d < j + n
                    · rw [if_pos (by omega), if_pos hjd, show 40 * a + i + (40 * b + d - (40 * b + j)) = 40 * a + (i + (d - j)) by omega, a5 _ (by omega)]
                    · rw [if_neg (by omega), if_neg hjd, b5 d hd]
                · obtain ⟨a1, a2, a3, a4, a5⟩ := h.1.so ha hρa
                  obtain ⟨b1, b2, b3, b4, b5⟩ := h.1.so hb hρb
                  obtain ⟨m1, g1, g2, g3⟩ := hm_cp1 (a := a) (i := i) (b := b) (j := j) (n := n) ha (by omega) m
                  obtain ⟨m2, k1, k2, k3⟩ := hm_cp2 (b := b) (j := j) (n := n) hb (by omega) m1
                  have hf : fk (73 :: 74 :: 75 :: cms) ((72, 4) :: pms) m (pj_wr m2 72 4 0) := ((g2.mono (by decide) (by decide)).tr (k2.mono (by decide) (by decide))).tr (fk.wp _ (by decide) _)
                  have c1 : ∀ a ∈ [73, 74, 75], m1.1 a = m.1 a := g2.cells _ (by decide)
                  have c2 : ∀ a ∈ [73, 74], m2.1 a = m1.1 a := k2.cells _ (by decide)
                  refine ⟨_, ?_, h.row hf (h.1.put hlb hLb (fun k => ?_) (fun k => ?_) (fun k hk => ?_) (fun d hd => ?_)) (hr_wrs _ _ _ _), lo_rw hf⟩
                  · simp only [F_X11_copy, pm_isRow_y h1, pm_isRow_y h2, mmis_y ha hla a3, mmis_y hb hlb b3, hn_cl (show a < 2 ^ 31 by omega), hn_in' ha (show a < 2 ^ 31 by omega), hn_cl (show b < 2 ^ 31 by omega), hn_in' hb (show b < 2 ^ 31 by omega), Ml m h, (pm_range ha hLa a4).1 hra, (pm_range hb hLb b4).1 hrb, g1, Option.bind_some, ne10, if_false, if_true]
                    exact k1
                  · rw [hr_wra (by decide), c2 73 (by decide), c1 73 (by decide)]
                    by_cases hk : k = b
                    · rw [if_pos hk, hk, b3]
                    · rw [if_neg hk]
                  · rw [hr_wra (by decide), c2 74 (by decide), c1 74 (by decide)]
                    by_cases hk : k = b
                    · rw [if_pos hk, hk, b4]
                    · rw [if_neg hk]
                  · rw [hr_wra (by decide), k3, if_neg (by omega), c1 75 (by decide)]
                  · rw [hr_wra (by decide), k3]
                    by_cases hjd : j ≤ d ∧ d < j + n
                    · rw [if_pos (by omega), if_pos hjd, g3 _ (by omega), show 40 * a + i + (40 * b + d - (40 * b + j)) = 40 * a + (i + (d - j)) by omega, a5 _ (by omega)]
                    · rw [if_neg (by omega), if_neg hjd, c1 75 (by decide), b5 d hd]
              · refine ok_found (n := 2) hσ (fun m h => ?_) (fun m h => ?_)
                · obtain ⟨a1, a2, a3, a4, a5⟩ := h.1.so ha hρa
                  obtain ⟨b1, b2, b3, b4, b5⟩ := h.1.so hb hρb
                  simp only [F_X10_copy, px_exists_y h1, px_exists_y h2, xmis_y ha hla a3, xmis_y hb hlb b3, Xl m h a ha _ _ _ hρa, Xl m h b hb _ _ _ hρb, hll, (px_range ha hLa a4).1 hra, (px_range hb hLb b4).2 hrb, Option.bind_some, ne10, if_false, if_true, bind_id]
                · obtain ⟨a1, a2, a3, a4, a5⟩ := h.1.so ha hρa
                  obtain ⟨b1, b2, b3, b4, b5⟩ := h.1.so hb hρb
                  simp only [F_X11_copy, pm_isRow_y h1, pm_isRow_y h2, mmis_y ha hla a3, mmis_y hb hlb b3, hn_cl (show a < 2 ^ 31 by omega), hn_in' ha (show a < 2 ^ 31 by omega), hn_cl (show b < 2 ^ 31 by omega), hn_in' hb (show b < 2 ^ 31 by omega), Ml m h, (pm_range ha hLa a4).1 hra, (pm_range hb hLb b4).2 hrb, Option.bind_some, ne10, if_false, if_true, bind_id]
            · refine ok_found (n := 2) hσ (fun m h => ?_) (fun m h => ?_)
              · obtain ⟨a1, a2, a3, a4, a5⟩ := h.1.so ha hρa
                obtain ⟨b1, b2, b3, b4, b5⟩ := h.1.so hb hρb
                simp only [F_X10_copy, px_exists_y h1, px_exists_y h2, xmis_y ha hla a3, xmis_y hb hlb b3, Xl m h a ha _ _ _ hρa, Xl m h b hb _ _ _ hρb, hll, (px_range ha hLa a4).2 hra, Option.bind_some, ne10, if_false, if_true, bind_id]
              · obtain ⟨a1, a2, a3, a4, a5⟩ := h.1.so ha hρa
                obtain ⟨b1, b2, b3, b4, b5⟩ := h.1.so hb hρb
                simp only [F_X11_copy, pm_isRow_y h1, pm_isRow_y h2, mmis_y ha hla a3, mmis_y hb hlb b3, hn_cl (show a < 2 ^ 31 by omega), hn_in' ha (show a < 2 ^ 31 by omega), hn_cl (show b < 2 ^ 31 by omega), hn_in' hb (show b < 2 ^ 31 by omega), Ml m h, (pm_range ha hLa a4).2 hra, Option.bind_some, ne10, if_false, if_true, bind_id]
          · have ell : (nI la = nI lb) = False := eq_false (fun e => hll (hn_inj (by omega) (by omega) e))
            refine ok_found (n := 5) hσ (fun m h => ?_) (fun m h => ?_)
            · obtain ⟨a1, a2, a3, a4, a5⟩ := h.1.so ha hρa
              obtain ⟨b1, b2, b3, b4, b5⟩ := h.1.so hb hρb
              simp only [F_X10_copy, px_exists_y h1, px_exists_y h2, xmis_y ha hla a3, xmis_y hb hlb b3, Xl m h a ha _ _ _ hρa, Xl m h b hb _ _ _ hρb, ell, Option.bind_some, ne10, if_false, if_true, bind_id]
            · obtain ⟨a1, a2, a3, a4, a5⟩ := h.1.so ha hρa
              obtain ⟨b1, b2, b3, b4, b5⟩ := h.1.so hb hρb
              simp only [F_X11_copy, pm_isRow_y h1, pm_isRow_y h2, mmis_y ha hla a3, mmis_y hb hlb b3, hn_cl (show a < 2 ^ 31 by omega), hn_in' ha (show a < 2 ^ 31 by omega), hn_cl (show b < 2 ^ 31 by omega), hn_in' hb (show b < 2 ^ 31 by omega), a3, b3, ell, Option.bind_some, ne10, if_false, if_true, bind_id]
    · refine ok_same hσ (r := -1000001) (fun m h => ?_) (fun m h => ?_)
      · simp only [F_X10_copy, px_exists_y h1, px_exists_n h2, Option.bind_some, ne10, if_false, if_true]
      · simp only [F_X11_copy, pm_isRow_y h1, pm_isRow_n h2, Option.bind_some, ne10, if_false, if_true]
  · refine ok_same hσ (r := -1000001) (fun m h => ?_) (fun m h => ?_)
    · simp only [F_X10_copy, px_exists_n h1, Option.bind_some, if_true]
    · simp only [F_X11_copy, pm_isRow_n h1, Option.bind_some, if_true]
