/-! PART 33: small methods of both sides over nets and systems -/
theorem c0 : (0 : Int32).toNatClampNeg = 0 := rfl
theorem c1 : (1 : Int32).toNatClampNeg = 1 := rfl
theorem i32_cases {x : Int32} {n : Nat} (hn : n < 2 ^ 31) : (inb x n ∧ ¬ x < 0 ∧ x < nI n) ∨ (¬ inb x n ∧ (x < 0 ∨ ¬ x < nI n)) := by
  by_cases h : inb x n
  · exact Or.inl ⟨h, inb_0 (by omega) h, inb_lt hn h⟩
  · exact Or.inr ⟨h, inb_n hn h⟩
theorem nx_has_y {m : pj_M} {b n : Nat} {x : Int32} (hn : n < 2 ^ 31) (h : m.1 b 2 = nI n) (hx : inb x n) : F_X4_hasState b x m = some (1, m) := by
  unfold F_X4_hasState
  rw [h, if_neg (inb_0 (by omega) hx), if_pos (inb_lt hn hx)]
theorem nx_has_n {m : pj_M} {b n : Nat} {x : Int32} (hn : n < 2 ^ 31) (h : m.1 b 2 = nI n) (hx : ¬ inb x n) : F_X4_hasState b x m = some (0, m) := by
  unfold F_X4_hasState
  rw [h]
  by_cases h2 : x < 0
  · rw [if_pos h2]
  · rw [if_neg h2, if_neg ((inb_n hn hx).resolve_left h2)]
theorem nx_arc_y {m : pj_M} {b n : Nat} {x : Int32} (hn : n < 2 ^ 31) (h : m.1 b 3 = nI n) (hx : inb x n) : F_X4_hasArc b x m = some (1, m) := by
  unfold F_X4_hasArc
  rw [h, if_neg (inb_0 (by omega) hx), if_pos (inb_lt hn hx)]
theorem nx_arc_n {m : pj_M} {b n : Nat} {x : Int32} (hn : n < 2 ^ 31) (h : m.1 b 3 = nI n) (hx : ¬ inb x n) : F_X4_hasArc b x m = some (0, m) := by
  unfold F_X4_hasArc
  rw [h]
  by_cases h2 : x < 0
  · rw [if_pos h2]
  · rw [if_neg h2, if_neg ((inb_n hn hx).resolve_left h2)]
/-- in(x, 0, n - 1) -/
theorem pm_in1 {m : pj_M} {n : Nat} {x : Int32} (hn : n < 2 ^ 31) : (inb x n → F_X11_in x 0 (nI n - 1) m = some (1, m)) ∧ (¬ inb x n → F_X11_in x 0 (nI n - 1) m = some (0, m)) := by
  cases n with
  | zero =>
    refine ⟨fun ⟨j, hj, _⟩ => by omega, fun _ => ?_⟩
    unfold F_X11_in
    by_cases h2 : x < 0
    · rw [if_pos h2]
    · rw [if_neg h2, if_pos]
      rw [Int32.lt_iff_toInt_lt] at h2 ⊢
      have e1 : (nI 0 - 1 : Int32).toInt = -1 := rfl
      have e2 : (0 : Int32).toInt = 0 := rfl
      omega
  | succ n => exact ⟨fun h => by rw [nI_pred]; exact pm_in_y (by omega) h, fun h => by rw [nI_pred]; exact pm_in_n (by omega) h⟩
theorem mx_st_y {m : pj_M} {n : Nat} {x : Int32} (hn : n < 2 ^ 31) (h : m.1 78 0 = nI n) (hx : inb x n) : F_X11_isState x m = some (1, m) := by
  unfold F_X11_isState
  rw [if_neg (by decide), c0, h, (pm_in1 hn).1 hx]
  rfl
theorem mx_st_n {m : pj_M} {n : Nat} {x : Int32} (hn : n < 2 ^ 31) (h : m.1 78 0 = nI n) (hx : ¬ inb x n) : F_X11_isState x m = some (0, m) := by
  unfold F_X11_isState
  rw [if_neg (by decide), c0, h, (pm_in1 hn).2 hx]
  rfl
theorem mx_ar_y {m : pj_M} {n : Nat} {x : Int32} (hn : n < 2 ^ 31) (h : m.1 78 1 = nI n) (hx : inb x n) : F_X11_isArc x m = some (1, m) := by
  unfold F_X11_isArc
  rw [if_neg (by decide), c1, h, (pm_in1 hn).1 hx]
  rfl
theorem mx_ar_n {m : pj_M} {n : Nat} {x : Int32} (hn : n < 2 ^ 31) (h : m.1 78 1 = nI n) (hx : ¬ inb x n) : F_X11_isArc x m = some (0, m) := by
  unfold F_X11_isArc
  rw [if_neg (by decide), c1, h, (pm_in1 hn).2 hx]
  rfl
theorem mx_let_y {m : pj_M} {x : Int32} (hx : inb x 4) : F_X11_isLetter x m = some (1, m) := by
  unfold F_X11_isLetter
  rw [show (3 : Int32) = nI 3 from rfl, pm_in_y (by decide) hx]
  rfl
theorem mx_let_n {m : pj_M} {x : Int32} (hx : ¬ inb x 4) : F_X11_isLetter x m = some (0, m) := by
  unfold F_X11_isLetter
  rw [show (3 : Int32) = nI 3 from rfl, pm_in_n (by decide) hx]
  rfl
theorem nx_kind {m : pj_M} {b s : Nat} (hs : s < 10) : F_X4_kindOf b (nI s) m = some (m.1 (b + 1) s, m) := by
  unfold F_X4_kindOf
  rw [if_neg (hn_in hs (by decide)), hn_cl (by omega)]
theorem nx_part {m : pj_M} {b a w : Nat} (ha : a < 20) (hw : w < 3) : F_X4_arcPart b (nI a) (nI w) m = some (m.1 (b + 2) (20 * w + a), m) := by
  unfold F_X4_arcPart
  rw [show (20 : Int32) = nI 20 from rfl, hn_mul, hn_add, if_neg (hn_in (by omega) (by decide)), hn_cl (by omega), Nat.mul_comm w 20]
theorem mx_kind {m : pj_M} {s : Nat} (hs : s < 10) : F_X11_kindIn (nI s) m = some (m.1 78 (2 + s), m) := by
  unfold F_X11_kindIn
  rw [show (2 : Int32) = nI 2 from rfl, hn_add, if_neg (hn_in (by omega) (by decide)), hn_cl (by omega)]
