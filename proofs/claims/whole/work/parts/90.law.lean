/-! PART 90: the law's loop answers 1 (to be proved: pure) -/
theorem law_ok : ∀ (L : Nat) (xs : Nat → Int32), L ≤ 3072 → ∃ m', H_L_law_18 L xs pj_z 0 m_init = some (1, m') := sorry
