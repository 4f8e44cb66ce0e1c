/-! PART 36: X's Steps.follow -/
theorem hx_zero {b nb : Nat} : ∀ (z i : Nat) (m : pj_M), i ≤ 40 → 40 - i < z → ∃ m', H_X7_follow_22 z b nb (nI i) m = H_X7_follow_46 pj_z b nb 0 m' ∧ fr [b + 1] m m' ∧ ∀ k, k < 40 → m'.1 (b + 1) k = if i ≤ k then 0 else m.1 (b + 1) k := by
  intro z
  induction z with
  | zero => intro i m hi hz; omega
  | succ z ih =>
    intro i m hi hz
    rw [H_X7_follow_22, show (Int32.ofNat 40) = nI 40 from rfl]
    by_cases h : i < 40
    · rw [if_pos (nI_lt h (by decide)), if_neg (hn_in h (by decide)), hn_cl (by omega), nI_1]
      obtain ⟨m', h1, h2, h3⟩ := ih (i + 1) (pj_wr m (b + 1) i 0) (by omega) (by omega)
      refine ⟨m', h1, (fr.wr _ _ (by simp) _ _).tr h2, fun k hk => ?_⟩
      rw [h3 k hk, hr_wr]
      by_cases hki : k = i
      · subst hki
        rw [if_neg (by omega), if_pos ⟨rfl, rfl⟩, if_pos (Nat.le_refl _)]
      · simp only [hki, and_false, if_false]
        by_cases h4 : i + 1 ≤ k
        · rw [if_pos h4, if_pos (by omega)]
        · rw [if_neg h4, if_neg (by omega)]
    · obtain rfl : i = 40 := by omega
      rw [if_neg (nI_nlt (by omega) (by decide))]
      exact ⟨m, rfl, fr.rf _ _, fun k hk => by rw [if_neg (by omega)]⟩
theorem hx_arcs {b nb : Nat} {S : sy} (hw : wfS S) (hne : nb ≠ b + 1 ∧ nb + 1 ≠ b + 1 ∧ nb + 2 ≠ b + 1) : ∀ (z j : Nat) (m : pj_M), j ≤ S.2.2.1 → S.2.2.1 - j < z → XN m nb S → GT m (b + 1) (goN S j) → ∃ m', H_X7_follow_46 z b nb (nI j) m = J_X7_follow_66 b m' ∧ fr [b + 1] m m' ∧ GT m' (b + 1) (go S) := by
  intro z
  induction z with
  | zero => intro j m hj hz; omega
  | succ z ih =>
    intro j m hj hz hn hg
    have hk20 := hw.2.1
    rw [H_X7_follow_46, show F_X4_arcTotal nb m = some (m.1 nb 3, m) from rfl, hn.2.1]
    simp only [Option.bind_some]
    by_cases h : j < S.2.2.1
    · rw [if_pos (nI_lt h (by omega))]
      obtain ⟨m1, h1, h2, h3⟩ := hx_open hw hn h hne hg
      rw [h1]
      simp only [Option.bind_some]
      rw [nI_1]
      have hn1 : XN m1 nb S := hn.keep (h2 _ (by simp; omega)).1 (h2 _ (by simp; omega)).1 (h2 _ (by simp; omega)).1
      obtain ⟨m', g1, g2, g3⟩ := ih (j + 1) m1 (by omega) (by omega) hn1 h3
      exact ⟨m', g1, h2.tr g2, g3⟩
    · obtain rfl : j = S.2.2.1 := by omega
      rw [if_neg (nI_nlt (by omega) (by omega))]
      exact ⟨m, rfl, fr.rf _ _, hg⟩
theorem itp_pow_lt {S : sy} (hw : wfS S) {s : Nat} (hs : s < 10) : cl0 S s < 2 ^ 10 := itp_lt (Nat.pow_lt_pow_right (by decide) hs) (fun i _ => go_lt10 hw 0 i) 10
theorem hx_csil {b : Nat} {S : sy} (hw : wfS S) : ∀ (z i : Nat) (m : pj_M), i ≤ 10 → 10 - i < z → GT m (b + 1) (go S) → (∀ k, k < i → m.1 (b + 2) k = nI (cl0 S k)) → ∃ m', H_X7_closeSilent_2 z b (nI i) m = some m' ∧ fr [b + 2] m m' ∧ ∀ k, k < 10 → m'.1 (b + 2) k = nI (cl0 S k) := by
  intro z
  induction z with
  | zero => intro i m hi hz; omega
  | succ z ih =>
    intro i m hi hz hg hc
    rw [H_X7_closeSilent_2, show (10 : Int32) = nI 10 from rfl]
    by_cases h : i < 10
    · have hs := px_silent (b := b) (j := i) (am := 1023) (x2 := -1) (f := go S 0) (m := m) h (fun i _ => go_lt10 hw 0 i) (fun k hk => by have := hg 0 k (by decide) hk; rw [Nat.mul_zero, Nat.zero_add] at this; exact this) am_neg
      rw [if_pos (nI_lt h (by decide)), hs]
      simp only [Option.bind_some]
      rw [if_neg (hn_in (by omega) (by decide)), hn_cl (by omega), nI_1]
      have hne : b + 1 ≠ b + 2 := by omega
      obtain ⟨m', g1, g2, g3⟩ := ih (i + 1) (pj_wr m (b + 2) i (nI (cl0 S i))) (by omega) (by omega) (fun a s ha hs => by rw [hr_wra hne]; exact hg a s ha hs) (fun k hk => by
        rw [hr_wr]
        by_cases hki : k = i
        · rw [if_pos ⟨rfl, hki⟩, hki]
        · rw [if_neg (fun q => hki q.2)]
          exact hc k (by omega))
      exact ⟨m', g1, (fr.wr _ _ (by simp) _ _).tr g2, g3⟩
    · obtain rfl : i = 10 := by omega
      rw [if_neg (nI_nlt (by omega) (by decide))]
      exact ⟨m, rfl, fr.rf _ _, hc⟩
theorem cl_0 (S : sy) (s : Nat) : cl S 0 s = cl0 S s := rfl
theorem hx_clet {b l : Nat} {S : sy} (hw : wfS S) (hl : 1 ≤ l ∧ l < 4) {k2 : Nat → Int32 → pj_M → Option pj_M} : ∀ (z i : Nat) (m : pj_M), i ≤ 10 → 10 - i < z → GT m (b + 1) (go S) → (∀ a s, a < 4 → s < 10 → a < l ∨ (a = l ∧ s < i) → m.1 (b + 2) (10 * a + s) = nI (cl S a s)) → ∃ m', H_X7_closeLetters_9 k2 z b (nI l) (nI i) m = k2 b (nI (l + 1)) m' ∧ fr [b + 2] m m' ∧ ∀ a s, a < 4 → s < 10 → a < l + 1 → m'.1 (b + 2) (10 * a + s) = nI (cl S a s) := by
  intro z
  induction z with
  | zero => intro i m hi hz; omega
  | succ z ih =>
    intro i m hi hz hg hc
    rw [H_X7_closeLetters_9, show (10 : Int32) = nI 10 from rfl]
    have hne : b + 1 ≠ b + 2 := by omega
    by_cases h : i < 10
    · have hci : m.1 (b + 2) i = nI (cl0 S i) := by
        have := hc 0 i (by decide) h (Or.inl (by omega))
        rw [Nat.mul_zero, Nat.zero_add] at this
        exact this
      have hlt := itp_pow_lt hw h
      have hu1 := px_union (n0 := 40) (a0 := b + 1) (l := l) (s := cl0 S i) (f := go S l) (m := m) (by omega) (by decide) (by omega) (fun k hk => hg l k hl.2 hk)
      have hu1 : F_X7_goneFrom b (nI l) (nI (cl0 S i)) m = some (nI (un (go S l) (cl0 S i) 10), m) := by
        unfold F_X7_goneFrom
        rw [hu1]
        rfl
      have hlt2 : un (go S l) (cl0 S i) 10 < 2 ^ 10 := un_lt 10 (fun k _ => go_lt10 hw l k)
      have hu2 := px_union (n0 := 40) (a0 := b + 2) (l := 0) (s := un (go S l) (cl0 S i) 10) (f := cl0 S) (m := m) (by decide) (by decide) (by omega) (fun k hk => hc 0 k (by decide) hk (Or.inl (by omega)))
      have hu2 : F_X7_union 40 (b + 2) 0 (nI (un (go S l) (cl0 S i) 10)) m = some (nI (un (cl0 S) (un (go S l) (cl0 S i) 10) 10), m) := hu2
      rw [if_pos (nI_lt h (by decide)), if_neg (hn_in (by omega) (by decide)), hn_cl (by omega), hci, hu1]
      simp only [Option.bind_some]
      rw [hu2]
      simp only [Option.bind_some]
      rw [hn_mul, hn_add, if_neg (hn_in (by omega) (by decide)), hn_cl (by omega), nI_1, Nat.mul_comm l 10]
      have ecl : un (cl0 S) (un (go S l) (cl0 S i) 10) 10 = cl S l i := by simp only [cl, if_neg (show ¬ l = 0 by omega)]
      rw [ecl]
      obtain ⟨m', g1, g2, g3⟩ := ih (i + 1) (pj_wr m (b + 2) (10 * l + i) (nI (cl S l i))) (by omega) (by omega) (fun a s ha hs => by rw [hr_wra hne]; exact hg a s ha hs) (fun a s ha hs has => by
        rw [hr_wr]
        by_cases hk : a = l ∧ s = i
        · obtain ⟨rfl, rfl⟩ := hk
          rw [if_pos ⟨rfl, rfl⟩]
        · rw [if_neg (by omega)]
          exact hc a s ha hs (by omega))
      exact ⟨m', g1, (fr.wr _ _ (by simp) _ _).tr g2, g3⟩
    · obtain rfl : i = 10 := by omega
      rw [if_neg (nI_nlt (by omega) (by decide)), nI_1]
      exact ⟨m, rfl, fr.rf _ _, fun a s ha hs hal => hc a s ha hs (by omega)⟩
