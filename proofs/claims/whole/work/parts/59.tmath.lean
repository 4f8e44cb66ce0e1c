/-! PART 59: what tells two apart: the reckoning behind it -/
theorem pij_some {S : sy} {q p t j r0 r : Nat} (h : pij S q p t j r0 = some r) : r0 ≤ r ∧ r ≤ r0 + j ∧ bl S q r p ≠ bl S q r t ∧ ∀ r', r0 ≤ r' → r' < r → bl S q r' p = bl S q r' t := by
  induction j generalizing r0 with
  | zero =>
    simp only [pij] at h
    split at h
    · cases h
    · rename_i h1
      obtain rfl := Option.some.inj h
      exact ⟨Nat.le_refl _, by omega, h1, fun r' a b => by omega⟩
  | succ j ih =>
    simp only [pij] at h
    split at h
    · rename_i h1
      obtain ⟨a1, a2, a3, a4⟩ := ih h
      refine ⟨by omega, by omega, a3, fun r' b1 b2 => ?_⟩
      by_cases hr : r' = r0
      · rw [hr]
        exact h1
      · exact a4 r' (by omega) b2
    · rename_i h1
      obtain rfl := Option.some.inj h
      exact ⟨Nat.le_refl _, by omega, h1, fun r' a b => by omega⟩
theorem pij_none {S : sy} {q p t j r0 : Nat} (h : pij S q p t j r0 = none) : ∀ r, r0 ≤ r → r ≤ r0 + j → bl S q r p = bl S q r t := by
  induction j generalizing r0 with
  | zero =>
    simp only [pij] at h
    split at h
    · rename_i h1
      intro r a b
      obtain rfl : r = r0 := by omega
      exact h1
    · cases h
  | succ j ih =>
    simp only [pij] at h
    split at h
    · rename_i h1
      intro r a b
      by_cases hr : r = r0
      · rw [hr]
        exact h1
      · exact ih h r (by omega) (by omega)
    · cases h
theorem pin_some {S : sy} {q p t r : Nat} (h : pin S q p t = some r) : r ≤ rd S q ∧ bl S q r p ≠ bl S q r t ∧ ∀ r', r' < r → bl S q r' p = bl S q r' t := by
  obtain ⟨a1, a2, a3, a4⟩ := pij_some h
  exact ⟨by omega, a3, fun r' hr => a4 r' (Nat.zero_le _) hr⟩
theorem pin_le {S : sy} {q p t ρ : Nat} (hρ : ρ ≤ rd S q) (h : bl S q ρ p ≠ bl S q ρ t) : ∃ r, pin S q p t = some r ∧ r ≤ ρ := by
  cases hp : pin S q p t with
  | none => exact absurd (pij_none hp ρ (Nat.zero_le _) (by omega)) h
  | some r =>
    refine ⟨r, rfl, ?_⟩
    rcases Nat.lt_or_ge ρ r with h1 | h1
    · exact absurd ((pin_some hp).2.2 ρ h1) h
    · exact h1
theorem pin_ne {S : sy} {q p t r ρ : Nat} (h : pin S q p t = some r) (hr : r ≤ ρ) : bl S q ρ p ≠ bl S q ρ t := bl_fine' hr (pin_some h).2.1
theorem pij_symm (S : sy) (q p t j r : Nat) : pij S q p t j r = pij S q t p j r := by
  induction j generalizing r with
  | zero =>
    simp only [pij]
    by_cases h : bl S q r p = bl S q r t
    · rw [if_pos h, if_pos h.symm]
    · rw [if_neg h, if_neg (fun e => h e.symm)]
  | succ j ih =>
    simp only [pij, ih]
    by_cases h : bl S q r p = bl S q r t
    · rw [if_pos h, if_pos h.symm]
    · rw [if_neg h, if_neg (fun e => h e.symm)]
theorem pin_symm (S : sy) (q p t : Nat) : pin S q p t = pin S q t p := pij_symm S q p t _ 0
theorem fdj_some {p : Nat → Bool} {n j k : Nat} (hj : j ≤ n) (h : fdj p n j = some k) : n - j ≤ k ∧ k < n ∧ p k = true ∧ ∀ i, n - j ≤ i → i < k → p i = false := by
  induction j with
  | zero => cases h
  | succ j ih =>
    simp only [fdj] at h
    by_cases hp : p (n - (j + 1)) = true
    · rw [if_pos hp] at h
      obtain rfl := Option.some.inj h
      exact ⟨Nat.le_refl _, by omega, hp, fun i a b => by omega⟩
    · rw [if_neg hp] at h
      obtain ⟨a1, a2, a3, a4⟩ := ih (by omega) h
      refine ⟨by omega, a2, a3, fun i b1 b2 => ?_⟩
      by_cases hi : i = n - (j + 1)
      · rw [hi]
        simpa using hp
      · exact a4 i (by omega) b2
theorem fdj_none {p : Nat → Bool} {n j : Nat} (hj : j ≤ n) (h : fdj p n j = none) : ∀ i, n - j ≤ i → i < n → p i = false := by
  induction j with
  | zero => intro i a b; omega
  | succ j ih =>
    simp only [fdj] at h
    by_cases hp : p (n - (j + 1)) = true
    · rw [if_pos hp] at h
      cases h
    · rw [if_neg hp] at h
      intro i b1 b2
      by_cases hi : i = n - (j + 1)
      · rw [hi]
        simpa using hp
      · exact ih (by omega) h i (by omega) b2
theorem fd_some {p : Nat → Bool} {n k : Nat} (h : fd p n = some k) : k < n ∧ p k = true ∧ ∀ i, i < k → p i = false := by
  obtain ⟨a1, a2, a3, a4⟩ := fdj_some (Nat.le_refl _) h
  exact ⟨a2, a3, fun i hi => a4 i (by omega) hi⟩
theorem fd_none {p : Nat → Bool} {n : Nat} (h : fd p n = none) : ∀ i, i < n → p i = false := fun i hi => fdj_none (Nat.le_refl _) h i (by omega) hi
/-- if all letters' blocks are the same, so are the signs -/
theorem sgl_eq {S : sy} {q : Nat} {f : Nat → Nat} {p t : Nat} (hq : q < 2) (h : ∀ a, a < 4 → bo f (mv S q a p) S.1 = bo f (mv S q a t) S.1) (j : Nat) (hj : j ≤ 4) : sgl S q f p j = sgl S q f t j := by
  induction j with
  | zero => rfl
  | succ j ih =>
    have e : ∀ s, sgs S q f s j = mv S q j s := fun s => by
      unfold sgs
      rw [if_neg (by omega)]
    simp only [sgl, ih (by omega), e, h j (by omega)]
theorem LC_iff {S : sy} {q r p t k : Nat} : LC S q r p t k = true ↔ (mv S q (k / 10) p).testBit (k % 10) = true ∧ ∀ u, u < S.1 → (mv S q (k / 10) t).testBit u = true → bl S q r u ≠ bl S q r (k % 10) := by
  unfold LC
  rw [Bool.and_eq_true, Bool.not_eq_true']
  constructor
  · rintro ⟨h1, h2⟩
    refine ⟨h1, fun u hu hb e => ?_⟩
    have : (bo (bl S q r) (mv S q (k / 10) t) S.1).testBit (bl S q r (k % 10)) = true := bo_tb.mpr ⟨u, hu, hb, e⟩
    rw [h2] at this
    cases this
  · rintro ⟨h1, h2⟩
    refine ⟨h1, ?_⟩
    cases hb : (bo (bl S q r) (mv S q (k / 10) t) S.1).testBit (bl S q r (k % 10)) with
    | false => rfl
    | true =>
      obtain ⟨u, hu, h3, h4⟩ := bo_tb.mp hb
      exact absurd h4 (h2 u hu h3)
/-- with a lead the signs differ -/
theorem LC_sgn {S : sy} {q r p t k : Nat} (hw : wfS S) (hq : q < 2) (hp : p < S.1) (hk : k < 40) (h : LC S q r p t k = true) : bl S q (r + 1) p ≠ bl S q (r + 1) t := by
  intro e
  have e1 := bk_iff.mp e
  have e2 : sgn S q (bl S q r) p = sgn S q (bl S q r) t := (Prod.mk.inj e1).1
  unfold sgn at e2
  rw [if_neg (by omega), if_neg (by omega)] at e2
  obtain ⟨h1, h2⟩ := LC_iff.mp h
  have hs := tb_lt (mv_lt hw q (k / 10) hp) h1
  have w1 := hw.1
  have tb : ∀ x a b, a < 4 → b < 10 → ((sgl S q (bl S q r) x 4).testBit (10 * a + b) = true ↔ (bo (bl S q r) (mv S q a x) S.1).testBit b = true) := by
    intro x a b ha hb
    have key : ∀ j, j ≤ 4 → ((sgl S q (bl S q r) x j).testBit (10 * a + b) = true ↔ a < j ∧ (bo (bl S q r) (mv S q a x) S.1).testBit b = true) := by
      intro j
      induction j with
      | zero => intro _; simp [sgl]
      | succ j ih =>
        intro hj
        have e : sgs S q (bl S q r) x j = mv S q j x := by
          unfold sgs
          rw [if_neg (by omega)]
        simp only [sgl, Nat.testBit_or, Bool.or_eq_true, ih (by omega), e]
        have hbo : bo (bl S q r) (mv S q j x) S.1 < 2 ^ 10 := bo_lt (bl_10 hw q r)
        rw [← Nat.shiftLeft_eq, Nat.testBit_shiftLeft]
        simp only [Bool.and_eq_true, decide_eq_true_eq]
        constructor
        · rintro (⟨h1, h2⟩ | ⟨h1, h2⟩)
          · exact ⟨by omega, h2⟩
          · have h3 := tb_lt hbo h2
            obtain rfl : a = j := by omega
            rw [show 10 * a + b - 10 * a = b by omega] at h2
            exact ⟨by omega, h2⟩
        · rintro ⟨h1, h2⟩
          by_cases haj : a = j
          · subst haj
            refine Or.inr ⟨by omega, ?_⟩
            rw [show 10 * a + b - 10 * a = b by omega]
            exact h2
          · exact Or.inl ⟨by omega, h2⟩
    rw [key 4 (Nat.le_refl _)]
    exact ⟨fun h => h.2, fun h => ⟨ha, h⟩⟩
  have hb10 := bl_10 hw q r (k % 10) hs
  have g1 := (tb p (k / 10) (bl S q r (k % 10)) (by omega) hb10).mpr (bo_tb.mpr ⟨k % 10, hs, h1, rfl⟩)
  rw [e2] at g1
  obtain ⟨u, hu, h3, h4⟩ := bo_tb.mp ((tb t (k / 10) _ (by omega) hb10).mp g1)
  exact h2 u hu h3 h4
theorem lead_ex {S : sy} {q r p t : Nat} (hw : wfS S) (hq : q < 2) (hp : p < S.1) (ht : t < S.1) (h : pin S q p t = some (r + 1)) (h1 : fd (LC S q r p t) 40 = none) : ∃ k, fd (LC S q r t p) 40 = some k := by
  cases h2 : fd (LC S q r t p) 40 with
  | some k => exact ⟨k, rfl⟩
  | none =>
    exfalso
    obtain ⟨a1, a2, a3⟩ := pin_some h
    refine a2 (bk_iff.mpr (Prod.ext ?_ (a3 r (by omega))))
    show sgn S q (bl S q r) p = sgn S q (bl S q r) t
    unfold sgn
    rw [if_neg (by omega), if_neg (by omega)]
    refine sgl_eq hq (fun a ha => ext_tb (fun b => ?_)) 4 (Nat.le_refl _)
    have one : ∀ x y, x < S.1 → fd (LC S q r x y) 40 = none → (bo (bl S q r) (mv S q a x) S.1).testBit b = true → (bo (bl S q r) (mv S q a y) S.1).testBit b = true := by
      intro x y hx hn hb
      obtain ⟨u, hu, hb1, hb2⟩ := bo_tb.mp hb
      have w1 := hw.1
      have hl := fd_none hn (10 * a + u) (by omega)
      cases hc : (bo (bl S q r) (mv S q a y) S.1).testBit b with
      | true => rfl
      | false =>
        exfalso
        have : LC S q r x y (10 * a + u) = true := by
          unfold LC
          rw [show (10 * a + u) / 10 = a by omega, show (10 * a + u) % 10 = u by omega, hb1, hb2, hc]
          rfl
        rw [this] at hl
        cases hl
    exact ⟨one p t hp h1, one t p ht h2⟩
/-- members of the second's moves are parted from the lead earlier -/
theorem lead_pin {S : sy} {q r p t k : Nat} (hr : r ≤ rd S q) (h : fd (LC S q r p t) 40 = some k) {u : Nat} (hu : u < S.1) (hb : (mv S q (k / 10) t).testBit u = true) : ∃ r', pin S q (k % 10) u = some r' ∧ r' ≤ r := by
  obtain ⟨h1, h2⟩ := LC_iff.mp (fd_some h).2.1
  exact pin_le hr (fun e => h2 u hu hb e.symm)
theorem lead_lt {S : sy} {q r p t k : Nat} (hw : wfS S) (hp : p < S.1) (h : fd (LC S q r p t) 40 = some k) : k < 40 ∧ k % 10 < S.1 := by
  obtain ⟨h1, h2⟩ := LC_iff.mp (fd_some h).2.1
  exact ⟨(fd_some h).1, tb_lt (mv_lt hw q (k / 10) hp) h1⟩
/-- one of them is parted in just the round before -/
theorem lead_max {S : sy} {q r p t k : Nat} (hw : wfS S) (hq : q < 2) (hp : p < S.1) (hpin : pin S q p t = some (r + 2)) (h : fd (LC S q (r + 1) p t) 40 = some k) : ∃ u, u < S.1 ∧ (mv S q (k / 10) t).testBit u = true ∧ pin S q (k % 10) u = some (r + 1) := by
  refine Classical.byContradiction (fun hc => ?_)
  have hrd := (pin_some hpin).1
  obtain ⟨h1, h2⟩ := LC_iff.mp (fd_some h).2.1
  have : LC S q r p t k = true := by
    refine LC_iff.mpr ⟨h1, fun u hu hb e => ?_⟩
    obtain ⟨r', g1, g2⟩ := lead_pin (r := r + 1) (by omega) h hu hb
    by_cases hr : r' = r + 1
    · exact hc ⟨u, hu, hb, by rw [g1, hr]⟩
    · exact pin_ne g1 (show r' ≤ r by omega) e.symm
  exact LC_sgn hw hq hp (fd_some h).1 this ((pin_some hpin).2.2 (r + 1) (by omega))
theorem sgm_congr {f g : Nat → Nat} {s n : Nat} (h : ∀ i, i < n → s.testBit i = true → f i = g i) : sgm f s n = sgm g s n := by
  induction n with
  | zero => rfl
  | succ n ih =>
    simp only [sgm, ih (fun i hi => h i (by omega))]
    by_cases hb : s.testBit n = true
    · rw [if_pos hb, if_pos hb, h n (by omega) hb]
    · rw [if_neg hb, if_neg hb]
theorem sgm_le {f : Nat → Nat} {s B : Nat} (n : Nat) (h : ∀ i, i < n → s.testBit i = true → f i ≤ B) : sgm f s n ≤ n * B := by
  induction n with
  | zero => simp [sgm]
  | succ n ih =>
    simp only [sgm]
    have := ih (fun i hi => h i (by omega))
    rw [Nat.succ_mul]
    by_cases hb : s.testBit n = true
    · rw [if_pos hb]
      have := h n (by omega) hb
      omega
    · rw [if_neg hb]
      omega
theorem sgm_stop {f : Nat → Nat} {s n m : Nat} (hs : s < 2 ^ n) (hm : n ≤ m) : sgm f s m = sgm f s n := by
  induction m with
  | zero =>
    obtain rfl : n = 0 := by omega
    rfl
  | succ m ih =>
    rcases Nat.lt_or_ge m n with h1 | h1
    · obtain rfl : n = m + 1 := by omega
      rfl
    · have hb : s.testBit m = false := Nat.testBit_lt_two_pow (Nat.lt_of_lt_of_le hs (Nat.pow_le_pow_right (by decide) h1))
      simp only [sgm, ih h1, hb, Bool.false_eq_true, if_false, Nat.add_zero]
theorem sgm_mono {f : Nat → Nat} {s a b : Nat} (h : a ≤ b) : sgm f s a ≤ sgm f s b := by
  induction b with
  | zero =>
    obtain rfl : a = 0 := by omega
    exact Nat.le_refl _
  | succ b ih =>
    rcases Nat.lt_or_ge b a with h1 | h1
    · obtain rfl : a = b + 1 := by omega
      exact Nat.le_refl _
    · have := ih h1
      simp only [sgm]
      omega
theorem szr_stable {S : sy} {q p t r : Nat} (h : pin S q p t = some r) (r' : Nat) (hr : r + 1 ≤ r') : szr S q r' p t = szr S q (r + 1) p t := by
  induction r' with
  | zero => omega
  | succ r' ih =>
    rcases Nat.lt_or_ge r' (r + 1) with h1 | h1
    · obtain rfl : r' = r := by omega
      rfl
    · have e : ¬ pin S q p t = some r' := fun e => by
        rw [h] at e
        have := Option.some.inj e
        omega
      have : szr S q (r' + 1) p t = szr S q r' p t := by
        simp only [szr]
        rw [if_neg e]
      rw [this, ih h1]
theorem FZ_szr {S : sy} (hw : wfS S) {q p t r r' : Nat} (h : pin S q p t = some r) (hr : r < r') : szr S q r' p t = FZ S q p t := by
  have h9 := rd_le9 hw q
  have hrd := (pin_some h).1
  unfold FZ
  rw [szr_stable h r' (by omega), szr_stable h 10 (by omega)]
theorem FZ_0 {S : sy} (hw : wfS S) {q p t : Nat} (h : pin S q p t = some 0) : FZ S q p t = if mkb S p then 1 else 2 := by
  rw [← FZ_szr hw h (r' := 1) (by omega)]
  simp only [szr, h, if_true]
theorem FZ_lead {S : sy} (hw : wfS S) {q p t r k : Nat} (hp : p < S.1) (ht : t < S.1) (h : pin S q p t = some (r + 1)) (hk : fd (LC S q r p t) 40 = some k) : FZ S q p t = 2 + sgm (FZ S q (k % 10)) (mv S q (k / 10) t) 10 := by
  have hrd := (pin_some h).1
  have hmv := mv_lt hw q (k / 10) ht
  rw [← FZ_szr hw h (r' := r + 2) (by omega)]
  have e : szr S q (r + 2) p t = 2 + sgm (szr S q (r + 1) (k % 10)) (mv S q (k / 10) t) 10 := by
    show (if pin S q p t = some (r + 1) then _ else _) = _
    rw [if_pos h, if_neg (by omega)]
    simp only [Nat.add_sub_cancel, hk]
  rw [e]
  congr 1
  refine sgm_congr (fun u hu hb => ?_)
  obtain ⟨r', g1, g2⟩ := lead_pin (by omega) hk (tb_lt hmv hb) hb
  exact FZ_szr hw g1 (by omega)
theorem FZ_turn {S : sy} (hw : wfS S) {q p t r : Nat} (hq : q < 2) (hp : p < S.1) (ht : t < S.1) (h : pin S q p t = some (r + 1)) (hk : fd (LC S q r p t) 40 = none) : FZ S q p t = 1 + FZ S q t p := by
  obtain ⟨k, hk2⟩ := lead_ex hw hq hp ht h hk
  have h' : pin S q t p = some (r + 1) := by rw [pin_symm]; exact h
  have hrd := (pin_some h).1
  have hmv := mv_lt hw q (k / 10) hp
  rw [FZ_lead hw ht hp h' hk2, ← FZ_szr hw h (r' := r + 2) (by omega)]
  have e : szr S q (r + 2) p t = 3 + sgm (szr S q (r + 1) (k % 10)) (mv S q (k / 10) p) 10 := by
    show (if pin S q p t = some (r + 1) then _ else _) = _
    rw [if_pos h, if_neg (by omega)]
    simp only [Nat.add_sub_cancel, hk, hk2]
  rw [e, ← Nat.add_assoc]
  congr 1
  refine sgm_congr (fun u hu hb => ?_)
  obtain ⟨r', g1, g2⟩ := lead_pin (by omega) hk2 (tb_lt hmv hb) hb
  exact FZ_szr hw g1 (by omega)
theorem FZ_bound {S : sy} (hw : wfS S) {q : Nat} (hq : q < 2) (r : Nat) : ∀ p t, p < S.1 → t < S.1 → ∀ r', r' ≤ r → pin S q p t = some r' → 1 ≤ FZ S q p t ∧ FZ S q p t ≤ 3 * 12 ^ r := by
  induction r with
  | zero =>
    intro p t hp ht r' hr h
    obtain rfl : r' = 0 := by omega
    rw [FZ_0 hw h]
    split <;> simp
  | succ r ih =>
    intro p t hp ht r' hr h
    have hpow : 12 ^ (r + 1) = 12 * 12 ^ r := by rw [Nat.pow_succ, Nat.mul_comm]
    have hpos : 1 ≤ 12 ^ r := Nat.pow_pos (by decide)
    have lead : ∀ p t k r', p < S.1 → t < S.1 → r' ≤ r → pin S q p t = some (r' + 1) → fd (LC S q r' p t) 40 = some k → 1 ≤ FZ S q p t ∧ FZ S q p t ≤ 2 + 10 * (3 * 12 ^ r) := by
      intro p t k r' hp ht hr h hk
      rw [FZ_lead hw hp ht h hk]
      have hrd := (pin_some h).1
      have hmv := mv_lt hw q (k / 10) ht
      have := sgm_le (f := FZ S q (k % 10)) (s := mv S q (k / 10) t) (B := 3 * 12 ^ r) 10 (fun u hu hb => by
        obtain ⟨r2, g1, g2⟩ := lead_pin (by omega) hk (tb_lt hmv hb) hb
        exact (ih _ _ (lead_lt hw hp hk).2 (tb_lt hmv hb) r2 (by omega) g1).2)
      omega
    cases r' with
    | zero =>
      have := ih p t hp ht 0 (Nat.zero_le _) h
      omega
    | succ r' =>
      cases hk : fd (LC S q r' p t) 40 with
      | some k =>
        have := lead p t k r' hp ht (by omega) h hk
        omega
      | none =>
        obtain ⟨k, hk2⟩ := lead_ex hw hq hp ht h hk
        have h' : pin S q t p = some (r' + 1) := by rw [pin_symm]; exact h
        have := lead t p k r' ht hp (by omega) h' hk2
        rw [FZ_turn hw hq hp ht h hk]
        omega
theorem FZ_lt {S : sy} (hw : wfS S) {q p t r : Nat} (hq : q < 2) (hp : p < S.1) (ht : t < S.1) (h : pin S q p t = some r) : 1 ≤ FZ S q p t ∧ FZ S q p t < 2 ^ 40 := by
  have h9 := rd_le9 hw q
  have hrd := (pin_some h).1
  have := FZ_bound hw hq 9 p t hp ht r (by omega) h
  have e : (3 : Nat) * 12 ^ 9 < 2 ^ 40 := by decide
  omega
