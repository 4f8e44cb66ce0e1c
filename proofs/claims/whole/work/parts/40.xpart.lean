/-! PART 40: X's Parting -/
/-- only a stretch of one row of ints has changed -/
def fw (B lo hi : Nat) (m m' : pj_M) : Prop := m'.2 = m.2 ∧ ∀ a k, ¬ (a = B ∧ lo ≤ k ∧ k < hi) → m'.1 a k = m.1 a k
theorem fw.rf (B lo hi : Nat) (m : pj_M) : fw B lo hi m m := ⟨rfl, fun _ _ _ => rfl⟩
theorem fw.tr {B lo hi : Nat} {m m1 m2 : pj_M} (h1 : fw B lo hi m m1) (h2 : fw B lo hi m1 m2) : fw B lo hi m m2 := ⟨h2.1.trans h1.1, fun a k h => (h2.2 a k h).trans (h1.2 a k h)⟩
theorem fw.wr {B lo hi : Nat} (m : pj_M) {k : Nat} (h1 : lo ≤ k) (h2 : k < hi) (v : Int32) : fw B lo hi m (pj_wr m B k v) := ⟨rfl, fun a j h => by
  rw [hr_wr, if_neg (fun e => h ⟨e.1, by omega, by omega⟩)]⟩
theorem fw.fr {B lo hi : Nat} {m m' : pj_M} (h : fw B lo hi m m') {l : List Nat} (hB : B ∈ l) : fr l m m' := fun a ha => ⟨funext fun k => h.2 a k (fun e => ha (e.1 ▸ hB)), by rw [h.1]⟩
theorem fw.at {B lo hi : Nat} {m m' : pj_M} (h : fw B lo hi m m') {a : Nat} (ha : a ≠ B) : m'.1 a = m.1 a := funext fun k => h.2 a k (fun e => ha e.1)
/-- keys as they lie in memory: signs in G, blocks in B -/
def KM (m : pj_M) (G B ρ n : Nat) (κ : Nat → Nat × Nat) : Prop := ∀ k, k < n → m.2 G k = lN (κ k).1 ∧ (κ k).1 < 2 ^ 63 ∧ (κ k).2 < 2 ^ 31 ∧ (ρ = 0 → (κ k).2 = 0) ∧ (0 < ρ → m.1 B (10 * (ρ - 1) + k) = nI (κ k).2)
theorem KM.eq0 {m : pj_M} {G B n : Nat} {κ : Nat → Nat × Nat} (h : KM m G B 0 n κ) {k s : Nat} (hk : k < n) (hs : s < n) : (κ k = κ s) = ((κ k).1 = (κ s).1) := by
  refine propext ⟨fun e => by rw [e], fun e => ?_⟩
  exact Prod.ext e (by rw [(h k hk).2.2.2.1 rfl, (h s hs).2.2.2.1 rfl])
theorem pr_eq {p q : Nat × Nat} : (p = q) = (p.2 = q.2 ∧ p.1 = q.1) := propext ⟨fun e => by rw [e]; exact ⟨rfl, rfl⟩, fun e => Prod.ext e.2 e.1⟩
theorem lkj_step {κ : Nat → Nat × Nat} {s i : Nat} (hi : i < s) : lkj κ s (s - i) = if κ i = κ s then i else lkj κ s (s - (i + 1)) := by
  obtain ⟨d, hd⟩ : ∃ d, s - i = d + 1 := ⟨s - i - 1, by omega⟩
  rw [hd]
  simp only [lkj]
  rw [show s - (d + 1) = i by omega, show s - (i + 1) = d by omega]
theorem px_bb {m : pj_M} {P r s : Nat} (hr : r < 11) (hs : s < 10) : F_X5_blockBehind P (nI r) (nI s) m = some (m.1 (P + 1) (10 * r + s), m) := by
  unfold F_X5_blockBehind
  simp (disch := omega) only [Option.bind_some, ofn, l0, l1, l2, l3, l4, l5, l6, l7, l8, l9, l10, l11, l12, l19, l20, l30, l31, l40, l72, l100, hn_mul, hn_add, hn_sub, hn_or, hn_and, sh_r, sh_l, bt_n, bt_0, bt_1, hn_cl, if_true, if_false, ↓reduceIte, hn_lt, hn_le, hn_eq, ne_1, ne_m, lt_t, lt_f, le_t, le_f, eq_t, eq_f, Nat.not_lt_zero, false_or, or_false, or_self, false_and, and_false, true_and, and_true, not_true, not_false_iff]
  rw [Nat.mul_comm]
theorem px_first {m : pj_M} {P ρ n s : Nat} {κ : Nat → Nat × Nat} (hn : n ≤ 10) (hρ : ρ < 11) (hk : KM m (P + 2) (P + 1) ρ n κ) (hs : s < n) : F_X5_firstLike P (nI ρ) (nI s) m = some (nI (lk κ s), m) := by
  refine lp0 (P := fun z i => H_X5_firstLike_2 z P (nI ρ) (nI s) (nI i) m = some (nI (lkj κ s (s - i)), m)) s (by omega) ?_ ?_
  · intro z
    rw [H_X5_firstLike_2, Nat.sub_self]
    simp (disch := omega) only [Option.bind_some, ofn, l0, l1, l2, l3, l4, l5, l6, l7, l8, l9, l10, l11, l12, l19, l20, l30, l31, l40, l72, l100, hn_mul, hn_add, hn_sub, hn_or, hn_and, sh_r, sh_l, bt_n, bt_0, bt_1, hn_cl, if_true, if_false, ↓reduceIte, hn_lt, hn_le, hn_eq, ne_1, ne_m, lt_t, lt_f, le_t, le_f, eq_t, eq_f, Nat.not_lt_zero, false_or, or_false, or_self, false_and, and_false, true_and, and_true, not_true, not_false_iff, lkj]
  · intro z i hi ih
    rw [H_X5_firstLike_2, lkj_step hi]
    obtain ⟨a1, a2, a3, a4, a5⟩ := hk i (by omega)
    obtain ⟨b1, b2, b3, b4, b5⟩ := hk s hs
    rcases Nat.eq_zero_or_pos ρ with h0 | h0
    · subst h0
      have e := hk.eq0 (k := i) (s := s) (by omega) hs
      unfold J_X5_firstLike_35
      simp (disch := omega) only [Option.bind_some, ofn, l0, l1, l2, l3, l4, l5, l6, l7, l8, l9, l10, l11, l12, l19, l20, l30, l31, l40, l72, l100, hn_mul, hn_add, hn_sub, hn_or, hn_and, sh_r, sh_l, bt_n, bt_0, bt_1, hn_cl, if_true, if_false, ↓reduceIte, hn_lt, hn_le, hn_eq, ne_1, ne_m, lt_t, lt_f, le_t, le_f, eq_t, eq_f, Nat.not_lt_zero, false_or, or_false, or_self, false_and, and_false, true_and, and_true, not_true, not_false_iff, a1, b1, ll_cmp, e]
      split
      · rfl
      · exact ih
    · have e1 := px_bb (m := m) (P := P) (r := ρ - 1) (s := i) (by omega) (by omega)
      have e2 := px_bb (m := m) (P := P) (r := ρ - 1) (s := s) (by omega) (by omega)
      rw [a5 h0] at e1
      rw [b5 h0] at e2
      unfold J_X5_firstLike_35
      simp (disch := omega) only [Option.bind_some, ofn, l0, l1, l2, l3, l4, l5, l6, l7, l8, l9, l10, l11, l12, l19, l20, l30, l31, l40, l72, l100, hn_mul, hn_add, hn_sub, hn_or, hn_and, sh_r, sh_l, bt_n, bt_0, bt_1, hn_cl, if_true, if_false, ↓reduceIte, hn_lt, hn_le, hn_eq, ne_1, ne_m, lt_t, lt_f, le_t, le_f, eq_t, eq_f, Nat.not_lt_zero, false_or, or_false, or_self, false_and, and_false, true_and, and_true, not_true, not_false_iff, a1, b1, ll_cmp, e1, e2, pr_eq]
      by_cases h1 : (κ i).2 = (κ s).2
      · simp (disch := omega) only [Option.bind_some, ofn, l0, l1, l2, l3, l4, l5, l6, l7, l8, l9, l10, l11, l12, l19, l20, l30, l31, l40, l72, l100, hn_mul, hn_add, hn_sub, hn_or, hn_and, sh_r, sh_l, bt_n, bt_0, bt_1, hn_cl, if_true, if_false, ↓reduceIte, hn_lt, hn_le, hn_eq, ne_1, ne_m, lt_t, lt_f, le_t, le_f, eq_t, eq_f, Nat.not_lt_zero, false_or, or_false, or_self, false_and, and_false, true_and, and_true, not_true, not_false_iff, h1]
        split
        · rfl
        · exact ih
      · simp (disch := omega) only [Option.bind_some, ofn, l0, l1, l2, l3, l4, l5, l6, l7, l8, l9, l10, l11, l12, l19, l20, l30, l31, l40, l72, l100, hn_mul, hn_add, hn_sub, hn_or, hn_and, sh_r, sh_l, bt_n, bt_0, bt_1, hn_cl, if_true, if_false, ↓reduceIte, hn_lt, hn_le, hn_eq, ne_1, ne_m, lt_t, lt_f, le_t, le_f, eq_t, eq_f, Nat.not_lt_zero, false_or, or_false, or_self, false_and, and_false, true_and, and_true, not_true, not_false_iff, h1]
        exact ih
theorem KM.keep {m m' : pj_M} {G B ρ n s lo hi : Nat} {κ : Nat → Nat × Nat} (h : KM m G B ρ n κ) (hn : n ≤ 10) (hf : fw B lo hi m m') (hlo : 10 * ρ ≤ lo) : KM m' G B ρ n κ := by
  intro k hk
  obtain ⟨a1, a2, a3, a4, a5⟩ := h k hk
  refine ⟨by rw [hf.1]; exact a1, a2, a3, a4, fun h0 => ?_⟩
  rw [hf.2 _ _ (by omega)]
  exact a5 h0
theorem px_number {m : pj_M} {P ρ n : Nat} {κ : Nat → Nat × Nat} (hn : n ≤ 10) (hρ : ρ < 11) (h3 : m.1 P 3 = nI n) (hk : KM m (P + 2) (P + 1) ρ n κ) : ∃ m', F_X5_numberBlocks P (nI ρ) m = some (nI (cn κ n), m') ∧ fw (P + 1) (10 * ρ) (10 * ρ + 10) m m' ∧ ∀ s, s < n → m'.1 (P + 1) (10 * ρ + s) = nI (bk κ s) := by
  refine lp0 (P := fun z s => ∀ m, m.1 P 3 = nI n → KM m (P + 2) (P + 1) ρ n κ → (∀ t, t < s → m.1 (P + 1) (10 * ρ + t) = nI (bk κ t)) → ∃ m', H_X5_numberBlocks_4 z P (nI ρ) (nI (cn κ s)) (nI s) m = some (nI (cn κ n), m') ∧ fw (P + 1) (10 * ρ) (10 * ρ + 10) m m' ∧ ∀ s, s < n → m'.1 (P + 1) (10 * ρ + s) = nI (bk κ s)) n (by omega) ?_ ?_ m h3 hk (fun t ht => by omega)
  · intro z m h3 hk hb
    refine ⟨m, ?_, fw.rf _ _ _ _, hb⟩
    rw [H_X5_numberBlocks_4, h3]
    simp (disch := omega) only [Option.bind_some, ofn, l0, l1, l2, l3, l4, l5, l6, l7, l8, l9, l10, l11, l12, l19, l20, l30, l31, l40, l72, l100, hn_mul, hn_add, hn_sub, hn_or, hn_and, sh_r, sh_l, bt_n, bt_0, bt_1, hn_cl, if_true, if_false, ↓reduceIte, hn_lt, hn_le, hn_eq, ne_1, ne_m, lt_t, lt_f, le_t, le_f, eq_t, eq_f, Nat.not_lt_zero, false_or, or_false, or_self, false_and, and_false, true_and, and_true, not_true, not_false_iff]
  · intro z s hs ih m h3 hk hb
    have hf := fw.wr (B := P + 1) (lo := 10 * ρ) (hi := 10 * ρ + 10) m (k := 10 * ρ + s) (by omega) (by omega) (nI (bk κ s))
    obtain ⟨m', g1, g2, g3⟩ := ih (pj_wr m (P + 1) (10 * ρ + s) (nI (bk κ s))) (by rw [hr_wra (by omega)]; exact h3) (hk.keep (s := s) hn hf (Nat.le_refl _)) (fun t ht => by
      rw [hr_wr]
      by_cases hts : t = s
      · rw [if_pos ⟨rfl, by omega⟩, hts]
      · rw [if_neg (by omega)]
        exact hb t (by omega))
    refine ⟨m', ?_, hf.tr g2, g3⟩
    have hc := cn_le κ s
    have hl := lk_le κ s
    rw [H_X5_numberBlocks_4, h3]
    have e0 := px_first hn hρ hk hs
    by_cases h1 : lk κ s < s
    · have e1 := px_bb (m := m) (P := P) (r := ρ) (s := lk κ s) (by omega) (by omega)
      rw [hb _ h1, bk_lk] at e1
      have hlt : bk κ s < cn κ s := by
        have := bk_lt κ h1
        rw [bk_lk] at this
        exact this
      have ec : cn κ (s + 1) = cn κ s := by
        simp only [cn]
        rw [if_neg (by omega)]
        rfl
      rw [ec] at g1
      simp (disch := omega) only [Option.bind_some, ofn, l0, l1, l2, l3, l4, l5, l6, l7, l8, l9, l10, l11, l12, l19, l20, l30, l31, l40, l72, l100, hn_mul, hn_add, hn_sub, hn_or, hn_and, sh_r, sh_l, bt_n, bt_0, bt_1, hn_cl, if_true, if_false, ↓reduceIte, hn_lt, hn_le, hn_eq, ne_1, ne_m, lt_t, lt_f, le_t, le_f, eq_t, eq_f, Nat.not_lt_zero, false_or, or_false, or_self, false_and, and_false, true_and, and_true, not_true, not_false_iff, e0]
      simp (disch := omega) only [Option.bind_some, ofn, l0, l1, l2, l3, l4, l5, l6, l7, l8, l9, l10, l11, l12, l19, l20, l30, l31, l40, l72, l100, hn_mul, hn_add, hn_sub, hn_or, hn_and, sh_r, sh_l, bt_n, bt_0, bt_1, hn_cl, if_true, if_false, ↓reduceIte, hn_lt, hn_le, hn_eq, ne_1, ne_m, lt_t, lt_f, le_t, le_f, eq_t, eq_f, Nat.not_lt_zero, false_or, or_false, or_self, false_and, and_false, true_and, and_true, not_true, not_false_iff, e1]
      unfold J_X5_numberBlocks_37
      simp (disch := omega) only [Option.bind_some, ofn, l0, l1, l2, l3, l4, l5, l6, l7, l8, l9, l10, l11, l12, l19, l20, l30, l31, l40, l72, l100, hn_mul, hn_add, hn_sub, hn_or, hn_and, sh_r, sh_l, bt_n, bt_0, bt_1, hn_cl, if_true, if_false, ↓reduceIte, hn_lt, hn_le, hn_eq, ne_1, ne_m, lt_t, lt_f, le_t, le_f, eq_t, eq_f, Nat.not_lt_zero, false_or, or_false, or_self, false_and, and_false, true_and, and_true, not_true, not_false_iff]
      rw [Nat.mul_comm ρ 10]
      exact g1
    · have h2 : lk κ s = s := by omega
      have ec : cn κ (s + 1) = cn κ s + 1 := by
        simp only [cn]
        rw [if_pos h2]
      rw [ec, bk_new h2] at g1
      simp (disch := omega) only [Option.bind_some, ofn, l0, l1, l2, l3, l4, l5, l6, l7, l8, l9, l10, l11, l12, l19, l20, l30, l31, l40, l72, l100, hn_mul, hn_add, hn_sub, hn_or, hn_and, sh_r, sh_l, bt_n, bt_0, bt_1, hn_cl, if_true, if_false, ↓reduceIte, hn_lt, hn_le, hn_eq, ne_1, ne_m, lt_t, lt_f, le_t, le_f, eq_t, eq_f, Nat.not_lt_zero, false_or, or_false, or_self, false_and, and_false, true_and, and_true, not_true, not_false_iff, e0]
      unfold J_X5_numberBlocks_37
      simp (disch := omega) only [Option.bind_some, ofn, l0, l1, l2, l3, l4, l5, l6, l7, l8, l9, l10, l11, l12, l19, l20, l30, l31, l40, l72, l100, hn_mul, hn_add, hn_sub, hn_or, hn_and, sh_r, sh_l, bt_n, bt_0, bt_1, hn_cl, if_true, if_false, ↓reduceIte, hn_lt, hn_le, hn_eq, ne_1, ne_m, lt_t, lt_f, le_t, le_f, eq_t, eq_f, Nat.not_lt_zero, false_or, or_false, or_self, false_and, and_false, true_and, and_true, not_true, not_false_iff]
      rw [Nat.mul_comm ρ 10]
      exact g1
theorem px_moved {m : pj_M} {T q a s : Nat} {S : sy} (hq : q < 4) (ha : a < 4) (hs : s < 10) (hg : GT m (T + 1) (go S)) (hc : GT m (T + 2) (cl S)) : F_X7_moved T (nI q) (nI a) (nI s) m = some (nI (mv S q a s), m) := by
  unfold F_X7_moved F_X7_gone mv
  have e1 := hg a s ha hs
  have e2 := hc a s ha hs
  rw [Nat.mul_comm] at e1 e2
  by_cases h1 : q = 1
  · simp (disch := omega) only [Option.bind_some, ofn, l0, l1, l2, l3, l4, l5, l6, l7, l8, l9, l10, l11, l12, l19, l20, l30, l31, l40, l72, l100, hn_mul, hn_add, hn_sub, hn_or, hn_and, sh_r, sh_l, bt_n, bt_0, bt_1, hn_cl, if_true, if_false, ↓reduceIte, hn_lt, hn_le, hn_eq, ne_1, ne_m, lt_t, lt_f, le_t, le_f, eq_t, eq_f, Nat.not_lt_zero, false_or, or_false, or_self, false_and, and_false, true_and, and_true, not_true, not_false_iff, h1, e2]
  · simp (disch := omega) only [Option.bind_some, ofn, l0, l1, l2, l3, l4, l5, l6, l7, l8, l9, l10, l11, l12, l19, l20, l30, l31, l40, l72, l100, hn_mul, hn_add, hn_sub, hn_or, hn_and, sh_r, sh_l, bt_n, bt_0, bt_1, hn_cl, if_true, if_false, ↓reduceIte, hn_lt, hn_le, hn_eq, ne_1, ne_m, lt_t, lt_f, le_t, le_f, eq_t, eq_f, Nat.not_lt_zero, false_or, or_false, or_self, false_and, and_false, true_and, and_true, not_true, not_false_iff, h1, e1]
theorem px_gfrom {m : pj_M} {T a s : Nat} {g : Nat → Nat → Nat} (ha : a < 4) (hs : s < 2 ^ 31) (hg : GT m (T + 1) g) : F_X7_goneFrom T (nI a) (nI s) m = some (nI (un (g a) s 10), m) := by
  unfold F_X7_goneFrom
  rw [px_union (n0 := 40) (a0 := T + 1) (l := a) (s := s) (f := g a) (m := m) (by omega) (by decide) hs (fun i hi => hg a i ha hi)]
  rfl
theorem px_bo {m : pj_M} {P r n set : Nat} {f : Nat → Nat} (hn : n ≤ 10) (hr : r < 11) (h3 : m.1 P 3 = nI n) (hset : set < 2 ^ 31) (hf : ∀ t, t < n → f t < 10) (hb : ∀ t, t < n → m.1 (P + 1) (10 * r + t) = nI (f t)) : F_X5_blocksOf P (nI r) (nI set) m = some (nI (bo f set n), m) := by
  refine lp0 (P := fun z i => H_X5_blocksOf_5 z P (nI r) (nI set) (nI (bo f set i)) (nI i) m = some (nI (bo f set n), m)) n (by omega) ?_ ?_
  · intro z
    rw [H_X5_blocksOf_5, h3]
    simp (disch := omega) only [Option.bind_some, ofn, l0, l1, l2, l3, l4, l5, l6, l7, l8, l9, l10, l11, l12, l19, l20, l30, l31, l40, l72, l100, hn_mul, hn_add, hn_sub, hn_or, hn_and, sh_r, sh_l, bt_n, bt_0, bt_1, hn_cl, if_true, if_false, ↓reduceIte, hn_lt, hn_le, hn_eq, ne_1, ne_m, lt_t, lt_f, le_t, le_f, eq_t, eq_f, Nat.not_lt_zero, false_or, or_false, or_self, false_and, and_false, true_and, and_true, not_true, not_false_iff]
  · intro z i hi ih
    rw [H_X5_blocksOf_5, h3]
    have hsh : set >>> i < 2 ^ 31 := Nat.lt_of_le_of_lt (Nat.shiftRight_le _ _) hset
    have e1 := px_bb (m := m) (P := P) (r := r) (s := i) hr (by omega)
    rw [hb i hi] at e1
    have hfi := hf i hi
    by_cases h0 : set >>> i = 0
    · simp (disch := omega) only [Option.bind_some, ofn, l0, l1, l2, l3, l4, l5, l6, l7, l8, l9, l10, l11, l12, l19, l20, l30, l31, l40, l72, l100, hn_mul, hn_add, hn_sub, hn_or, hn_and, sh_r, sh_l, bt_n, bt_0, bt_1, hn_cl, if_true, if_false, ↓reduceIte, hn_lt, hn_le, hn_eq, ne_1, ne_m, lt_t, lt_f, le_t, le_f, eq_t, eq_f, Nat.not_lt_zero, false_or, or_false, or_self, false_and, and_false, true_and, and_true, not_true, not_false_iff, h0]
      unfold bo
      rw [un_stop h0 n (by omega)]
    · by_cases hbit : set.testBit i = true
      · have e : bo f set (i + 1) = bo f set i ||| 2 ^ f i := by simp only [bo, un, hbit, if_true]
        rw [e] at ih
        simp (disch := omega) only [Option.bind_some, ofn, l0, l1, l2, l3, l4, l5, l6, l7, l8, l9, l10, l11, l12, l19, l20, l30, l31, l40, l72, l100, hn_mul, hn_add, hn_sub, hn_or, hn_and, sh_r, sh_l, bt_n, bt_0, bt_1, hn_cl, if_true, if_false, ↓reduceIte, hn_lt, hn_le, hn_eq, ne_1, ne_m, lt_t, lt_f, le_t, le_f, eq_t, eq_f, Nat.not_lt_zero, false_or, or_false, or_self, false_and, and_false, true_and, and_true, not_true, not_false_iff, h0, hbit, Bool.true_eq_false, e1]
        exact ih
      · have e : bo f set (i + 1) = bo f set i := by simp [bo, un, hbit]
        rw [e] at ih
        simp only [Bool.not_eq_true] at hbit
        simp (disch := omega) only [Option.bind_some, ofn, l0, l1, l2, l3, l4, l5, l6, l7, l8, l9, l10, l11, l12, l19, l20, l30, l31, l40, l72, l100, hn_mul, hn_add, hn_sub, hn_or, hn_and, sh_r, sh_l, bt_n, bt_0, bt_1, hn_cl, if_true, if_false, ↓reduceIte, hn_lt, hn_le, hn_eq, ne_1, ne_m, lt_t, lt_f, le_t, le_f, eq_t, eq_f, Nat.not_lt_zero, false_or, or_false, or_self, false_and, and_false, true_and, and_true, not_true, not_false_iff, h0, hbit]
        exact ih
theorem px_sb {m : pj_M} {P r n b : Nat} {f : Nat → Nat} (hn : n ≤ 10) (hr : r < 11) (h3 : m.1 P 3 = nI n) (hb10 : b < 2 ^ 31) (hf : ∀ t, t < n → f t < 10) (hb : ∀ t, t < n → m.1 (P + 1) (10 * r + t) = nI (f t)) : F_X5_statesOf P (nI r) (nI b) m = some (nI (sb f b n), m) := by
  refine lp0 (P := fun z i => H_X5_statesOf_5 z P (nI r) (nI b) (nI (sb f b i)) (nI i) m = some (nI (sb f b n), m)) n (by omega) ?_ ?_
  · intro z
    rw [H_X5_statesOf_5, h3]
    simp (disch := omega) only [Option.bind_some, ofn, l0, l1, l2, l3, l4, l5, l6, l7, l8, l9, l10, l11, l12, l19, l20, l30, l31, l40, l72, l100, hn_mul, hn_add, hn_sub, hn_or, hn_and, sh_r, sh_l, bt_n, bt_0, bt_1, hn_cl, if_true, if_false, ↓reduceIte, hn_lt, hn_le, hn_eq, ne_1, ne_m, lt_t, lt_f, le_t, le_f, eq_t, eq_f, Nat.not_lt_zero, false_or, or_false, or_self, false_and, and_false, true_and, and_true, not_true, not_false_iff]
  · intro z i hi ih
    rw [H_X5_statesOf_5, h3]
    have e1 := px_bb (m := m) (P := P) (r := r) (s := i) hr (by omega)
    rw [hb i hi] at e1
    have hfi := hf i hi
    by_cases h1 : f i = b
    · have e : sb f b (i + 1) = sb f b i ||| 2 ^ i := by simp [sb, st, h1]
      rw [e] at ih
      simp (disch := omega) only [Option.bind_some, ofn, l0, l1, l2, l3, l4, l5, l6, l7, l8, l9, l10, l11, l12, l19, l20, l30, l31, l40, l72, l100, hn_mul, hn_add, hn_sub, hn_or, hn_and, sh_r, sh_l, bt_n, bt_0, bt_1, hn_cl, if_true, if_false, ↓reduceIte, hn_lt, hn_le, hn_eq, ne_1, ne_m, lt_t, lt_f, le_t, le_f, eq_t, eq_f, Nat.not_lt_zero, false_or, or_false, or_self, false_and, and_false, true_and, and_true, not_true, not_false_iff, e1, h1]
      exact ih
    · have e : sb f b (i + 1) = sb f b i := by simp [sb, st, h1]
      rw [e] at ih
      simp (disch := omega) only [Option.bind_some, ofn, l0, l1, l2, l3, l4, l5, l6, l7, l8, l9, l10, l11, l12, l19, l20, l30, l31, l40, l72, l100, hn_mul, hn_add, hn_sub, hn_or, hn_and, sh_r, sh_l, bt_n, bt_0, bt_1, hn_cl, if_true, if_false, ↓reduceIte, hn_lt, hn_le, hn_eq, ne_1, ne_m, lt_t, lt_f, le_t, le_f, eq_t, eq_f, Nat.not_lt_zero, false_or, or_false, or_self, false_and, and_false, true_and, and_true, not_true, not_false_iff, e1, h1]
      exact ih
theorem px_signs {m : pj_M} {P T r s q : Nat} {S : sy} {f : Nat → Nat} (hw : wfS S) (hq : q < 3) (hr : r < 11) (hs : s < S.1) (h0 : m.1 P 0 = nI q) (h3 : m.1 P 3 = nI S.1) (hg : GT m (T + 1) (go S)) (hc : GT m (T + 2) (cl S)) (hf : ∀ t, t < S.1 → f t < 10) (hb : ∀ t, t < S.1 → m.1 (P + 1) (10 * r + t) = nI (f t)) : F_X5_signsBy P T (nI r) (nI s) m = some (lN (sgn S q f s), m) := by
  have w1 := hw.1
  have hp := p2_10 w1
  have hfs := hf s hs
  have e1 := px_bb (m := m) (P := P) (r := r) (s := s) hr (by omega)
  rw [hb s hs] at e1
  have hsl := sgl_lt (S := S) (q := q) (s := s) hf 4
  -- the loop over letters
  have loop : ∀ near : Nat, near < 2 ^ 31 → (q = 2 → near = itp (go S 0) (sb f (f s) S.1) (2 ^ s) 10) → H_X5_signsBy_40 pj_z P T (nI r) (nI s) (nI (f s)) (nI near) 0 0 m = some (lN (sgn S q f s), m) := by
    intro near hnear hnq
    refine lp0 (P := fun z a => H_X5_signsBy_40 z P T (nI r) (nI s) (nI (f s)) (nI near) (lN (sgl S q f s a)) (nI a) m = some (lN (sgn S q f s), m)) 4 (by decide) ?_ ?_
    · intro z
      rw [H_X5_signsBy_40]
      unfold J_X5_signsBy_103 sgn
      rw [h0]
      by_cases h2 : q = 2
      · simp (disch := omega) only [Option.bind_some, ofn, l0, l1, l2, l3, l4, l5, l6, l7, l8, l9, l10, l11, l12, l19, l20, l30, l31, l40, l72, l100, hn_mul, hn_add, hn_sub, hn_or, hn_and, sh_r, sh_l, bt_n, bt_0, bt_1, hn_cl, if_true, if_false, ↓reduceIte, hn_lt, hn_le, hn_eq, ne_1, ne_m, lt_t, lt_f, le_t, le_f, eq_t, eq_f, Nat.not_lt_zero, false_or, or_false, or_self, false_and, and_false, true_and, and_true, not_true, not_false_iff, h2]
        rw [nI_l (by omega), ll_sh1 _ (by omega), ll_m, ll_xor, ll_and]
      · simp (disch := omega) only [Option.bind_some, ofn, l0, l1, l2, l3, l4, l5, l6, l7, l8, l9, l10, l11, l12, l19, l20, l30, l31, l40, l72, l100, hn_mul, hn_add, hn_sub, hn_or, hn_and, sh_r, sh_l, bt_n, bt_0, bt_1, hn_cl, if_true, if_false, ↓reduceIte, hn_lt, hn_le, hn_eq, ne_1, ne_m, lt_t, lt_f, le_t, le_f, eq_t, eq_f, Nat.not_lt_zero, false_or, or_false, or_self, false_and, and_false, true_and, and_true, not_true, not_false_iff, h2]
    · intro z a ha ih
      rw [H_X5_signsBy_40]
      unfold J_X5_signsBy_76
      have hX : sgs S q f s a < 2 ^ S.1 := by
        unfold sgs
        split
        · exact un_lt 10 (fun i _ => go_lt hw a i)
        · exact mv_lt hw q a hs
      have e2 := px_bo (m := m) (P := P) (r := r) (n := S.1) (set := sgs S q f s a) w1 hr h3 (by omega) hf hb
      have hbo : bo f (sgs S q f s a) S.1 < 1024 := bo_lt (k := 10) hf
      have esh := ll_shx a ha _ hbo
      have el : (nI (10 * a)).toInt64 = lN (10 * a) := nI_l (by omega)
      have eb : (nI (bo f (sgs S q f s a) S.1)).toInt64 = lN (bo f (sgs S q f s a) S.1) := nI_l (by omega)
      have ek : lN (sgl S q f s a) ||| lN (bo f (sgs S q f s a) S.1 * 2 ^ (10 * a)) = lN (sgl S q f s (a + 1)) := by rw [ll_or]; rfl
      by_cases h2 : q = 2
      · have e3 := px_gfrom (m := m) (T := T) (a := a) (s := near) (g := go S) ha hnear hg
        have e4 : un (go S a) near 10 = sgs S q f s a := by
          unfold sgs
          rw [if_pos h2, hnq h2]
        rw [e4] at e3
        simp (disch := omega) only [Option.bind_some, ofn, l0, l1, l2, l3, l4, l5, l6, l7, l8, l9, l10, l11, l12, l19, l20, l30, l31, l40, l72, l100, hn_mul, hn_add, hn_sub, hn_or, hn_and, sh_r, sh_l, bt_n, bt_0, bt_1, hn_cl, if_true, if_false, ↓reduceIte, hn_lt, hn_le, hn_eq, ne_1, ne_m, lt_t, lt_f, le_t, le_f, eq_t, eq_f, Nat.not_lt_zero, false_or, or_false, or_self, false_and, and_false, true_and, and_true, not_true, not_false_iff, h0, h2]
        rw [h2] at e2 e3 eb ek esh ih
        simp (disch := omega) only [Option.bind_some, ofn, l0, l1, l2, l3, l4, l5, l6, l7, l8, l9, l10, l11, l12, l19, l20, l30, l31, l40, l72, l100, hn_mul, hn_add, hn_sub, hn_or, hn_and, sh_r, sh_l, bt_n, bt_0, bt_1, hn_cl, if_true, if_false, ↓reduceIte, hn_lt, hn_le, hn_eq, ne_1, ne_m, lt_t, lt_f, le_t, le_f, eq_t, eq_f, Nat.not_lt_zero, false_or, or_false, or_self, false_and, and_false, true_and, and_true, not_true, not_false_iff, e3, e2, el, eb]
        rw [esh, ek]
        exact ih
      · have e3 := px_moved (m := m) (T := T) (q := q) (a := a) (s := s) (by omega) ha (by omega) hg hc
        have e4 : mv S q a s = sgs S q f s a := by
          unfold sgs
          rw [if_neg h2]
        rw [e4] at e3
        simp (disch := omega) only [Option.bind_some, ofn, l0, l1, l2, l3, l4, l5, l6, l7, l8, l9, l10, l11, l12, l19, l20, l30, l31, l40, l72, l100, hn_mul, hn_add, hn_sub, hn_or, hn_and, sh_r, sh_l, bt_n, bt_0, bt_1, hn_cl, if_true, if_false, ↓reduceIte, hn_lt, hn_le, hn_eq, ne_1, ne_m, lt_t, lt_f, le_t, le_f, eq_t, eq_f, Nat.not_lt_zero, false_or, or_false, or_self, false_and, and_false, true_and, and_true, not_true, not_false_iff, h0, h2, e3, e2, el, eb]
        rw [esh, ek]
        exact ih
  unfold F_X5_signsBy
  by_cases h2 : q = 2
  · have e2 := px_sb (m := m) (P := P) (r := r) (n := S.1) (b := f s) (f := f) w1 hr h3 (by omega) hf hb
    have e3 := px_silent (b := T) (j := s) (am := sb f (f s) S.1) (x2 := nI (sb f (f s) S.1)) (f := go S 0) (m := m) (by omega) (fun i _ => go_lt10 hw 0 i) (fun k hk => by have := hg 0 k (by decide) hk; rw [Nat.mul_zero, Nat.zero_add] at this; exact this) (fun x _ => hn_and x _)
    have hlt : itp (go S 0) (sb f (f s) S.1) (2 ^ s) 10 < 2 ^ 10 := itp_lt (Nat.pow_lt_pow_right (by decide) (by omega)) (fun i _ => go_lt10 hw 0 i) 10
    rw [e1]
    simp only [Option.bind_some]
    rw [h0, if_pos (by rw [h2]; rfl), e2]
    simp only [Option.bind_some]
    rw [e3]
    simp only [Option.bind_some]
    exact loop _ (by omega) (fun _ => rfl)
  · rw [e1]
    simp only [Option.bind_some]
    rw [h0, if_neg (show ¬ nI q = 2 from fun e => h2 (hn_inj (by omega) (by decide) e))]
    exact loop 0 (by decide) (fun h => absurd h h2)
