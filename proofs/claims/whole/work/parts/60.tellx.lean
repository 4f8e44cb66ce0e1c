/-! PART 60: X's Teller: leads -/
theorem nn1 {k : Nat} (h : k < 2 ^ 31) : ¬ nI k = -1 := of_eq_false (ne_1 h)
theorem nn2 {k : Nat} (h : k < 2 ^ 31) : ¬ nI k = -2 := fun e => by
  have h1 := congrArg Int32.toInt e
  rw [nI_toInt h] at h1
  have h2 : (-2 : Int32).toInt = -2 := rfl
  omega
theorem nn3 {k : Nat} (h : k < 2 ^ 31) : ¬ nI k = -3 := fun e => by
  have h1 := congrArg Int32.toInt e
  rw [nI_toInt h] at h1
  have h2 : (-3 : Int32).toInt = -3 := rfl
  omega
def ldv (o : Option Nat) : Int32 := match o with
  | some k => nI k
  | none => -1
theorem fdj_step {p : Nat → Bool} {n i : Nat} (hi : i < n) : fdj p n (n - i) = if p i then some i else fdj p n (n - (i + 1)) := by
  obtain ⟨d, hd⟩ : ∃ d, n - i = d + 1 := ⟨n - i - 1, by omega⟩
  rw [hd]
  simp only [fdj]
  rw [show n - (d + 1) = i by omega, show n - (i + 1) = d by omega]
theorem hx_lead1 {m : pj_M} {Q P q p t r a : Nat} {S : sy} (hw : wfS S) (hP : PT m P S q) (hr : r ≤ rd S q) (ha : a < 4) (hp : p < S.1) (ht : t < S.1) {K : Nat → Nat → Nat → Int32 → Int32 → Int32 → Int32 → pj_M → Option (Int32 × pj_M)} (hK : K Q 20 P (nI p) (nI t) (nI r) (nI (a + 1)) m = some (ldv (fdj (LC S q r p t) 40 (40 - (10 * (a + 1)))), m)) : H_X9_findLead_61 K pj_z Q 20 P (nI p) (nI t) (nI r) (nI a) (nI (mv S q a p)) (nI (bo (bl S q r) (mv S q a t) S.1)) 0 m = some (ldv (fdj (LC S q r p t) 40 (40 - (10 * a))), m) := by
  have w1 := hw.1
  have hp2 := p2_10 w1
  have hrd := rd_le9 hw q
  have hmp := mv_lt hw q a hp
  have hbo : bo (bl S q r) (mv S q a t) S.1 < 2 ^ 10 := bo_lt (bl_10 hw q r)
  refine lp0 (P := fun z i => H_X9_findLead_61 K z Q 20 P (nI p) (nI t) (nI r) (nI a) (nI (mv S q a p)) (nI (bo (bl S q r) (mv S q a t) S.1)) (nI i) m = some (ldv (fdj (LC S q r p t) 40 (40 - (10 * a + i))), m)) 10 (by decide) ?_ ?_
  · intro z
    rw [H_X9_findLead_61, show 10 * a + 10 = 10 * (a + 1) by omega, ← hK]
    simp (disch := omega) only [Option.bind_some, ofn, l0, l1, l2, l3, l4, l5, l6, l7, l8, l9, l10, l11, l12, l19, l20, l30, l31, l40, l72, l100, hn_mul, hn_add, hn_sub, hn_or, hn_and, sh_r, sh_l, bt_n, bt_0, bt_1, hn_cl, if_true, if_false, ↓reduceIte, hn_lt, hn_le, hn_eq, ne_1, ne_m, lt_t, lt_f, le_t, le_f, eq_t, eq_f, Nat.not_lt_zero, false_or, or_false, or_self, false_and, and_false, true_and, and_true, not_true, not_false_iff]
  · intro z i hi ih
    rw [H_X9_findLead_61, fdj_step (show 10 * a + i < 40 by omega)]
    have e1 : (10 * a + i) / 10 = a := by omega
    have e2 : (10 * a + i) % 10 = i := by omega
    by_cases hb : (mv S q a p).testBit i = true
    · have hin := tb_lt hmp hb
      have eb := px_bb (m := m) (P := P) (r := r) (s := i) (by omega) (by omega)
      rw [hP.2.2.2.2.1 r i hr hin] at eb
      have hbl := bl_10 hw q r i hin
      cases hs : (bo (bl S q r) (mv S q a t) S.1).testBit (bl S q r i) with
      | false =>
        have eL : LC S q r p t (10 * a + i) = true := by
          unfold LC
          rw [e1, e2, hb, hs]
          rfl
        rw [if_pos eL]
        unfold J_X9_findLead_94
        simp (disch := omega) only [Option.bind_some, ofn, l0, l1, l2, l3, l4, l5, l6, l7, l8, l9, l10, l11, l12, l19, l20, l30, l31, l40, l72, l100, hn_mul, hn_add, hn_sub, hn_or, hn_and, sh_r, sh_l, bt_n, bt_0, bt_1, hn_cl, if_true, if_false, ↓reduceIte, hn_lt, hn_le, hn_eq, ne_1, ne_m, lt_t, lt_f, le_t, le_f, eq_t, eq_f, Nat.not_lt_zero, false_or, or_false, or_self, false_and, and_false, true_and, and_true, not_true, not_false_iff, hb, Bool.true_eq_false, eb, hs]
        rw [Nat.mul_comm a 10]
        rfl
      | true =>
        have eL : ¬ LC S q r p t (10 * a + i) = true := by
          unfold LC
          rw [e1, e2, hb, hs]
          decide
        rw [if_neg eL]
        simp (disch := omega) only [Option.bind_some, ofn, l0, l1, l2, l3, l4, l5, l6, l7, l8, l9, l10, l11, l12, l19, l20, l30, l31, l40, l72, l100, hn_mul, hn_add, hn_sub, hn_or, hn_and, sh_r, sh_l, bt_n, bt_0, bt_1, hn_cl, if_true, if_false, ↓reduceIte, hn_lt, hn_le, hn_eq, ne_1, ne_m, lt_t, lt_f, le_t, le_f, eq_t, eq_f, Nat.not_lt_zero, false_or, or_false, or_self, false_and, and_false, true_and, and_true, not_true, not_false_iff, hb, Bool.true_eq_false, eb, hs]
        exact ih
    · have eL : ¬ LC S q r p t (10 * a + i) = true := by
        unfold LC
        rw [e1, e2]
        simp [hb]
      rw [if_neg eL]
      simp only [Bool.not_eq_true] at hb
      simp (disch := omega) only [Option.bind_some, ofn, l0, l1, l2, l3, l4, l5, l6, l7, l8, l9, l10, l11, l12, l19, l20, l30, l31, l40, l72, l100, hn_mul, hn_add, hn_sub, hn_or, hn_and, sh_r, sh_l, bt_n, bt_0, bt_1, hn_cl, if_true, if_false, ↓reduceIte, hn_lt, hn_le, hn_eq, ne_1, ne_m, lt_t, lt_f, le_t, le_f, eq_t, eq_f, Nat.not_lt_zero, false_or, or_false, or_self, false_and, and_false, true_and, and_true, not_true, not_false_iff, hb]
      exact ih
theorem px_lead {m : pj_M} {Q P q p t r : Nat} {S : sy} (hw : wfS S) (hq : q < 2) (hP : PT m P S q) (h0 : m.1 Q 0 = nI q) (hg : GT m 21 (go S)) (hc : GT m 22 (cl S)) (hr : r ≤ rd S q) (hp : p < S.1) (ht : t < S.1) (h1 : m.1 (Q + 1) (10 * p + t) = nI (r + 1)) : F_X9_findLead Q 20 P (nI p) (nI t) m = some (ldv (fd (LC S q r p t) 40), m) := by
  have w1 := hw.1
  have hp2 := p2_10 w1
  have hrd := rd_le9 hw q
  unfold F_X9_findLead
  rw [l10, hn_mul, hn_add, Nat.mul_comm p 10, if_neg (hn_in (by omega) (by decide)), hn_cl (by omega), h1, nI_pred]
  refine lp0 (P := fun z a => H_X9_findLead_19 z Q 20 P (nI p) (nI t) (nI r) (nI a) m = some (ldv (fdj (LC S q r p t) 40 (40 - 10 * a)), m)) 4 (by decide) ?_ ?_
  · intro z
    rw [H_X9_findLead_19]
    simp (disch := omega) only [Option.bind_some, ofn, l0, l1, l2, l3, l4, l5, l6, l7, l8, l9, l10, l11, l12, l19, l20, l30, l31, l40, l72, l100, hn_mul, hn_add, hn_sub, hn_or, hn_and, sh_r, sh_l, bt_n, bt_0, bt_1, hn_cl, if_true, if_false, ↓reduceIte, hn_lt, hn_le, hn_eq, ne_1, ne_m, lt_t, lt_f, le_t, le_f, eq_t, eq_f, Nat.not_lt_zero, false_or, or_false, or_self, false_and, and_false, true_and, and_true, not_true, not_false_iff]
    rfl
  · intro z a ha ih
    have e1 := px_moved (m := m) (T := 20) (q := q) (a := a) (s := p) (by omega) ha (by omega) hg hc
    have e2 := px_moved (m := m) (T := 20) (q := q) (a := a) (s := t) (by omega) ha (by omega) hg hc
    have hmt := mv_lt hw q a ht
    have e3 := px_bo (m := m) (P := P) (r := r) (n := S.1) (set := mv S q a t) (f := bl S q r) w1 (by omega) hP.2.1 (by omega) (bl_10 hw q r) (fun u hu => hP.2.2.2.2.1 r u hr hu)
    rw [H_X9_findLead_19, if_pos (show nI a < 4 from nI_lt (b := 4) ha (by decide)), h0, e1]
    simp only [Option.bind_some]
    rw [h0, e2]
    simp only [Option.bind_some]
    rw [e3]
    simp only [Option.bind_some]
    exact hx_lead1 hw hP hr ha hp ht ih
/-- leads and rounds are filled in -/
def T12 (m : pj_M) (Q : Nat) (S : sy) (q p t : Nat) : Prop := m.1 (Q + 1) (10 * p + t) = oI (pin S q p t) ∧ m.1 (Q + 2) (10 * p + t) = ldI S q p t
theorem T12.put {m : pj_M} {Q q p t : Nat} {S : sy} {x y : Int32} (h : T12 m Q S q p t) {p' t' : Nat} (ht : t < 10) (ht' : t' < 10) (hne : ¬ (p = p' ∧ t = t')) : T12 (pj_wr (pj_wr m (Q + 1) (10 * p' + t') x) (Q + 2) (10 * p' + t') y) Q S q p t := by
  obtain ⟨h1, h2⟩ := h
  refine ⟨?_, ?_⟩
  · rw [hr_wra (by omega), hr_wrk (by omega)]
    exact h1
  · rw [hr_wrk (by omega), hr_wra (by omega)]
    exact h2
theorem oI_pos {r : Nat} (hr : r < 2 ^ 31) : ((0 : Int32) < oI (some (r + 1))) ∨ 2 ^ 31 ≤ r + 1 := by
  rcases Nat.lt_or_ge (r + 1) (2 ^ 31) with h | h
  · exact Or.inl (nI_lt (a := 0) (by omega) h)
  · exact Or.inr h
theorem hx_fill1 {Q P q p : Nat} {S : sy} (hw : wfS S) (hq : q < 2) (hQ : P + 2 < Q ∧ 22 < Q) (hP9 : 9 < P) (hp : p < S.1) {K : Nat → Nat → Nat → Nat → Int32 → pj_M → Option pj_M} (m : pj_M) (hn : XN m 7 S) (hP : PT m P S q) (h0 : m.1 Q 0 = nI q) (hg : GT m 21 (go S)) (hc : GT m 22 (cl S)) (hd : ∀ p' t', p' < p → t' < S.1 → T12 m Q S q p' t') : ∃ m', H_X9_follow_54 K pj_z Q 7 20 P (nI p) (nI (if mkb S p then 1 else 0)) 0 m = K Q 7 20 P (nI (p + 1)) m' ∧ fr [Q + 1, Q + 2] m m' ∧ ∀ p' t', p' < p + 1 → t' < S.1 → T12 m' Q S q p' t' := by
  have w1 := hw.1
  have hrd := rd_le9 hw q
  refine lp0 (P := fun z t => ∀ m : pj_M, XN m 7 S → PT m P S q → m.1 Q 0 = nI q → GT m 21 (go S) → GT m 22 (cl S) → (∀ p' t', p' < p → t' < S.1 → T12 m Q S q p' t') → (∀ t', t' < t → T12 m Q S q p t') → ∃ m', H_X9_follow_54 K z Q 7 20 P (nI p) (nI (if mkb S p then 1 else 0)) (nI t) m = K Q 7 20 P (nI (p + 1)) m' ∧ fr [Q + 1, Q + 2] m m' ∧ ∀ p' t', p' < p + 1 → t' < S.1 → T12 m' Q S q p' t') S.1 (by omega) ?_ ?_ m hn hP h0 hg hc hd (fun t' h => by omega)
  · intro z m hn hP h0 hg hc hd hd2
    refine ⟨m, ?_, fr.rf _ _, fun p' t' h1 h2 => ?_⟩
    · rw [H_X9_follow_54]
      simp (disch := omega) only [Option.bind_some, ofn, l0, l1, l2, l3, l4, l5, l6, l7, l8, l9, l10, l11, l12, l19, l20, l30, l31, l40, l72, l100, hn_mul, hn_add, hn_sub, hn_or, hn_and, sh_r, sh_l, bt_n, bt_0, bt_1, hn_cl, if_true, if_false, ↓reduceIte, hn_lt, hn_le, hn_eq, ne_1, ne_m, lt_t, lt_f, le_t, le_f, eq_t, eq_f, Nat.not_lt_zero, false_or, or_false, or_self, false_and, and_false, true_and, and_true, not_true, not_false_iff, F_X4_states, hn.1]
    · by_cases hpp : p' = p
      · rw [hpp]
        exact hd2 t' h2
      · exact hd p' t' (by omega) h2
  · intro z t ht ih m hn hP h0 hg hc hd hd2
    have eR := px_roundOf hw hP hp ht
    -- the common end
    have fin : ∀ y : Int32, y = ldI S q p t → ∃ m', H_X9_follow_54 K z Q 7 20 P (nI p) (nI (if mkb S p then 1 else 0)) (nI (t + 1)) (pj_wr (pj_wr m (Q + 1) (10 * p + t) (oI (pin S q p t))) (Q + 2) (10 * p + t) y) = K Q 7 20 P (nI (p + 1)) m' ∧ fr [Q + 1, Q + 2] m m' ∧ ∀ p' t', p' < p + 1 → t' < S.1 → T12 m' Q S q p' t' := by
      intro y hy
      have fA : fr [Q + 1, Q + 2] m (pj_wr (pj_wr m (Q + 1) (10 * p + t) (oI (pin S q p t))) (Q + 2) (10 * p + t) y) := (fr.wr _ _ (by simp) _ _).tr (fr.wr _ _ (by simp) _ _)
      obtain ⟨m', g1, g2, g3⟩ := ih _ (hn.keep (fA 7 (by simp; omega)).1 (fA 8 (by simp; omega)).1 (fA 9 (by simp; omega)).1) (hP.keep (fA P (by simp; omega)).1 (fA (P + 1) (by simp; omega)).1 (fA (P + 2) (by simp; omega)).2) (by rw [(fA Q (by simp)).1]; exact h0) (hg.keep (fA 21 (by simp; omega)).1) (hc.keep (fA 22 (by simp; omega)).1) (fun p' t' h1 h2 => (hd p' t' h1 h2).put (by omega) (by omega) (by omega)) (fun t' h1 => by
        by_cases htt : t' = t
        · subst htt
          exact ⟨by rw [hr_wra (by omega), hr_wrs], by rw [hr_wrs]; exact hy⟩
        · exact (hd2 t' (by omega)).put (by omega) (by omega) (by omega))
      exact ⟨m', g1, fA.tr g2, g3⟩
    have eI : nI p * 10 + nI t = nI (10 * p + t) := by rw [l10, hn_mul, hn_add, Nat.mul_comm]
    rw [H_X9_follow_54]
    simp only [F_X4_states, Option.bind_some, hn.1]
    rw [if_pos (nI_lt ht (by omega)), eR]
    simp only [Option.bind_some]
    rw [eI, if_neg (hn_in (by omega) (by decide)), hn_cl (by omega), nI_1]
    simp only [hn_in' (show 10 * p + t < 100 by omega) (show 10 * p + t < 2 ^ 31 by omega), if_false]
    cases hpin : pin S q p t with
    | none =>
      rw [if_neg (show ¬ (0 : Int32) < oI none by decide)]
      cases hm : mkb S p with
      | true =>
        simp only [if_true]
        rw [if_neg (show ¬ nI 1 = 0 by decide)]
        have f := fin (-2) (by unfold ldI; rw [hpin, hm]; rfl)
        rw [hpin, hm] at f
        exact f
      | false =>
        simp only [Bool.false_eq_true, if_false]
        rw [if_pos (show nI 0 = 0 from rfl)]
        have f := fin (-3) (by unfold ldI; rw [hpin, hm]; rfl)
        rw [hpin, hm] at f
        exact f
    | some r =>
      cases r with
      | zero =>
        rw [if_neg (show ¬ (0 : Int32) < oI (some 0) by decide)]
        cases hm : mkb S p with
        | true =>
          simp only [if_true]
          rw [if_neg (show ¬ nI 1 = 0 by decide)]
          have f := fin (-2) (by unfold ldI; rw [hpin, hm]; rfl)
          rw [hpin, hm] at f
          exact f
        | false =>
          simp only [Bool.false_eq_true, if_false]
          rw [if_pos (show nI 0 = 0 from rfl)]
          have f := fin (-3) (by unfold ldI; rw [hpin, hm]; rfl)
          rw [hpin, hm] at f
          exact f
      | succ r =>
        have hr := (pin_some hpin).1
        have fA : fr [Q + 1, Q + 2] m (pj_wr m (Q + 1) (10 * p + t) (oI (some (r + 1)))) := fr.wr _ _ (by simp) _ _
        have eLd := px_lead (m := pj_wr m (Q + 1) (10 * p + t) (oI (some (r + 1)))) (Q := Q) (P := P) (p := p) (t := t) (r := r) hw hq (hP.keep (fA P (by simp; omega)).1 (fA (P + 1) (by simp; omega)).1 (fA (P + 2) (by simp; omega)).2) (by rw [(fA Q (by simp)).1]; exact h0) (hg.keep (fA 21 (by simp; omega)).1) (hc.keep (fA 22 (by simp; omega)).1) (by omega) hp ht (hr_wrs _ _ _ _)
        rw [if_pos (show (0 : Int32) < oI (some (r + 1)) from nI_lt (a := 0) (b := r + 1) (by omega) (by omega)), eLd]
        simp only [Option.bind_some]
        have f := fin (ldv (fd (LC S q r p t) 40)) (by
          unfold ldI
          rw [hpin]
          show ldv (fd (LC S q r p t) 40) = (match fd (LC S q r p t) 40 with
            | some k => nI k
            | none => -1)
          cases fd (LC S q r p t) 40 <;> rfl)
        rw [hpin] at f
        exact f
theorem hx_fill {Q P q : Nat} {S : sy} (hw : wfS S) (hq : q < 2) (hQ : P + 2 < Q ∧ 22 < Q) (hP9 : 9 < P) (m : pj_M) (hn : XN m 7 S) (hP : PT m P S q) (h0 : m.1 Q 0 = nI q) (hg : GT m 21 (go S)) (hc : GT m 22 (cl S)) : ∃ m', H_X9_follow_23 pj_z Q 7 20 P 0 m = H_X9_follow_146 pj_z Q 7 20 P 0 m' ∧ fr [Q + 1, Q + 2] m m' ∧ ∀ p t, p < S.1 → t < S.1 → T12 m' Q S q p t := by
  have w1 := hw.1
  have hmk := mks_lt hw
  refine lp0 (P := fun z p => ∀ m : pj_M, XN m 7 S → PT m P S q → m.1 Q 0 = nI q → GT m 21 (go S) → GT m 22 (cl S) → (∀ p' t', p' < p → t' < S.1 → T12 m Q S q p' t') → ∃ m', H_X9_follow_23 z Q 7 20 P (nI p) m = H_X9_follow_146 pj_z Q 7 20 P 0 m' ∧ fr [Q + 1, Q + 2] m m' ∧ ∀ p t, p < S.1 → t < S.1 → T12 m' Q S q p t) S.1 (by omega) ?_ ?_ m hn hP h0 hg hc (fun p' t' h => by omega)
  · intro z m hn hP h0 hg hc hd
    refine ⟨m, ?_, fr.rf _ _, hd⟩
    rw [H_X9_follow_23]
    simp (disch := omega) only [Option.bind_some, ofn, l0, l1, l2, l3, l4, l5, l6, l7, l8, l9, l10, l11, l12, l19, l20, l30, l31, l40, l72, l100, hn_mul, hn_add, hn_sub, hn_or, hn_and, sh_r, sh_l, bt_n, bt_0, bt_1, hn_cl, if_true, if_false, ↓reduceIte, hn_lt, hn_le, hn_eq, ne_1, ne_m, lt_t, lt_f, le_t, le_f, eq_t, eq_f, Nat.not_lt_zero, false_or, or_false, or_self, false_and, and_false, true_and, and_true, not_true, not_false_iff, F_X4_states, hn.1]
  · intro z p hp ih m hn hP h0 hg hc hd
    obtain ⟨m1, g1, g2, g3⟩ := hx_fill1 (K := H_X9_follow_23 z) hw hq hQ hP9 hp m hn hP h0 hg hc hd
    obtain ⟨m', a1, a2, a3⟩ := ih m1 (hn.keep (g2 7 (by simp; omega)).1 (g2 8 (by simp; omega)).1 (g2 9 (by simp; omega)).1) (hP.keep (g2 P (by simp; omega)).1 (g2 (P + 1) (by simp; omega)).1 (g2 (P + 2) (by simp; omega)).2) (by rw [(g2 Q (by simp)).1]; exact h0) (hg.keep (g2 21 (by simp; omega)).1) (hc.keep (g2 22 (by simp; omega)).1) g3
    refine ⟨m', ?_, g2.tr a2, a3⟩
    have eM := px_marked hw hn
    have ebt : ((nI (mks S) >>> (nI p &&& 31)) &&& 1) = nI (if mkb S p then 1 else 0) := by
      rw [hn_bit (by omega) (by omega)]
      congr 1
      unfold mks
      rw [st_tb]
      simp [hp]
    rw [H_X9_follow_23]
    simp only [F_X4_states, Option.bind_some, hn.1]
    rw [if_pos (nI_lt hp (by omega)), eM]
    simp only [Option.bind_some]
    rw [ebt]
    cases hm : mkb S p with
    | true =>
      simp only [if_true]
      rw [if_neg (show ¬ nI 1 = 0 by decide)]
      rw [hm] at g1
      exact g1.trans a1
    | false =>
      simp only [Bool.false_eq_true, if_false]
      rw [if_pos (show nI 0 = 0 from rfl)]
      rw [hm] at g1
      exact g1.trans a1
