/-! PART 61: X's Teller: sizes -/
def OKP (m : pj_M) (Q : Nat) (S : sy) (q p t : Nat) : Prop := m.2 (Q + 3) (10 * p + t) = lN (FZ S q p t)
theorem ldI_0 {S : sy} {q p t : Nat} (h : pin S q p t = some 0) : ldI S q p t = if mkb S p then -2 else -3 := by
  unfold ldI
  rw [h]
theorem ldI_k {S : sy} {q p t r k : Nat} (h : pin S q p t = some (r + 1)) (hk : fd (LC S q r p t) 40 = some k) : ldI S q p t = nI k := by
  unfold ldI
  rw [h]
  simp only [hk]
theorem ldI_t {S : sy} {q p t r : Nat} (h : pin S q p t = some (r + 1)) (hk : fd (LC S q r p t) 40 = none) : ldI S q p t = -1 := by
  unfold ldI
  rw [h]
  simp only [hk]
theorem px_upTo {m : pj_M} {Q q s set e : Nat} {S : sy} (hs : s < 10) (hset : set < 2 ^ 31) (he : e ≤ 10) (h : ∀ u, u < e → set.testBit u = true → OKP m Q S q s u) : F_X9_sizeUpTo Q (nI s) (nI set) (nI e) m = some (lN (sgm (FZ S q s) set e), m) := by
  refine lp0 (P := fun z i => H_X9_sizeUpTo_6 z Q (nI s) (nI set) (nI e) (lN (sgm (FZ S q s) set i)) (nI i) m = some (lN (sgm (FZ S q s) set e), m)) e (by omega) ?_ ?_
  · intro z
    rw [H_X9_sizeUpTo_6]
    simp (disch := omega) only [Option.bind_some, ofn, l0, l1, l2, l3, l4, l5, l6, l7, l8, l9, l10, l11, l12, l19, l20, l30, l31, l40, l72, l100, hn_mul, hn_add, hn_sub, hn_or, hn_and, sh_r, sh_l, bt_n, bt_0, bt_1, hn_cl, if_true, if_false, ↓reduceIte, hn_lt, hn_le, hn_eq, ne_1, ne_m, lt_t, lt_f, le_t, le_f, eq_t, eq_f, Nat.not_lt_zero, false_or, or_false, or_self, false_and, and_false, true_and, and_true, not_true, not_false_iff]
  · intro z i hi ih
    rw [H_X9_sizeUpTo_6]
    by_cases hb : set.testBit i = true
    · have e1 : F_X9_sizeOf Q (nI s) (nI i) m = some (lN (FZ S q s i), m) := by
        unfold F_X9_sizeOf
        rw [l10, hn_mul, hn_add, Nat.mul_comm s 10, if_neg (hn_in (by omega) (by decide)), hn_cl (by omega), h i hi hb]
      simp only [sgm, hb, if_true] at ih
      simp (disch := omega) only [Option.bind_some, ofn, l0, l1, l2, l3, l4, l5, l6, l7, l8, l9, l10, l11, l12, l19, l20, l30, l31, l40, l72, l100, hn_mul, hn_add, hn_sub, hn_or, hn_and, sh_r, sh_l, bt_n, bt_0, bt_1, hn_cl, if_true, if_false, ↓reduceIte, hn_lt, hn_le, hn_eq, ne_1, ne_m, lt_t, lt_f, le_t, le_f, eq_t, eq_f, Nat.not_lt_zero, false_or, or_false, or_self, false_and, and_false, true_and, and_true, not_true, not_false_iff, hb, Bool.true_eq_false, e1]
      rw [lN_add]
      exact ih
    · simp only [sgm, hb, Bool.false_eq_true, if_false, Nat.add_zero] at ih
      simp only [Bool.not_eq_true] at hb
      simp (disch := omega) only [Option.bind_some, ofn, l0, l1, l2, l3, l4, l5, l6, l7, l8, l9, l10, l11, l12, l19, l20, l30, l31, l40, l72, l100, hn_mul, hn_add, hn_sub, hn_or, hn_and, sh_r, sh_l, bt_n, bt_0, bt_1, hn_cl, if_true, if_false, ↓reduceIte, hn_lt, hn_le, hn_eq, ne_1, ne_m, lt_t, lt_f, le_t, le_f, eq_t, eq_f, Nat.not_lt_zero, false_or, or_false, or_self, false_and, and_false, true_and, and_true, not_true, not_false_iff, hb]
      exact ih
theorem ten_ne : ¬ (10 : Int32) = 0 := by decide
theorem div10 {k : Nat} (h : k < 2 ^ 31) : nI k / 10 = nI (k / 10) := pk_div (d := 10) h (by decide) (by decide)
theorem rem10 {k : Nat} (h : k < 2 ^ 31) : nI k - nI k / 10 * 10 = nI (k % 10) := pk_rem (d := 10) h (by decide) (by decide)
theorem px_weigh {m : pj_M} {Q q p t ρ : Nat} {S : sy} (hw : wfS S) (hq : q < 2) (h0 : m.1 Q 0 = nI q) (hg : GT m 21 (go S)) (hc : GT m 22 (cl S)) (hp : p < S.1) (ht : t < S.1) (h2 : m.1 (Q + 2) (10 * p + t) = ldI S q p t) (hpin : pin S q p t = some ρ) (hS : ∀ a b r, a < S.1 → b < S.1 → r < ρ → pin S q a b = some r → OKP m Q S q a b) (hT : ldI S q p t = -1 → OKP m Q S q t p) : F_X9_weigh Q 20 (nI p) (nI t) m = some (lN (FZ S q p t), m) := by
  have w1 := hw.1
  have hp2 := p2_10 w1
  unfold F_X9_weigh
  rw [show nI p * 10 + nI t = nI (10 * p + t) by rw [l10, hn_mul, hn_add, Nat.mul_comm], if_neg (hn_in (by omega) (by decide)), hn_cl (by omega), h2]
  cases ρ with
  | zero =>
    rw [ldI_0 hpin, FZ_0 hw hpin]
    cases mkb S p with
    | true =>
      simp only [if_true]
      rw [if_neg (show ¬ (-2 : Int32) = -3 by decide)]
      rfl
    | false =>
      simp only [Bool.false_eq_true, if_false]
      rw [if_pos trivial]
      rfl
  | succ r =>
    cases hk : fd (LC S q r p t) 40 with
    | none =>
      have hl := ldI_t hpin hk
      have e1 : F_X9_sizeOf Q (nI t) (nI p) m = some (lN (FZ S q t p), m) := by
        unfold F_X9_sizeOf
        rw [l10, hn_mul, hn_add, Nat.mul_comm t 10, if_neg (hn_in (by omega) (by decide)), hn_cl (by omega), hT hl]
      rw [hl, if_neg (by decide), if_neg (by decide), if_pos rfl, e1, FZ_turn hw hq hp ht hpin hk]
      simp only [Option.bind_some]
      rw [ll_1, lN_add]
    | some k =>
      obtain ⟨hk40, hks⟩ := lead_lt hw hp hk
      have hrd := (pin_some hpin).1
      have hmt := mv_lt hw q (k / 10) ht
      have e1 := px_moved (m := m) (T := 20) (q := q) (a := k / 10) (s := t) (by omega) (by omega) (by omega) hg hc
      have e2 := px_upTo (m := m) (Q := Q) (q := q) (s := k % 10) (set := mv S q (k / 10) t) (e := 10) (S := S) (by omega) (by omega) (by decide) (fun u hu hb => by
        obtain ⟨r', g1, g2⟩ := lead_pin (r := r) (by omega) hk (tb_lt hmt hb) hb
        exact hS _ _ r' hks (tb_lt hmt hb) (by omega) g1)
      rw [ldI_k hpin hk, if_neg (nn3 (by omega)), if_neg (nn2 (by omega)), if_neg (nn1 (by omega)), if_neg ten_ne, h0, rem10 (by omega), div10 (by omega), e1]
      simp only [Option.bind_some]
      rw [if_neg ten_ne]
      have e2 : F_X9_sizeUpTo Q (nI (k % 10)) (nI (mv S q (k / 10) t)) 10 m = some (lN (sgm (FZ S q (k % 10)) (mv S q (k / 10) t) 10), m) := e2
      rw [e2, FZ_lead hw hp ht hpin hk]
      simp only [Option.bind_some]
      rw [show (2 : Int64) = lN 2 from rfl, lN_add]
/-- a right size is written: what was right stays so -/
theorem OKP.put {m : pj_M} {Q q p t : Nat} {S : sy} (h : OKP m Q S q p t) {p' t' : Nat} (ht : t < 10) (ht' : t' < 10) : OKP (pj_wl m (Q + 3) (10 * p' + t') (lN (FZ S q p' t'))) Q S q p t := by
  unfold OKP
  rw [hr_wl]
  by_cases he : 10 * p + t = 10 * p' + t'
  · rw [if_pos ⟨rfl, he⟩, show p = p' by omega, show t = t' by omega]
  · rw [if_neg (fun e => he e.2)]
    exact h
/-- which pairs a pass weighs -/
def WQ (S : sy) (q ρ ph p t : Nat) : Prop := pin S q p t = some ρ ∧ (ldI S q p t = -1 ↔ ph = 1)
def WB (m : pj_M) (Q : Nat) (S : sy) (q : Nat) : Prop := m.1 Q 0 = nI q ∧ GT m 21 (go S) ∧ GT m 22 (cl S) ∧ ∀ p t, p < S.1 → t < S.1 → T12 m Q S q p t
def WD (m : pj_M) (Q : Nat) (S : sy) (q ρ ph : Nat) : Prop := (∀ a b r, a < S.1 → b < S.1 → r < ρ → pin S q a b = some r → OKP m Q S q a b) ∧ (ph = 1 → ∀ a b, a < S.1 → b < S.1 → pin S q a b = some ρ → ¬ ldI S q a b = -1 → OKP m Q S q a b)
def WF2 (m m' : pj_M) (Q : Nat) (S : sy) (q : Nat) : Prop := m'.1 = m.1 ∧ (∀ a, a ≠ Q + 3 → m'.2 a = m.2 a) ∧ ∀ a b, a < S.1 → b < S.1 → OKP m Q S q a b → OKP m' Q S q a b
theorem WF2.tr {m m1 m2 : pj_M} {Q q : Nat} {S : sy} (h1 : WF2 m m1 Q S q) (h2 : WF2 m1 m2 Q S q) : WF2 m m2 Q S q := ⟨h2.1.trans h1.1, fun a ha => (h2.2.1 a ha).trans (h1.2.1 a ha), fun a b ha hb h => h2.2.2 a b ha hb (h1.2.2 a b ha hb h)⟩
theorem WF2.rf (m : pj_M) (Q : Nat) (S : sy) (q : Nat) : WF2 m m Q S q := ⟨rfl, fun _ _ => rfl, fun _ _ _ _ h => h⟩
theorem WB.keep {m m' : pj_M} {Q q : Nat} {S : sy} (h : WB m Q S q) (hf : WF2 m m' Q S q) : WB m' Q S q := by
  unfold WB GT T12 at h ⊢
  rw [hf.1]
  exact h
theorem WD.keep {m m' : pj_M} {Q q ρ ph : Nat} {S : sy} (h : WD m Q S q ρ ph) (hf : WF2 m m' Q S q) : WD m' Q S q ρ ph := ⟨fun a b r ha hb hr hp => hf.2.2 a b ha hb (h.1 a b r ha hb hr hp), fun h1 a b ha hb hp hl => hf.2.2 a b ha hb (h.2 h1 a b ha hb hp hl)⟩
theorem oI_inj {S : sy} (hw : wfS S) {q p t ρ : Nat} (hρ : ρ < 2 ^ 31) : (oI (pin S q p t) = nI ρ) ↔ pin S q p t = some ρ := by
  have h9 := rd_le9 hw q
  constructor
  · intro h
    cases hp : pin S q p t with
    | none =>
      rw [hp] at h
      exact absurd h.symm (of_eq_false (ne_m hρ))
    | some r =>
      rw [hp] at h
      have hr := (pin_some hp).1
      have : r = ρ := hn_inj (by omega) hρ h
      rw [this]
  · intro h
    rw [h]
    rfl
theorem hx_wall1 {Q q ρ ph p : Nat} {S : sy} (hw : wfS S) (hq : q < 2) (hph : ph < 2) (hρ : ρ ≤ 9) (hp : p < S.1) {K : Nat → Int32 → Nat → Int32 → Int32 → Int32 → pj_M → Option pj_M} (m : pj_M) (hB : WB m Q S q) (hD : WD m Q S q ρ ph) (hd : ∀ p' t', p' < p → t' < S.1 → WQ S q ρ ph p' t' → OKP m Q S q p' t') : ∃ m', H_X9_weighAll_12 K pj_z Q (nI S.1) 20 (nI ρ) (nI ph) (nI p) 0 m = K Q (nI S.1) 20 (nI ρ) (nI ph) (nI (p + 1)) m' ∧ WF2 m m' Q S q ∧ ∀ p' t', p' < p + 1 → t' < S.1 → WQ S q ρ ph p' t' → OKP m' Q S q p' t' := by
  have w1 := hw.1
  refine lp0 (P := fun z t => ∀ m : pj_M, WB m Q S q → WD m Q S q ρ ph → (∀ p' t', p' < p → t' < S.1 → WQ S q ρ ph p' t' → OKP m Q S q p' t') → (∀ t', t' < t → WQ S q ρ ph p t' → OKP m Q S q p t') → ∃ m', H_X9_weighAll_12 K z Q (nI S.1) 20 (nI ρ) (nI ph) (nI p) (nI t) m = K Q (nI S.1) 20 (nI ρ) (nI ph) (nI (p + 1)) m' ∧ WF2 m m' Q S q ∧ ∀ p' t', p' < p + 1 → t' < S.1 → WQ S q ρ ph p' t' → OKP m' Q S q p' t') S.1 (by omega) ?_ ?_ m hB hD hd (fun t' h => by omega)
  · intro z m hB hD hd hd2
    refine ⟨m, ?_, WF2.rf _ _ _ _, fun p' t' h1 h2 h3 => ?_⟩
    · rw [H_X9_weighAll_12]
      simp (disch := omega) only [Option.bind_some, ofn, l0, l1, l2, l3, l4, l5, l6, l7, l8, l9, l10, l11, l12, l19, l20, l30, l31, l40, l72, l100, hn_mul, hn_add, hn_sub, hn_or, hn_and, sh_r, sh_l, bt_n, bt_0, bt_1, hn_cl, if_true, if_false, ↓reduceIte, hn_lt, hn_le, hn_eq, ne_1, ne_m, lt_t, lt_f, le_t, le_f, eq_t, eq_f, Nat.not_lt_zero, false_or, or_false, or_self, false_and, and_false, true_and, and_true, not_true, not_false_iff]
    · by_cases hpp : p' = p
      · subst hpp
        exact hd2 t' h2 h3
      · exact hd p' t' (by omega) h2 h3
  · intro z t ht ih m hB hD hd hd2
    obtain ⟨b1, b2, b3, b4⟩ := id hB
    obtain ⟨c1, c2⟩ := b4 p t hp ht
    have eI : nI p * 10 + nI t = nI (10 * p + t) := by rw [l10, hn_mul, hn_add, Nat.mul_comm]
    -- passed over
    have skip : ¬ WQ S q ρ ph p t → ∃ m', H_X9_weighAll_12 K z Q (nI S.1) 20 (nI ρ) (nI ph) (nI p) (nI (t + 1)) m = K Q (nI S.1) 20 (nI ρ) (nI ph) (nI (p + 1)) m' ∧ WF2 m m' Q S q ∧ ∀ p' t', p' < p + 1 → t' < S.1 → WQ S q ρ ph p' t' → OKP m' Q S q p' t' := fun hno => ih m hB hD hd (fun t' h1 h2 => by
      by_cases htt : t' = t
      · subst htt
        exact absurd h2 hno
      · exact hd2 t' (by omega) h2)
    -- weighed
    have take : pin S q p t = some ρ → (ldI S q p t = -1 → OKP m Q S q t p) → ∃ m', (F_X9_weigh Q 20 (nI p) (nI t) m).bind (fun q1 => if nI (10 * p + t) < 0 ∨ 100 ≤ (nI (10 * p + t)).toNatClampNeg then none else H_X9_weighAll_12 K z Q (nI S.1) 20 (nI ρ) (nI ph) (nI p) (nI t + 1) (pj_wl q1.2 (Q + 3) (nI (10 * p + t)).toNatClampNeg q1.1)) = K Q (nI S.1) 20 (nI ρ) (nI ph) (nI (p + 1)) m' ∧ WF2 m m' Q S q ∧ ∀ p' t', p' < p + 1 → t' < S.1 → WQ S q ρ ph p' t' → OKP m' Q S q p' t' := by
      intro hpin hT
      have eW := px_weigh (m := m) (Q := Q) (p := p) (t := t) hw hq b1 b2 b3 hp ht c2 hpin hD.1 hT
      have fA : WF2 m (pj_wl m (Q + 3) (10 * p + t) (lN (FZ S q p t))) Q S q := ⟨rfl, fun a ha => by
        funext k
        rw [hr_wl, if_neg (fun e => ha e.1)], fun a b ha hb h => h.put (by omega) (by omega)⟩
      obtain ⟨m', g1, g2, g3⟩ := ih _ (hB.keep fA) (hD.keep fA) (fun p' t' h1 h2 h3 => fA.2.2 _ _ (by omega) h2 (hd p' t' h1 h2 h3)) (fun t' h1 h2 => by
        by_cases htt : t' = t
        · subst htt
          unfold OKP
          rw [hr_wl, if_pos ⟨rfl, rfl⟩]
        · exact fA.2.2 _ _ hp (by omega) (hd2 t' (by omega) h2))
      refine ⟨m', ?_, fA.tr g2, g3⟩
      rw [eW]
      simp only [Option.bind_some]
      rw [if_neg (hn_in (by omega) (by decide)), hn_cl (by omega), nI_1]
      exact g1
    rw [H_X9_weighAll_12, if_pos (nI_lt ht (by omega)), eI, if_neg (hn_in (by omega) (by decide)), hn_cl (by omega), if_neg (hn_in' (show 10 * p + t < 100 by omega) (by omega)), c1, c2]
    unfold J_X9_weighAll_55
    by_cases hpin : pin S q p t = some ρ
    · rw [if_pos ((oI_inj hw (by omega)).mpr hpin)]
      have hph' : ph = 0 ∨ ph = 1 := by omega
      by_cases hl : ldI S q p t = -1
      · rw [if_pos hl]
        rcases hph' with rfl | rfl
        · rw [if_neg (show ¬ (1 : Int32) = nI 0 by decide), nI_1]
          exact skip (fun h => by have := h.2.mp hl; omega)
        · rw [if_pos (show (1 : Int32) = nI 1 from rfl)]
          have h9 := rd_le9 hw q
          have hρ0 : ρ ≠ 0 := fun e => by
            rw [e] at hpin
            rw [ldI_0 hpin] at hl
            cases hm : mkb S p with
            | true =>
              rw [hm] at hl
              exact absurd hl (by decide)
            | false =>
              rw [hm] at hl
              exact absurd hl (by decide)
          obtain ⟨r, rfl⟩ : ∃ r, ρ = r + 1 := ⟨ρ - 1, by omega⟩
          have hk : fd (LC S q r p t) 40 = none := by
            cases hk : fd (LC S q r p t) 40 with
            | none => rfl
            | some k =>
              rw [ldI_k hpin hk] at hl
              have := (fd_some hk).1
              exact absurd hl (nn1 (by omega))
          obtain ⟨k, hk2⟩ := lead_ex hw hq hp ht hpin hk
          have hpin' : pin S q t p = some (r + 1) := by rw [pin_symm]; exact hpin
          exact take hpin (fun _ => hD.2 rfl t p ht hp hpin' (by
            rw [ldI_k hpin' hk2]
            have := (fd_some hk2).1
            exact nn1 (by omega)))
      · rw [if_neg hl]
        rcases hph' with rfl | rfl
        · rw [if_pos (show (0 : Int32) = nI 0 from rfl)]
          exact take hpin (fun h => absurd h hl)
        · rw [if_neg (show ¬ (0 : Int32) = nI 1 by decide), nI_1]
          exact skip (fun h => hl (h.2.mpr rfl))
    · rw [if_neg (fun e => hpin ((oI_inj hw (by omega)).mp e)), nI_1]
      exact skip (fun h => hpin h.1)
theorem px_wall {Q q ρ ph : Nat} {S : sy} (hw : wfS S) (hq : q < 2) (hph : ph < 2) (hρ : ρ ≤ 9) (m : pj_M) (hB : WB m Q S q) (hD : WD m Q S q ρ ph) : ∃ m', F_X9_weighAll Q (nI S.1) 20 (nI ρ) (nI ph) m = some m' ∧ WF2 m m' Q S q ∧ ∀ p t, p < S.1 → t < S.1 → WQ S q ρ ph p t → OKP m' Q S q p t := by
  have w1 := hw.1
  refine lp0 (P := fun z p => ∀ m : pj_M, WB m Q S q → WD m Q S q ρ ph → (∀ p' t', p' < p → t' < S.1 → WQ S q ρ ph p' t' → OKP m Q S q p' t') → ∃ m', H_X9_weighAll_3 z Q (nI S.1) 20 (nI ρ) (nI ph) (nI p) m = some m' ∧ WF2 m m' Q S q ∧ ∀ p t, p < S.1 → t < S.1 → WQ S q ρ ph p t → OKP m' Q S q p t) S.1 (by omega) ?_ ?_ m hB hD (fun p' t' h => by omega)
  · intro z m hB hD hd
    refine ⟨m, ?_, WF2.rf _ _ _ _, hd⟩
    rw [H_X9_weighAll_3]
    simp (disch := omega) only [Option.bind_some, ofn, l0, l1, l2, l3, l4, l5, l6, l7, l8, l9, l10, l11, l12, l19, l20, l30, l31, l40, l72, l100, hn_mul, hn_add, hn_sub, hn_or, hn_and, sh_r, sh_l, bt_n, bt_0, bt_1, hn_cl, if_true, if_false, ↓reduceIte, hn_lt, hn_le, hn_eq, ne_1, ne_m, lt_t, lt_f, le_t, le_f, eq_t, eq_f, Nat.not_lt_zero, false_or, or_false, or_self, false_and, and_false, true_and, and_true, not_true, not_false_iff]
  · intro z p hp ih m hB hD hd
    obtain ⟨m1, g1, g2, g3⟩ := hx_wall1 (K := H_X9_weighAll_3 z) hw hq hph hρ hp m hB hD hd
    obtain ⟨m', a1, a2, a3⟩ := ih m1 (hB.keep g2) (hD.keep g2) g3
    refine ⟨m', ?_, g2.tr a2, a3⟩
    rw [H_X9_weighAll_3, if_pos (nI_lt hp (by omega))]
    exact g1.trans a1
theorem hx_rounds {Q P q : Nat} {S : sy} (hw : wfS S) (hq : q < 2) (m : pj_M) (hn : XN m 7 S) (hP4 : m.1 P 4 = nI (rd S q)) (hB : WB m Q S q) : ∃ m', H_X9_follow_146 pj_z Q 7 20 P 0 m = some m' ∧ WF2 m m' Q S q ∧ ∀ a b r, a < S.1 → b < S.1 → pin S q a b = some r → OKP m' Q S q a b := by
  have h9 := rd_le9 hw q
  refine lp0 (P := fun z ρ => ∀ m : pj_M, XN m 7 S → m.1 P 4 = nI (rd S q) → WB m Q S q → (∀ a b r, a < S.1 → b < S.1 → r < ρ → pin S q a b = some r → OKP m Q S q a b) → ∃ m', H_X9_follow_146 z Q 7 20 P (nI ρ) m = some m' ∧ WF2 m m' Q S q ∧ ∀ a b r, a < S.1 → b < S.1 → pin S q a b = some r → OKP m' Q S q a b) (rd S q + 1) (by omega) ?_ ?_ m hn hP4 hB (fun a b r _ _ h => by omega)
  · intro z m hn hP4 hB hD
    refine ⟨m, ?_, WF2.rf _ _ _ _, fun a b r ha hb hp => hD a b r ha hb (by have := (pin_some hp).1; omega) hp⟩
    rw [H_X9_follow_146]
    simp (disch := omega) only [Option.bind_some, ofn, l0, l1, l2, l3, l4, l5, l6, l7, l8, l9, l10, l11, l12, l19, l20, l30, l31, l40, l72, l100, hn_mul, hn_add, hn_sub, hn_or, hn_and, sh_r, sh_l, bt_n, bt_0, bt_1, hn_cl, if_true, if_false, ↓reduceIte, hn_lt, hn_le, hn_eq, ne_1, ne_m, lt_t, lt_f, le_t, le_f, eq_t, eq_f, Nat.not_lt_zero, false_or, or_false, or_self, false_and, and_false, true_and, and_true, not_true, not_false_iff, F_X5_rounds, hP4]
  · intro z ρ hρ ih m hn hP4 hB hD
    obtain ⟨m1, g1, g2, g3⟩ := px_wall (Q := Q) (ρ := ρ) (ph := 0) hw hq (by decide) (by omega) m hB ⟨hD, fun h => by omega⟩
    have hD1 : WD m1 Q S q ρ 1 := ⟨fun a b r ha hb hr hp => g2.2.2 a b ha hb (hD a b r ha hb hr hp), fun _ a b ha hb hp hl => g3 a b ha hb ⟨hp, ⟨fun h => absurd h hl, fun h => by omega⟩⟩⟩
    obtain ⟨m2, a1, a2, a3⟩ := px_wall (Q := Q) (ρ := ρ) (ph := 1) hw hq (by decide) (by omega) m1 (hB.keep g2) hD1
    have hn1 : XN m1 7 S := hn.keep (by rw [g2.1]) (by rw [g2.1]) (by rw [g2.1])
    have hn2 : XN m2 7 S := hn1.keep (by rw [a2.1]) (by rw [a2.1]) (by rw [a2.1])
    obtain ⟨m', b1, b2, b3⟩ := ih m2 hn2 (by rw [a2.1, g2.1]; exact hP4) ((hB.keep g2).keep a2) (fun a b r ha hb hr hp => by
      by_cases hrr : r = ρ
      · subst hrr
        by_cases hl : ldI S q a b = -1
        · exact a3 a b ha hb ⟨hp, ⟨fun _ => rfl, fun _ => hl⟩⟩
        · exact a2.2.2 a b ha hb (g3 a b ha hb ⟨hp, ⟨fun h => absurd h hl, fun h => by omega⟩⟩)
      · exact a2.2.2 a b ha hb (g2.2.2 a b ha hb (hD a b r ha hb (by omega) hp)))
    refine ⟨m', ?_, (g2.tr a2).tr b2, b3⟩
    have g1 : F_X9_weighAll Q (nI S.1) 20 (nI ρ) 0 m = some m1 := g1
    have a1 : F_X9_weighAll Q (nI S.1) 20 (nI ρ) 1 m1 = some m2 := a1
    rw [H_X9_follow_146]
    simp only [F_X5_rounds, F_X4_states, Option.bind_some, hP4, hn.1]
    rw [if_neg (nI_nlt (by omega) (by omega)), g1]
    simp only [Option.bind_some, hn1.1]
    rw [a1]
    simp only [Option.bind_some]
    rw [nI_1]
    exact b1
theorem px_tfollow {Q P q : Nat} {S : sy} (hw : wfS S) (hq : q < 2) (hQ : P + 2 < Q ∧ 22 < Q) (hP9 : 9 < P) (m : pj_M) (hn : XN m 7 S) (hP : PT m P S q) (h0 : m.1 Q 0 = nI q) (hg : GT m 21 (go S)) (hc : GT m 22 (cl S)) (hv : ¬ m.1 Q 4 = m.1 7 4) : ∃ m', F_X9_follow Q 7 20 P m = some m' ∧ fr [Q, Q + 1, Q + 2, Q + 3] m m' ∧ TT m' Q S q ∧ m'.1 Q 4 = m.1 7 4 ∧ m'.1 Q 0 = nI q := by
  have fA : fr [Q, Q + 1, Q + 2, Q + 3] m (pj_wr m Q 4 (m.1 7 4)) := fr.wr _ _ (by simp) _ _
  obtain ⟨m1, g1, g2, g3⟩ := hx_fill (Q := Q) (P := P) hw hq hQ hP9 (pj_wr m Q 4 (m.1 7 4)) (hn.keep (fA 7 (by simp; omega)).1 (fA 8 (by simp; omega)).1 (fA 9 (by simp; omega)).1) (hP.keep (fA P (by simp; omega)).1 (fA (P + 1) (by simp; omega)).1 (fA (P + 2) (by simp; omega)).2) (by rw [hr_wrk (by decide)]; exact h0) (hg.keep (fA 21 (by simp; omega)).1) (hc.keep (fA 22 (by simp; omega)).1)
  have f1 : fr [Q, Q + 1, Q + 2, Q + 3] m m1 := fA.tr (g2.mono (by simp))
  have eQ : m1.1 Q = (pj_wr m Q 4 (m.1 7 4)).1 Q := (g2 Q (by simp)).1
  obtain ⟨m2, a1, a2, a3⟩ := hx_rounds (Q := Q) (P := P) hw hq m1 (hn.keep (f1 7 (by simp; omega)).1 (f1 8 (by simp; omega)).1 (f1 9 (by simp; omega)).1) (by rw [(f1 P (by simp; omega)).1]; exact hP.2.2.1) ⟨by rw [eQ, hr_wrk (by decide)]; exact h0, hg.keep (f1 21 (by simp; omega)).1, hc.keep (f1 22 (by simp; omega)).1, g3⟩
  refine ⟨m2, ?_, f1.tr (fun a ha => ⟨by rw [a2.1], a2.2.1 a (by simp at ha; omega)⟩), fun p t hp ht => ⟨?_, ?_, fun r hr => a3 p t r hp ht hr⟩, ?_, ?_⟩
  · unfold F_X9_follow
    simp only [F_X4_version, Option.bind_some]
    rw [if_neg hv]
    exact g1.trans a1
  · rw [a2.1]
    exact (g3 p t hp ht).1
  · rw [a2.1]
    exact (g3 p t hp ht).2
  · rw [a2.1, eQ, hr_wrs]
  · rw [a2.1, eQ, hr_wrk (by decide)]
    exact h0
