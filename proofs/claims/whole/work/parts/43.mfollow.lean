/-! PART 43: the reference's partsBy; in which round two are parted -/
def PB (m : pj_M) (S : sy) (q : Nat) : Prop := m.1 72 23 = nI (rd S q) ∧ ∀ r s, r ≤ rd S q → s < S.1 → m.1 86 (10 * r + s) = nI (bl S q r s)
theorem LK.keep {m m' : pj_M} {S : sy} (h : LK m S) (e : ∀ a ∈ [83, 84, 85], m'.1 a = m.1 a) : LK m' S := by
  obtain ⟨h1, h2, h3⟩ := h
  refine ⟨h1.keep (e 83 (by decide)), h2.keep (e 84 (by decide)), ?_⟩
  rw [e 85 (by decide)]
  exact h3
theorem pm_marked {m : pj_M} {S : sy} (hw : wfS S) (hl : LK m S) {s : Nat} (hs : s < S.1) : F_X11_isMarked (nI s) m = some (nI (if mkb S s then 1 else 0), m) := by
  have w1 := hw.1
  have hk := hw.2.2.1 s hs
  have e := hl.1.2.2.1 s hs
  rw [Nat.zero_add] at e
  unfold F_X11_isMarked
  by_cases h2 : S.2.1 s = 2
  · have eb : mkb S s = true := by simp [mkb, h2]
    simp (disch := omega) only [Option.bind_some, ofn, l0, l1, l2, l3, l4, l5, l6, l7, l8, l9, l10, l11, l12, l19, l20, l30, l31, l40, l72, l100, hn_mul, hn_add, hn_sub, hn_or, hn_and, sh_r, sh_l, bt_n, bt_0, bt_1, hn_cl, if_true, if_false, ↓reduceIte, hn_lt, hn_le, hn_eq, ne_1, ne_m, lt_t, lt_f, le_t, le_f, eq_t, eq_f, Nat.not_lt_zero, false_or, or_false, or_self, false_and, and_false, true_and, and_true, not_true, not_false_iff, e, h2, eb]
  · by_cases h5 : S.2.1 s = 5
    · have eb : mkb S s = true := by simp [mkb, h5]
      simp (disch := omega) only [Option.bind_some, ofn, l0, l1, l2, l3, l4, l5, l6, l7, l8, l9, l10, l11, l12, l19, l20, l30, l31, l40, l72, l100, hn_mul, hn_add, hn_sub, hn_or, hn_and, sh_r, sh_l, bt_n, bt_0, bt_1, hn_cl, if_true, if_false, ↓reduceIte, hn_lt, hn_le, hn_eq, ne_1, ne_m, lt_t, lt_f, le_t, le_f, eq_t, eq_f, Nat.not_lt_zero, false_or, or_false, or_self, false_and, and_false, true_and, and_true, not_true, not_false_iff, e, h5, eb]
    · have eb : mkb S s = false := by simp [mkb, h2, h5]
      simp (disch := omega) only [Option.bind_some, ofn, l0, l1, l2, l3, l4, l5, l6, l7, l8, l9, l10, l11, l12, l19, l20, l30, l31, l40, l72, l100, hn_mul, hn_add, hn_sub, hn_or, hn_and, sh_r, sh_l, bt_n, bt_0, bt_1, hn_cl, if_true, if_false, ↓reduceIte, hn_lt, hn_le, hn_eq, ne_1, ne_m, lt_t, lt_f, le_t, le_f, eq_t, eq_f, Nat.not_lt_zero, false_or, or_false, or_self, false_and, and_false, true_and, and_true, not_true, not_false_iff, e, h2, h5, eb, Bool.false_eq_true]
theorem hm_psig {m : pj_M} {r q x2 : Nat} {S : sy} (hw : wfS S) (hl : LK m S) (hq : q < 3) (hr : r < 20) (h23 : m.1 72 23 = nI r) (hb : ∀ t, t < S.1 → m.1 86 (10 * r + t) = nI (bl S q r t)) {k : Int32 → Int32 → Int32 → pj_M → Option (Int32 × pj_M)} : ∃ m', H_X11_partsBy_64 k pj_z (nI q) (nI x2) 0 m = J_X11_partsBy_97 k (nI q) (nI x2) m' ∧ m'.1 = m.1 ∧ (∀ a, a ≠ 87 → m'.2 a = m.2 a) ∧ ∀ s, s < S.1 → m'.2 87 s = lN (sgn S q (bl S q r) s) := by
  have w1 := hw.1
  refine lp0 (P := fun z j => ∀ m, LK m S → m.1 72 23 = nI r → (∀ t, t < S.1 → m.1 86 (10 * r + t) = nI (bl S q r t)) → (∀ s, s < j → m.2 87 s = lN (sgn S q (bl S q r) s)) → ∃ m', H_X11_partsBy_64 k z (nI q) (nI x2) (nI j) m = J_X11_partsBy_97 k (nI q) (nI x2) m' ∧ m'.1 = m.1 ∧ (∀ a, a ≠ 87 → m'.2 a = m.2 a) ∧ ∀ s, s < S.1 → m'.2 87 s = lN (sgn S q (bl S q r) s)) S.1 (by omega) ?_ ?_ m hl h23 hb (fun s hs => by omega)
  · intro z m hl h23 hb hs
    refine ⟨m, ?_, rfl, fun _ _ => rfl, hs⟩
    rw [H_X11_partsBy_64, mx_states, hl.1.1]
    simp (disch := omega) only [Option.bind_some, ofn, l0, l1, l2, l3, l4, l5, l6, l7, l8, l9, l10, l11, l12, l19, l20, l30, l31, l40, l72, l100, hn_mul, hn_add, hn_sub, hn_or, hn_and, sh_r, sh_l, bt_n, bt_0, bt_1, hn_cl, if_true, if_false, ↓reduceIte, hn_lt, hn_le, hn_eq, ne_1, ne_m, lt_t, lt_f, le_t, le_f, eq_t, eq_f, Nat.not_lt_zero, false_or, or_false, or_self, false_and, and_false, true_and, and_true, not_true, not_false_iff]
  · intro z j hj ih m hl h23 hb hs
    obtain ⟨m', g1, g2, g3, g4⟩ := ih (pj_wl m 87 j (lN (sgn S q (bl S q r) j))) hl h23 hb (fun s hs' => by
      rw [hr_wl]
      by_cases hsj : s = j
      · rw [if_pos ⟨rfl, hsj⟩, hsj]
      · rw [if_neg (fun e => hsj e.2)]
        exact hs s (by omega))
    refine ⟨m', ?_, g2, fun a ha => ?_, g4⟩
    · rw [H_X11_partsBy_64, mx_states, hl.1.1]
      have e1 := pm_signs (m := m) (r := r) (s := j) (q := q) hw hl hq (by omega) hj (bl_10 hw q r) hb
      simp (disch := omega) only [Option.bind_some, ofn, l0, l1, l2, l3, l4, l5, l6, l7, l8, l9, l10, l11, l12, l19, l20, l30, l31, l40, l72, l100, hn_mul, hn_add, hn_sub, hn_or, hn_and, sh_r, sh_l, bt_n, bt_0, bt_1, hn_cl, if_true, if_false, ↓reduceIte, hn_lt, hn_le, hn_eq, ne_1, ne_m, lt_t, lt_f, le_t, le_f, eq_t, eq_f, Nat.not_lt_zero, false_or, or_false, or_self, false_and, and_false, true_and, and_true, not_true, not_false_iff, h23, e1]
      exact g1
    · rw [g3 a ha]
      funext k
      rw [hr_wl, if_neg (fun e => ha e.1)]
theorem fk.of12 {l : List Nat} {p : List (Nat × Nat)} {m m' : pj_M} {G : Nat} (hG : G ∈ l) (h1 : m'.1 = m.1) (h2 : ∀ a, a ≠ G → m'.2 a = m.2 a) : fk l p m m' := ⟨fun a k _ _ => by rw [h1], fun a ha => h2 a (fun e => ha (e ▸ hG))⟩
theorem fw.fk {B lo hi : Nat} {m m' : pj_M} (h : fw B lo hi m m') {l : List Nat} {p : List (Nat × Nat)} (hB : B ∈ l) : fk l p m m' := ⟨fun a k ha _ => h.2 a k (fun e => ha (e.1 ▸ hB)), fun a _ => by rw [h.1]⟩
theorem hm_loop {q : Nat} {S : sy} (hw : wfS S) (hq : q < 3) (m : pj_M) (hl : LK m S) (h23 : m.1 72 23 = nI 0) (hb : ∀ r s, r ≤ 0 → s < S.1 → m.1 86 (10 * r + s) = nI (bl S q r s)) : ∃ m', H_X11_partsBy_57 pj_z (nI q) (nI (ct S q 0)) 1 m = some (nI (ct S q (rd S q)), m') ∧ fk [86, 87] [(72, 23)] m m' ∧ PB m' S q := by
  have w1 := hw.1
  have hrd := rd_le9 hw q
  obtain ⟨z0, hz0⟩ : ∃ z0, pj_z = z0 + 1 := ⟨pj_z - 1, by have := pj_z_ge; omega⟩
  rw [hz0]
  refine lp (P := fun z r => ∀ m, LK m S → m.1 72 23 = nI r → (∀ r' s, r' ≤ r → s < S.1 → m.1 86 (10 * r' + s) = nI (bl S q r' s)) → ∃ m', H_X11_partsBy_57 (z + 1) (nI q) (nI (ct S q r)) 1 m = some (nI (ct S q (rd S q)), m') ∧ fk [86, 87] [(72, 23)] m m' ∧ PB m' S q) (n := rd S q) ?_ ?_ z0 0 (by omega) (by have := pj_z_ge; omega) m hl h23 hb
  · intro z m hl h23 hb
    obtain ⟨ma, a1, a2, a3, a4⟩ := hm_psig (k := H_X11_partsBy_57 (z + 1)) (x2 := ct S q (rd S q)) hw hl hq (by omega : rd S q < 20) h23 (fun t ht => hb _ t (Nat.le_refl _) ht)
    have hk := ky_KM (m := ma) (G := 87) (B := 86) (r := rd S q) (q := q) hw a4 (fun t ht => by rw [a2]; exact hb _ t (Nat.le_refl _) ht)
    obtain ⟨mb, b1, b2, b3⟩ := pm_numbers (m := ma) (ρ := rd S q + 1) w1 (by omega) (by rw [a2]; exact hl.1.1) hk
    have e23 : mb.1 72 23 = nI (rd S q) := by rw [b2.at (by decide), a2, h23]
    refine ⟨pj_wr mb 72 23 (nI (rd S q)), ?_, ?_, ?_, fun r s hr hs => ?_⟩
    · rw [H_X11_partsBy_57]
      have ec : cn (ky S q (rd S q + 1)) S.1 = ct S q (rd S q) := rd_stop hw (by omega)
      have hct := ct_le S q (rd S q)
      rw [ec] at b1
      rw [if_neg (by decide)]
      refine a1.trans ?_
      unfold J_X11_partsBy_97 J_X11_partsBy_120
      rw [a2, h23, nI_1, b1]
      simp only [Option.bind_some]
      rw [if_neg (nI_nlt (Nat.le_refl _) (by omega))]
      simp only [if_true]
      rw [e23, H_X11_partsBy_57, Int32.add_zero]
      simp only [if_true]
    · exact ((fk.of12 (by decide) a2 a3).tr (b2.fk (by decide))).tr (fk.wp _ (by decide) _)
    · rw [hr_wrs]
    · rw [hr_wra (by decide), b2.2 _ _ (by omega), a2]
      exact hb r s hr hs
  · intro z r hr ih m hl h23 hb
    obtain ⟨ma, a1, a2, a3, a4⟩ := hm_psig (k := H_X11_partsBy_57 (z + 1)) (x2 := ct S q r) hw hl hq (by omega : r < 20) h23 (fun t ht => hb _ t (Nat.le_refl _) ht)
    have hk := ky_KM (m := ma) (G := 87) (B := 86) (r := r) (q := q) hw a4 (fun t ht => by rw [a2]; exact hb _ t (Nat.le_refl _) ht)
    obtain ⟨mb, b1, b2, b3⟩ := pm_numbers (m := ma) (ρ := r + 1) w1 (by omega) (by rw [a2]; exact hl.1.1) hk
    have e23 : mb.1 72 23 = nI r := by rw [b2.at (by decide), a2, h23]
    have b1 : F_X11_numbers (nI (r + 1)) ma = some (nI (ct S q (r + 1)), mb) := b1
    have fA : fk [86, 87] [(72, 23)] m (pj_wr mb 72 23 (nI (r + 1))) := ((fk.of12 (by decide) a2 a3).tr (b2.fk (by decide))).tr (fk.wp _ (by decide) _)
    obtain ⟨m', g1, g2, g3⟩ := ih (pj_wr mb 72 23 (nI (r + 1))) (hl.keep (fA.cells _ (by decide))) (by rw [hr_wrs]) (fun r' s hr' hs => by
      rw [hr_wra (by decide)]
      by_cases hrr : r' = r + 1
      · rw [hrr, b3 s hs]
        rfl
      · rw [b2.2 _ _ (by omega), a2]
        exact hb r' s (by omega) hs)
    refine ⟨m', ?_, fA.tr g2, g3⟩
    rw [H_X11_partsBy_57, if_neg (by decide)]
    refine a1.trans ?_
    have h1 := rd_go hr
    have h2 := ct_le S q (r + 1)
    unfold J_X11_partsBy_97 J_X11_partsBy_120
    rw [a2, h23, nI_1, b1]
    simp only [Option.bind_some]
    rw [if_pos (nI_lt h1 (show ct S q (r + 1) < 2 ^ 31 by omega)), if_neg (by decide), e23, nI_1]
    exact g1
theorem pm_partsBy {q : Nat} {S : sy} {m : pj_M} (hw : wfS S) (hl : LK m S) (hq : q < 4) : ∃ m', F_X11_partsBy (nI q) m = some (nI (ct S q (rd S q)), m') ∧ fk [86, 87] [(72, 23)] m m' ∧ PB m' S q := by
  have w1 := hw.1
  have loop : ∃ m', H_X11_partsBy_2 pj_z (nI q) 0 m = J_X11_partsBy_35 (nI q) m' ∧ m'.1 = m.1 ∧ (∀ a, a ≠ 87 → m'.2 a = m.2 a) ∧ ∀ s, s < S.1 → m'.2 87 s = lN (if mkb S s then 1 else 0) := by
    refine lp0 (P := fun z j => ∀ m, LK m S → (∀ s, s < j → m.2 87 s = lN (if mkb S s then 1 else 0)) → ∃ m', H_X11_partsBy_2 z (nI q) (nI j) m = J_X11_partsBy_35 (nI q) m' ∧ m'.1 = m.1 ∧ (∀ a, a ≠ 87 → m'.2 a = m.2 a) ∧ ∀ s, s < S.1 → m'.2 87 s = lN (if mkb S s then 1 else 0)) S.1 (by omega) ?_ ?_ m hl (fun s hs => by omega)
    · intro z m hl hs
      refine ⟨m, ?_, rfl, fun _ _ => rfl, hs⟩
      rw [H_X11_partsBy_2, mx_states, hl.1.1]
      simp (disch := omega) only [Option.bind_some, ofn, l0, l1, l2, l3, l4, l5, l6, l7, l8, l9, l10, l11, l12, l19, l20, l30, l31, l40, l72, l100, hn_mul, hn_add, hn_sub, hn_or, hn_and, sh_r, sh_l, bt_n, bt_0, bt_1, hn_cl, if_true, if_false, ↓reduceIte, hn_lt, hn_le, hn_eq, ne_1, ne_m, lt_t, lt_f, le_t, le_f, eq_t, eq_f, Nat.not_lt_zero, false_or, or_false, or_self, false_and, and_false, true_and, and_true, not_true, not_false_iff]
    · intro z j hj ih m hl hs
      obtain ⟨m', g1, g2, g3, g4⟩ := ih (pj_wl m 87 j (lN (if mkb S j then 1 else 0))) hl (fun s hs' => by
        rw [hr_wl]
        by_cases hsj : s = j
        · rw [if_pos ⟨rfl, hsj⟩, hsj]
        · rw [if_neg (fun e => hsj e.2)]
          exact hs s (by omega))
      refine ⟨m', ?_, g2, fun a ha => ?_, g4⟩
      · rw [H_X11_partsBy_2, mx_states, hl.1.1]
        have e1 := pm_marked hw hl hj
        cases hm : mkb S j with
        | true =>
          rw [hm] at g1 e1
          simp (disch := omega) only [Option.bind_some, ofn, l0, l1, l2, l3, l4, l5, l6, l7, l8, l9, l10, l11, l12, l19, l20, l30, l31, l40, l72, l100, hn_mul, hn_add, hn_sub, hn_or, hn_and, sh_r, sh_l, bt_n, bt_0, bt_1, hn_cl, if_true, if_false, ↓reduceIte, hn_lt, hn_le, hn_eq, ne_1, ne_m, lt_t, lt_f, le_t, le_f, eq_t, eq_f, Nat.not_lt_zero, false_or, or_false, or_self, false_and, and_false, true_and, and_true, not_true, not_false_iff, e1]
          exact g1
        | false =>
          rw [hm] at g1 e1
          simp only [Bool.false_eq_true, if_false] at g1 e1
          simp (disch := omega) only [Option.bind_some, ofn, l0, l1, l2, l3, l4, l5, l6, l7, l8, l9, l10, l11, l12, l19, l20, l30, l31, l40, l72, l100, hn_mul, hn_add, hn_sub, hn_or, hn_and, sh_r, sh_l, bt_n, bt_0, bt_1, hn_cl, if_true, if_false, ↓reduceIte, hn_lt, hn_le, hn_eq, ne_1, ne_m, lt_t, lt_f, le_t, le_f, eq_t, eq_f, Nat.not_lt_zero, false_or, or_false, or_self, false_and, and_false, true_and, and_true, not_true, not_false_iff, e1]
          exact g1
      · rw [g3 a ha]
        funext k
        rw [hr_wl, if_neg (fun e => ha e.1)]
  obtain ⟨ma, a1, a2, a3, a4⟩ := loop
  have hK : KM ma 87 86 0 S.1 (ky S q 0) := by
    intro k hk
    refine ⟨a4 k hk, ?_, ?_, fun _ => rfl, fun h => by omega⟩
    · show (if mkb S k then 1 else 0) < 2 ^ 63
      split <;> decide
    · show (0 : Nat) < 2 ^ 31
      decide
  obtain ⟨mb, b1, b2, b3⟩ := pm_numbers (m := ma) (ρ := 0) w1 (by decide) (by rw [a2]; exact hl.1.1) hK
  have b1' : F_X11_numbers 0 ma = some (nI (ct S q 0), mb) := b1
  have fA : fk [86, 87] [(72, 23)] m (pj_wr mb 72 23 (nI 0)) := ((fk.of12 (by decide) a2 a3).tr (b2.fk (by decide))).tr (fk.wp _ (by decide) _)
  have hb0 : ∀ r s, r ≤ 0 → s < S.1 → (pj_wr mb 72 23 (nI 0)).1 86 (10 * r + s) = nI (bl S q r s) := by
    intro r s hr hs
    obtain rfl : r = 0 := by omega
    rw [hr_wra (by decide), b3 s hs]
    rfl
  unfold F_X11_partsBy
  rw [a1]
  unfold J_X11_partsBy_35
  rw [b1']
  simp only [Option.bind_some]
  by_cases h3 : q = 3
  · rw [if_neg (by rw [h3]; decide)]
    obtain ⟨z0, hz0⟩ : ∃ z0, pj_z = z0 + 1 := ⟨pj_z - 1, by have := pj_z_ge; omega⟩
    rw [hz0, H_X11_partsBy_57, if_pos rfl]
    refine ⟨_, ?_, fA, ?_, fun r s hr hs => ?_⟩
    · rw [h3]
      rfl
    · rw [h3, hr_wrs]
      rfl
    · rw [h3, rd3] at hr
      exact hb0 r s hr hs
  · rw [if_pos (show nI q < 3 from nI_lt (b := 3) (by omega) (by decide))]
    obtain ⟨m', g1, g2, g3⟩ := hm_loop (q := q) hw (by omega) (pj_wr mb 72 23 (nI 0)) (hl.keep (fA.cells _ (by decide))) (by rw [hr_wrs]) hb0
    exact ⟨m', g1, fA.tr g2, g3⟩
/-- the round in which two are parted: from round r on, j more -/
def pij (S : sy) (q p t : Nat) : Nat → Nat → Option Nat
  | 0, r => if bl S q r p = bl S q r t then none else some r
  | j + 1, r => if bl S q r p = bl S q r t then pij S q p t j (r + 1) else some r
def pin (S : sy) (q p t : Nat) : Option Nat := pij S q p t (rd S q) 0
def oI (o : Option Nat) : Int32 := match o with
  | none => -1000000
  | some r => nI r
theorem px_roundOf {m : pj_M} {P q p t : Nat} {S : sy} (hw : wfS S) (hP : PT m P S q) (hp : p < S.1) (ht : t < S.1) : F_X5_roundOf P (nI p) (nI t) m = some (oI (pin S q p t), m) := by
  have w1 := hw.1
  have hrd := rd_le9 hw q
  obtain ⟨z0, hz0⟩ : ∃ z0, pj_z = z0 + 1 := ⟨pj_z - 1, by have := pj_z_ge; omega⟩
  unfold F_X5_roundOf
  rw [hz0]
  refine lp (P := fun z r => H_X5_roundOf_2 (z + 1) P (nI p) (nI t) (nI r) m = some (oI (pij S q p t (rd S q - r) r), m)) (n := rd S q) ?_ ?_ z0 0 (by omega) (by have := pj_z_ge; omega)
  · intro z
    rw [H_X5_roundOf_2, hP.2.2.1, Nat.sub_self]
    have e1 := px_bb (m := m) (P := P) (r := rd S q) (s := p) (by omega) (by omega)
    have e2 := px_bb (m := m) (P := P) (r := rd S q) (s := t) (by omega) (by omega)
    rw [hP.2.2.2.2.1 _ p (Nat.le_refl _) hp] at e1
    rw [hP.2.2.2.2.1 _ t (Nat.le_refl _) ht] at e2
    have h1 := bl_10 hw q (rd S q) p hp
    have h2 := bl_10 hw q (rd S q) t ht
    by_cases h : bl S q (rd S q) p = bl S q (rd S q) t
    · rw [h] at e1
      simp (disch := omega) only [Option.bind_some, ofn, l0, l1, l2, l3, l4, l5, l6, l7, l8, l9, l10, l11, l12, l19, l20, l30, l31, l40, l72, l100, hn_mul, hn_add, hn_sub, hn_or, hn_and, sh_r, sh_l, bt_n, bt_0, bt_1, hn_cl, if_true, if_false, ↓reduceIte, hn_lt, hn_le, hn_eq, ne_1, ne_m, lt_t, lt_f, le_t, le_f, eq_t, eq_f, Nat.not_lt_zero, false_or, or_false, or_self, false_and, and_false, true_and, and_true, not_true, not_false_iff, e1, e2]
      rw [H_X5_roundOf_2, hP.2.2.1]
      simp only [pij, if_pos h, oI]
      simp (disch := omega) only [Option.bind_some, ofn, l0, l1, l2, l3, l4, l5, l6, l7, l8, l9, l10, l11, l12, l19, l20, l30, l31, l40, l72, l100, hn_mul, hn_add, hn_sub, hn_or, hn_and, sh_r, sh_l, bt_n, bt_0, bt_1, hn_cl, if_true, if_false, ↓reduceIte, hn_lt, hn_le, hn_eq, ne_1, ne_m, lt_t, lt_f, le_t, le_f, eq_t, eq_f, Nat.not_lt_zero, false_or, or_false, or_self, false_and, and_false, true_and, and_true, not_true, not_false_iff]
    · simp (disch := omega) only [Option.bind_some, ofn, l0, l1, l2, l3, l4, l5, l6, l7, l8, l9, l10, l11, l12, l19, l20, l30, l31, l40, l72, l100, hn_mul, hn_add, hn_sub, hn_or, hn_and, sh_r, sh_l, bt_n, bt_0, bt_1, hn_cl, if_true, if_false, ↓reduceIte, hn_lt, hn_le, hn_eq, ne_1, ne_m, lt_t, lt_f, le_t, le_f, eq_t, eq_f, Nat.not_lt_zero, false_or, or_false, or_self, false_and, and_false, true_and, and_true, not_true, not_false_iff, e1, e2, h]
      simp only [pij, if_neg h, oI]
  · intro z r hr ih
    rw [H_X5_roundOf_2, hP.2.2.1]
    have e1 := px_bb (m := m) (P := P) (r := r) (s := p) (by omega) (by omega)
    have e2 := px_bb (m := m) (P := P) (r := r) (s := t) (by omega) (by omega)
    rw [hP.2.2.2.2.1 _ p (by omega) hp] at e1
    rw [hP.2.2.2.2.1 _ t (by omega) ht] at e2
    have h1 := bl_10 hw q r p hp
    have h2 := bl_10 hw q r t ht
    rw [show rd S q - r = (rd S q - (r + 1)) + 1 by omega]
    by_cases h : bl S q r p = bl S q r t
    · rw [h] at e1
      simp only [pij, if_pos h]
      simp (disch := omega) only [Option.bind_some, ofn, l0, l1, l2, l3, l4, l5, l6, l7, l8, l9, l10, l11, l12, l19, l20, l30, l31, l40, l72, l100, hn_mul, hn_add, hn_sub, hn_or, hn_and, sh_r, sh_l, bt_n, bt_0, bt_1, hn_cl, if_true, if_false, ↓reduceIte, hn_lt, hn_le, hn_eq, ne_1, ne_m, lt_t, lt_f, le_t, le_f, eq_t, eq_f, Nat.not_lt_zero, false_or, or_false, or_self, false_and, and_false, true_and, and_true, not_true, not_false_iff, e1, e2]
      exact ih
    · simp only [pij, if_neg h]
      simp (disch := omega) only [Option.bind_some, ofn, l0, l1, l2, l3, l4, l5, l6, l7, l8, l9, l10, l11, l12, l19, l20, l30, l31, l40, l72, l100, hn_mul, hn_add, hn_sub, hn_or, hn_and, sh_r, sh_l, bt_n, bt_0, bt_1, hn_cl, if_true, if_false, ↓reduceIte, hn_lt, hn_le, hn_eq, ne_1, ne_m, lt_t, lt_f, le_t, le_f, eq_t, eq_f, Nat.not_lt_zero, false_or, or_false, or_self, false_and, and_false, true_and, and_true, not_true, not_false_iff, e1, e2, h]
      rfl
theorem pm_partedIn {m : pj_M} {q p t : Nat} {S : sy} (hw : wfS S) (hP : PB m S q) (hp : p < S.1) (ht : t < S.1) : F_X11_partedIn (nI p) (nI t) m = some (oI (pin S q p t), m) := by
  have w1 := hw.1
  have hrd := rd_le9 hw q
  obtain ⟨z0, hz0⟩ : ∃ z0, pj_z = z0 + 1 := ⟨pj_z - 1, by have := pj_z_ge; omega⟩
  unfold F_X11_partedIn
  rw [hz0]
  refine lp (P := fun z r => H_X11_partedIn_2 (z + 1) (nI p) (nI t) (nI r) m = some (oI (pij S q p t (rd S q - r) r), m)) (n := rd S q) ?_ ?_ z0 0 (by omega) (by have := pj_z_ge; omega)
  · intro z
    rw [H_X11_partedIn_2, hP.1, Nat.sub_self]
    have e1 := pm_bi (m := m) (r := rd S q) (s := p) (by omega) (by omega)
    have e2 := pm_bi (m := m) (r := rd S q) (s := t) (by omega) (by omega)
    rw [hP.2 _ p (Nat.le_refl _) hp] at e1
    rw [hP.2 _ t (Nat.le_refl _) ht] at e2
    have h1 := bl_10 hw q (rd S q) p hp
    have h2 := bl_10 hw q (rd S q) t ht
    by_cases h : bl S q (rd S q) p = bl S q (rd S q) t
    · rw [h] at e1
      simp (disch := omega) only [Option.bind_some, ofn, l0, l1, l2, l3, l4, l5, l6, l7, l8, l9, l10, l11, l12, l19, l20, l30, l31, l40, l72, l100, hn_mul, hn_add, hn_sub, hn_or, hn_and, sh_r, sh_l, bt_n, bt_0, bt_1, hn_cl, if_true, if_false, ↓reduceIte, hn_lt, hn_le, hn_eq, ne_1, ne_m, lt_t, lt_f, le_t, le_f, eq_t, eq_f, Nat.not_lt_zero, false_or, or_false, or_self, false_and, and_false, true_and, and_true, not_true, not_false_iff, e1, e2]
      rw [H_X11_partedIn_2, hP.1]
      simp only [pij, if_pos h, oI]
      simp (disch := omega) only [Option.bind_some, ofn, l0, l1, l2, l3, l4, l5, l6, l7, l8, l9, l10, l11, l12, l19, l20, l30, l31, l40, l72, l100, hn_mul, hn_add, hn_sub, hn_or, hn_and, sh_r, sh_l, bt_n, bt_0, bt_1, hn_cl, if_true, if_false, ↓reduceIte, hn_lt, hn_le, hn_eq, ne_1, ne_m, lt_t, lt_f, le_t, le_f, eq_t, eq_f, Nat.not_lt_zero, false_or, or_false, or_self, false_and, and_false, true_and, and_true, not_true, not_false_iff]
    · simp (disch := omega) only [Option.bind_some, ofn, l0, l1, l2, l3, l4, l5, l6, l7, l8, l9, l10, l11, l12, l19, l20, l30, l31, l40, l72, l100, hn_mul, hn_add, hn_sub, hn_or, hn_and, sh_r, sh_l, bt_n, bt_0, bt_1, hn_cl, if_true, if_false, ↓reduceIte, hn_lt, hn_le, hn_eq, ne_1, ne_m, lt_t, lt_f, le_t, le_f, eq_t, eq_f, Nat.not_lt_zero, false_or, or_false, or_self, false_and, and_false, true_and, and_true, not_true, not_false_iff, e1, e2, h]
      simp only [pij, if_neg h, oI]
  · intro z r hr ih
    rw [H_X11_partedIn_2, hP.1]
    have e1 := pm_bi (m := m) (r := r) (s := p) (by omega) (by omega)
    have e2 := pm_bi (m := m) (r := r) (s := t) (by omega) (by omega)
    rw [hP.2 _ p (by omega) hp] at e1
    rw [hP.2 _ t (by omega) ht] at e2
    have h1 := bl_10 hw q r p hp
    have h2 := bl_10 hw q r t ht
    rw [show rd S q - r = (rd S q - (r + 1)) + 1 by omega]
    by_cases h : bl S q r p = bl S q r t
    · rw [h] at e1
      simp only [pij, if_pos h]
      simp (disch := omega) only [Option.bind_some, ofn, l0, l1, l2, l3, l4, l5, l6, l7, l8, l9, l10, l11, l12, l19, l20, l30, l31, l40, l72, l100, hn_mul, hn_add, hn_sub, hn_or, hn_and, sh_r, sh_l, bt_n, bt_0, bt_1, hn_cl, if_true, if_false, ↓reduceIte, hn_lt, hn_le, hn_eq, ne_1, ne_m, lt_t, lt_f, le_t, le_f, eq_t, eq_f, Nat.not_lt_zero, false_or, or_false, or_self, false_and, and_false, true_and, and_true, not_true, not_false_iff, e1, e2]
      exact ih
    · simp only [pij, if_neg h]
      simp (disch := omega) only [Option.bind_some, ofn, l0, l1, l2, l3, l4, l5, l6, l7, l8, l9, l10, l11, l12, l19, l20, l30, l31, l40, l72, l100, hn_mul, hn_add, hn_sub, hn_or, hn_and, sh_r, sh_l, bt_n, bt_0, bt_1, hn_cl, if_true, if_false, ↓reduceIte, hn_lt, hn_le, hn_eq, ne_1, ne_m, lt_t, lt_f, le_t, le_f, eq_t, eq_f, Nat.not_lt_zero, false_or, or_false, or_self, false_and, and_false, true_and, and_true, not_true, not_false_iff, e1, e2, h]
      rfl
