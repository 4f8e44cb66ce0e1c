/-! PART 41: X's Parting.follow -/
def PT (m : pj_M) (P : Nat) (S : sy) (q : Nat) : Prop := m.1 P 0 = nI q ∧ m.1 P 3 = nI S.1 ∧ m.1 P 4 = nI (rd S q) ∧ m.1 P 5 = nI (ct S q (rd S q)) ∧ (∀ r s, r ≤ rd S q → s < S.1 → m.1 (P + 1) (10 * r + s) = nI (bl S q r s)) ∧ (q < 3 → ∀ s, s < S.1 → m.2 (P + 2) s = lN (sgn S q (bl S q (rd S q)) s))
theorem bl_10 {S : sy} (hw : wfS S) (q r : Nat) : ∀ t, t < S.1 → bl S q r t < 10 := fun t ht => by
  have := bl_le S q r t
  have := hw.1
  omega
theorem hx_psig {m : pj_M} {P T r q : Nat} {S : sy} (hw : wfS S) (hT : T + 2 < P ∨ P + 2 < T) (hq : q < 3) (hr : r < 10) (h0 : m.1 P 0 = nI q) (h3 : m.1 P 3 = nI S.1) (hg : GT m (T + 1) (go S)) (hc : GT m (T + 2) (cl S)) (hb : ∀ t, t < S.1 → m.1 (P + 1) (10 * r + t) = nI (bl S q r t)) {k2 : Nat → Nat → Int32 → pj_M → Option pj_M} : ∃ m', H_X5_partOn_10 k2 pj_z P T (nI (r + 1)) 0 m = J_X5_partOn_39 k2 P T (nI (r + 1)) m' ∧ m'.1 = m.1 ∧ (∀ a, a ≠ P + 2 → m'.2 a = m.2 a) ∧ ∀ s, s < S.1 → m'.2 (P + 2) s = lN (sgn S q (bl S q r) s) := by
  have w1 := hw.1
  refine lp0 (P := fun z j => ∀ m, m.1 P 0 = nI q → m.1 P 3 = nI S.1 → GT m (T + 1) (go S) → GT m (T + 2) (cl S) → (∀ t, t < S.1 → m.1 (P + 1) (10 * r + t) = nI (bl S q r t)) → (∀ s, s < j → m.2 (P + 2) s = lN (sgn S q (bl S q r) s)) → ∃ m', H_X5_partOn_10 k2 z P T (nI (r + 1)) (nI j) m = J_X5_partOn_39 k2 P T (nI (r + 1)) m' ∧ m'.1 = m.1 ∧ (∀ a, a ≠ P + 2 → m'.2 a = m.2 a) ∧ ∀ s, s < S.1 → m'.2 (P + 2) s = lN (sgn S q (bl S q r) s)) S.1 (by omega) ?_ ?_ m h0 h3 hg hc hb (fun s hs => by omega)
  · intro z m h0 h3 hg hc hb hs
    refine ⟨m, ?_, rfl, fun _ _ => rfl, hs⟩
    rw [H_X5_partOn_10, h3]
    simp (disch := omega) only [Option.bind_some, ofn, l0, l1, l2, l3, l4, l5, l6, l7, l8, l9, l10, l11, l12, l19, l20, l30, l31, l40, l72, l100, hn_mul, hn_add, hn_sub, hn_or, hn_and, sh_r, sh_l, bt_n, bt_0, bt_1, hn_cl, if_true, if_false, ↓reduceIte, hn_lt, hn_le, hn_eq, ne_1, ne_m, lt_t, lt_f, le_t, le_f, eq_t, eq_f, Nat.not_lt_zero, false_or, or_false, or_self, false_and, and_false, true_and, and_true, not_true, not_false_iff]
  · intro z j hj ih m h0 h3 hg hc hb hs
    obtain ⟨m', g1, g2, g3, g4⟩ := ih (pj_wl m (P + 2) j (lN (sgn S q (bl S q r) j))) h0 h3 hg hc hb (fun s hs' => by
      rw [hr_wl]
      by_cases hsj : s = j
      · rw [if_pos ⟨rfl, hsj⟩, hsj]
      · rw [if_neg (fun e => hsj e.2)]
        exact hs s (by omega))
    refine ⟨m', ?_, g2, fun a ha => ?_, g4⟩
    · rw [H_X5_partOn_10, h3]
      have e1 := px_signs (m := m) (P := P) (T := T) (r := r) (s := j) (q := q) hw hq (by omega) hj h0 h3 hg hc (bl_10 hw q r) hb
      simp (disch := omega) only [Option.bind_some, ofn, l0, l1, l2, l3, l4, l5, l6, l7, l8, l9, l10, l11, l12, l19, l20, l30, l31, l40, l72, l100, hn_mul, hn_add, hn_sub, hn_or, hn_and, sh_r, sh_l, bt_n, bt_0, bt_1, hn_cl, if_true, if_false, ↓reduceIte, hn_lt, hn_le, hn_eq, ne_1, ne_m, lt_t, lt_f, le_t, le_f, eq_t, eq_f, Nat.not_lt_zero, false_or, or_false, or_self, false_and, and_false, true_and, and_true, not_true, not_false_iff, Nat.add_sub_cancel, e1]
      exact g1
    · rw [g3 a ha]
      funext k
      rw [hr_wl, if_neg (fun e => ha e.1)]
theorem GT.keep {m m' : pj_M} {A : Nat} {g : Nat → Nat → Nat} (h : GT m A g) (e : m'.1 A = m.1 A) : GT m' A g := fun a s ha hs => by
  rw [e]
  exact h a s ha hs
theorem ky_KM {m : pj_M} {G B r : Nat} {S : sy} {q : Nat} (hw : wfS S) (hs : ∀ s, s < S.1 → m.2 G s = lN (sgn S q (bl S q r) s)) (hb : ∀ t, t < S.1 → m.1 B (10 * r + t) = nI (bl S q r t)) : KM m G B (r + 1) S.1 (ky S q (r + 1)) := by
  intro k hk
  have h1 := sgn_lt (S := S) (q := q) (s := k) (bl_10 hw q r)
  have h2 := bl_10 hw q r k hk
  refine ⟨hs k hk, ?_, ?_, fun h => by omega, fun _ => ?_⟩
  · show sgn S q (bl S q r) k < 2 ^ 63
    omega
  · show bl S q r k < 2 ^ 31
    omega
  · rw [Nat.add_sub_cancel]
    exact hb k hk
theorem hx_pon {m : pj_M} {P T q : Nat} {S : sy} (hw : wfS S) (hT : T + 2 < P ∨ P + 2 < T) (hq : q < 3) (h0 : m.1 P 0 = nI q) (h3 : m.1 P 3 = nI S.1) (h4 : m.1 P 4 = nI 0) (h5 : m.1 P 5 = nI (ct S q 0)) (hg : GT m (T + 1) (go S)) (hc : GT m (T + 2) (cl S)) (hb : ∀ r s, r ≤ 0 → s < S.1 → m.1 (P + 1) (10 * r + s) = nI (bl S q r s)) : ∃ m', F_X5_partOn P T m = some m' ∧ fr [P, P + 1, P + 2] m m' ∧ PT m' P S q ∧ m'.1 P 6 = m.1 P 6 := by
  have w1 := hw.1
  have hrd := rd_le9 hw q
  refine lp0 (P := fun z r => ∀ m, m.1 P 0 = nI q → m.1 P 3 = nI S.1 → m.1 P 4 = nI r → m.1 P 5 = nI (ct S q r) → GT m (T + 1) (go S) → GT m (T + 2) (cl S) → (∀ r' s, r' ≤ r → s < S.1 → m.1 (P + 1) (10 * r' + s) = nI (bl S q r' s)) → ∃ m', H_X5_partOn_2 z P T (nI (r + 1)) m = some m' ∧ fr [P, P + 1, P + 2] m m' ∧ PT m' P S q ∧ m'.1 P 6 = m.1 P 6) (rd S q) (by omega) ?_ ?_ m h0 h3 h4 h5 hg hc hb
  · intro z m h0 h3 h4 h5 hg hc hb
    obtain ⟨ma, a1, a2, a3, a4⟩ := hx_psig (k2 := H_X5_partOn_2 z) hw hT hq (by omega : rd S q < 10) h0 h3 hg hc (fun t ht => hb _ t (Nat.le_refl _) ht)
    have hk := ky_KM (m := ma) (G := P + 2) (B := P + 1) (r := rd S q) (q := q) hw a4 (fun t ht => by rw [a2]; exact hb _ t (Nat.le_refl _) ht)
    obtain ⟨mb, b1, b2, b3⟩ := px_number (m := ma) (P := P) (ρ := rd S q + 1) w1 (by omega) (by rw [a2]; exact h3) hk
    have eP : mb.1 P = m.1 P := (b2.at (by omega)).trans (by rw [a2])
    have fa : fr [P, P + 1, P + 2] m ma := fun a ha => ⟨by rw [a2], a3 a (by simp at ha; omega)⟩
    refine ⟨mb, ?_, fa.tr (b2.fr (by simp)), ⟨?_, ?_, ?_, ?_, fun r s hr hs => ?_, fun _ s hs => ?_⟩, ?_⟩
    · rw [H_X5_partOn_2]
      have e5 : mb.1 P 5 = nI (ct S q (rd S q)) := by rw [eP, h5]
      have ec : cn (ky S q (rd S q + 1)) S.1 = ct S q (rd S q) := rd_stop hw (by omega)
      simp (disch := omega) only [Option.bind_some, ofn, l0, l1, l2, l3, l4, l5, l6, l7, l8, l9, l10, l11, l12, l19, l20, l30, l31, l40, l72, l100, hn_mul, hn_add, hn_sub, hn_or, hn_and, sh_r, sh_l, bt_n, bt_0, bt_1, hn_cl, if_true, if_false, ↓reduceIte, hn_lt, hn_le, hn_eq, ne_1, ne_m, lt_t, lt_f, le_t, le_f, eq_t, eq_f, Nat.not_lt_zero, false_or, or_false, or_self, false_and, and_false, true_and, and_true, not_true, not_false_iff]
      refine a1.trans ?_
      unfold J_X5_partOn_39
      rw [b1]
      simp only [Option.bind_some]
      rw [e5, ec, if_pos rfl]
    · rw [eP, h0]
    · rw [eP, h3]
    · rw [eP, h4]
    · rw [eP, h5]
    · rw [b2.2 _ _ (by omega), a2]
      exact hb r s hr hs
    · rw [b2.1]
      exact a4 s hs
    · rw [eP]
  · intro z r hr ih m h0 h3 h4 h5 hg hc hb
    obtain ⟨ma, a1, a2, a3, a4⟩ := hx_psig (k2 := H_X5_partOn_2 z) hw hT hq (by omega : r < 10) h0 h3 hg hc (fun t ht => hb _ t (Nat.le_refl _) ht)
    have hk := ky_KM (m := ma) (G := P + 2) (B := P + 1) (r := r) (q := q) hw a4 (fun t ht => by rw [a2]; exact hb _ t (Nat.le_refl _) ht)
    obtain ⟨mb, b1, b2, b3⟩ := px_number (m := ma) (P := P) (ρ := r + 1) w1 (by omega) (by rw [a2]; exact h3) hk
    have eP : mb.1 P = m.1 P := (b2.at (by omega)).trans (by rw [a2])
    have fa : fr [P, P + 1, P + 2] m ma := fun a ha => ⟨by rw [a2], a3 a (by simp at ha; omega)⟩
    have fc : fr [P, P + 1, P + 2] mb (pj_wr (pj_wr mb P 5 (nI (ct S q (r + 1)))) P 4 (nI (r + 1))) := (fr.wr _ _ (by simp) _ _).tr (fr.wr _ _ (by simp) _ _)
    have fb : fr [P, P + 1, P + 2] m (pj_wr (pj_wr mb P 5 (nI (ct S q (r + 1)))) P 4 (nI (r + 1))) := (fa.tr (b2.fr (by simp))).tr fc
    obtain ⟨m', g1, g2, g3, g4⟩ := ih (pj_wr (pj_wr mb P 5 (nI (ct S q (r + 1)))) P 4 (nI (r + 1))) (by rw [hr_wrk (by decide), hr_wrk (by decide), eP, h0]) (by rw [hr_wrk (by decide), hr_wrk (by decide), eP, h3]) (by rw [hr_wrs]) (by rw [hr_wrk (by decide), hr_wrs]) (hg.keep (fb _ (by simp; omega)).1) (hc.keep (fb _ (by simp; omega)).1) (fun r' s hr' hs => by
      rw [hr_wra (by omega), hr_wra (by omega)]
      by_cases hrr : r' = r + 1
      · rw [hrr, b3 s hs]
        rfl
      · rw [b2.2 _ _ (by omega), a2]
        exact hb r' s (by omega) hs)
    refine ⟨m', ?_, fb.tr g2, g3, ?_⟩
    · rw [H_X5_partOn_2]
      have e5 : mb.1 P 5 = nI (ct S q r) := by rw [eP, h5]
      have hne : ¬ nI (cn (ky S q (r + 1)) S.1) = nI (ct S q r) := fun e => by
        have h1 := rd_go hr
        have h2 := ct_le S q (r + 1)
        have h3 : ct S q (r + 1) = ct S q r := hn_inj (by omega) (by omega) e
        omega
      simp (disch := omega) only [Option.bind_some, ofn, l0, l1, l2, l3, l4, l5, l6, l7, l8, l9, l10, l11, l12, l19, l20, l30, l31, l40, l72, l100, hn_mul, hn_add, hn_sub, hn_or, hn_and, sh_r, sh_l, bt_n, bt_0, bt_1, hn_cl, if_true, if_false, ↓reduceIte, hn_lt, hn_le, hn_eq, ne_1, ne_m, lt_t, lt_f, le_t, le_f, eq_t, eq_f, Nat.not_lt_zero, false_or, or_false, or_self, false_and, and_false, true_and, and_true, not_true, not_false_iff]
      refine a1.trans ?_
      unfold J_X5_partOn_39
      rw [b1]
      simp only [Option.bind_some]
      rw [e5, if_neg hne, ← g1, nI_1]
      rfl
    · rw [g4, hr_wrk (by decide), hr_wrk (by decide), eP]
theorem px_marked {m : pj_M} {b : Nat} {S : sy} (hw : wfS S) (hn : XN m b S) : F_X4_marked b m = some (nI (mks S), m) := by
  have w1 := hw.1
  obtain ⟨n1, n2, n3, n4⟩ := hn
  refine lp0 (P := fun z i => H_X4_marked_4 z b (nI (st (mkb S) i)) (nI i) m = some (nI (mks S), m)) S.1 (by omega) ?_ ?_
  · intro z
    rw [H_X4_marked_4, n1]
    simp (disch := omega) only [Option.bind_some, ofn, l0, l1, l2, l3, l4, l5, l6, l7, l8, l9, l10, l11, l12, l19, l20, l30, l31, l40, l72, l100, hn_mul, hn_add, hn_sub, hn_or, hn_and, sh_r, sh_l, bt_n, bt_0, bt_1, hn_cl, if_true, if_false, ↓reduceIte, hn_lt, hn_le, hn_eq, ne_1, ne_m, lt_t, lt_f, le_t, le_f, eq_t, eq_f, Nat.not_lt_zero, false_or, or_false, or_self, false_and, and_false, true_and, and_true, not_true, not_false_iff]
    rfl
  · intro z i hi ih
    rw [H_X4_marked_4, n1]
    have hk := hw.2.2.1 i hi
    have ek := n3 i hi
    by_cases h2 : S.2.1 i = 2
    · have e : st (mkb S) (i + 1) = st (mkb S) i ||| 2 ^ i := by simp [st, mkb, h2]
      rw [e] at ih
      simp (disch := omega) only [Option.bind_some, ofn, l0, l1, l2, l3, l4, l5, l6, l7, l8, l9, l10, l11, l12, l19, l20, l30, l31, l40, l72, l100, hn_mul, hn_add, hn_sub, hn_or, hn_and, sh_r, sh_l, bt_n, bt_0, bt_1, hn_cl, if_true, if_false, ↓reduceIte, hn_lt, hn_le, hn_eq, ne_1, ne_m, lt_t, lt_f, le_t, le_f, eq_t, eq_f, Nat.not_lt_zero, false_or, or_false, or_self, false_and, and_false, true_and, and_true, not_true, not_false_iff, ek, h2]
      exact ih
    · by_cases h5 : S.2.1 i = 5
      · have e : st (mkb S) (i + 1) = st (mkb S) i ||| 2 ^ i := by simp [st, mkb, h5]
        rw [e] at ih
        simp (disch := omega) only [Option.bind_some, ofn, l0, l1, l2, l3, l4, l5, l6, l7, l8, l9, l10, l11, l12, l19, l20, l30, l31, l40, l72, l100, hn_mul, hn_add, hn_sub, hn_or, hn_and, sh_r, sh_l, bt_n, bt_0, bt_1, hn_cl, if_true, if_false, ↓reduceIte, hn_lt, hn_le, hn_eq, ne_1, ne_m, lt_t, lt_f, le_t, le_f, eq_t, eq_f, Nat.not_lt_zero, false_or, or_false, or_self, false_and, and_false, true_and, and_true, not_true, not_false_iff, ek, h5]
        exact ih
      · have e : st (mkb S) (i + 1) = st (mkb S) i := by simp [st, mkb, h2, h5]
        rw [e] at ih
        simp (disch := omega) only [Option.bind_some, ofn, l0, l1, l2, l3, l4, l5, l6, l7, l8, l9, l10, l11, l12, l19, l20, l30, l31, l40, l72, l100, hn_mul, hn_add, hn_sub, hn_or, hn_and, sh_r, sh_l, bt_n, bt_0, bt_1, hn_cl, if_true, if_false, ↓reduceIte, hn_lt, hn_le, hn_eq, ne_1, ne_m, lt_t, lt_f, le_t, le_f, eq_t, eq_f, Nat.not_lt_zero, false_or, or_false, or_self, false_and, and_false, true_and, and_true, not_true, not_false_iff, ek, h2, h5]
        exact ih
theorem mks_lt {S : sy} (hw : wfS S) : mks S < 1024 := Nat.lt_of_lt_of_le (st_lt _ _) (p2_10 hw.1)
theorem px_pfollow {m : pj_M} {P nb T q : Nat} {S : sy} (hw : wfS S) (hT : T + 2 < P ∨ P + 2 < T) (hP : nb + 2 < P) (hq : q < 4) (hn : XN m nb S) (h0 : m.1 P 0 = nI q) (hg : GT m (T + 1) (go S)) (hc : GT m (T + 2) (cl S)) (hv : ¬ m.1 P 6 = m.1 nb 4) : ∃ m', F_X5_follow P nb T m = some m' ∧ fr [P, P + 1, P + 2] m m' ∧ PT m' P S q ∧ m'.1 P 6 = m.1 nb 4 := by
  have w1 := hw.1
  have hmk := mks_lt hw
  have fA : fr [P, P + 1, P + 2] m (pj_wr (pj_wr (pj_wr m P 6 (m.1 nb 4)) P 3 (m.1 nb 2)) P 4 0) := ((fr.wr _ _ (by simp) _ _).tr (fr.wr _ _ (by simp) _ _)).tr (fr.wr _ _ (by simp) _ _)
  have hnA : XN (pj_wr (pj_wr (pj_wr m P 6 (m.1 nb 4)) P 3 (m.1 nb 2)) P 4 0) nb S := hn.keep (fA _ (by simp; omega)).1 (fA _ (by simp; omega)).1 (fA _ (by simp; omega)).1
  have eM := px_marked hw hnA
  -- the first signs
  have loop : ∀ mA : pj_M, mA.1 P 3 = nI S.1 → ∃ m', H_X5_follow_41 pj_z P T (nI (mks S)) 0 mA = J_X5_follow_70 P T m' ∧ m'.1 = mA.1 ∧ (∀ a, a ≠ P + 2 → m'.2 a = mA.2 a) ∧ ∀ s, s < S.1 → m'.2 (P + 2) s = lN (if mkb S s then 1 else 0) := by
    intro mA hA
    refine lp0 (P := fun z j => ∀ m, m.1 P 3 = nI S.1 → (∀ s, s < j → m.2 (P + 2) s = lN (if mkb S s then 1 else 0)) → ∃ m', H_X5_follow_41 z P T (nI (mks S)) (nI j) m = J_X5_follow_70 P T m' ∧ m'.1 = m.1 ∧ (∀ a, a ≠ P + 2 → m'.2 a = m.2 a) ∧ ∀ s, s < S.1 → m'.2 (P + 2) s = lN (if mkb S s then 1 else 0)) S.1 (by omega) ?_ ?_ mA hA (fun s hs => by omega)
    · intro z m h3 hs
      refine ⟨m, ?_, rfl, fun _ _ => rfl, hs⟩
      rw [H_X5_follow_41, h3]
      simp (disch := omega) only [Option.bind_some, ofn, l0, l1, l2, l3, l4, l5, l6, l7, l8, l9, l10, l11, l12, l19, l20, l30, l31, l40, l72, l100, hn_mul, hn_add, hn_sub, hn_or, hn_and, sh_r, sh_l, bt_n, bt_0, bt_1, hn_cl, if_true, if_false, ↓reduceIte, hn_lt, hn_le, hn_eq, ne_1, ne_m, lt_t, lt_f, le_t, le_f, eq_t, eq_f, Nat.not_lt_zero, false_or, or_false, or_self, false_and, and_false, true_and, and_true, not_true, not_false_iff]
    · intro z j hj ih m h3 hs
      have ebt : (nI (bt (mks S) j)).toInt64 = lN (if mkb S j then 1 else 0) := by
        rw [nI_l (by have := bt_le (mks S) j; omega)]
        unfold bt mks
        rw [st_tb]
        simp [hj]
      obtain ⟨m', g1, g2, g3, g4⟩ := ih (pj_wl m (P + 2) j (lN (if mkb S j then 1 else 0))) h3 (fun s hs' => by
        rw [hr_wl]
        by_cases hsj : s = j
        · rw [if_pos ⟨rfl, hsj⟩, hsj]
        · rw [if_neg (fun e => hsj e.2)]
          exact hs s (by omega))
      refine ⟨m', ?_, g2, fun a ha => ?_, g4⟩
      · rw [H_X5_follow_41, h3]
        simp (disch := omega) only [Option.bind_some, ofn, l0, l1, l2, l3, l4, l5, l6, l7, l8, l9, l10, l11, l12, l19, l20, l30, l31, l40, l72, l100, hn_mul, hn_add, hn_sub, hn_or, hn_and, sh_r, sh_l, bt_n, bt_0, bt_1, hn_cl, if_true, if_false, ↓reduceIte, hn_lt, hn_le, hn_eq, ne_1, ne_m, lt_t, lt_f, le_t, le_f, eq_t, eq_f, Nat.not_lt_zero, false_or, or_false, or_self, false_and, and_false, true_and, and_true, not_true, not_false_iff, ebt]
        exact g1
      · rw [g3 a ha]
        funext k
        rw [hr_wl, if_neg (fun e => ha e.1)]
  obtain ⟨mB, b1, b2, b3, b4⟩ := loop (pj_wr (pj_wr (pj_wr m P 6 (m.1 nb 4)) P 3 (m.1 nb 2)) P 4 0) (by rw [hr_wrk (by decide), hr_wrs, hn.1])
  have eP : ∀ k, mB.1 P k = if k = 4 then 0 else if k = 3 then nI S.1 else if k = 6 then m.1 nb 4 else m.1 P k := by
    intro k
    rw [b2]
    simp only [hr_wr, true_and, hn.1]
  have hK : KM mB (P + 2) (P + 1) 0 S.1 (ky S q 0) := by
    intro k hk
    refine ⟨b4 k hk, ?_, ?_, fun _ => rfl, fun h => by omega⟩
    · show (if mkb S k then 1 else 0) < 2 ^ 63
      split <;> decide
    · show (0 : Nat) < 2 ^ 31
      decide
  obtain ⟨mC, c1, c2, c3⟩ := px_number (m := mB) (P := P) (ρ := 0) w1 (by decide) (by rw [eP]; rfl) hK
  have ePC : ∀ k, mC.1 P k = mB.1 P k := fun k => by rw [c2.at (by omega)]
  have fB : fr [P, P + 1, P + 2] m mB := fA.tr (fun a ha => ⟨by rw [b2], b3 a (by simp at ha; omega)⟩)
  have fC : fr [P, P + 1, P + 2] m (pj_wr mC P 5 (nI (ct S q 0))) := (fB.tr (c2.fr (by simp))).tr (fr.wr _ _ (by simp) _ _)
  have c1' : F_X5_numberBlocks P 0 mB = some (nI (ct S q 0), mC) := c1
  have head : F_X5_follow P nb T m = J_X5_follow_70 P T mB := by
    unfold F_X5_follow
    simp only [F_X4_version, F_X4_states, Option.bind_some]
    rw [if_neg hv]
    have e1 : (pj_wr m P 6 (m.1 nb 4)).1 nb 2 = m.1 nb 2 := by rw [hr_wra (by omega)]
    rw [e1, eM]
    simp only [Option.bind_some]
    exact b1
  have hD0 : (pj_wr mC P 5 (nI (ct S q 0))).1 P 0 = nI q := by rw [hr_wrk (by decide), ePC, eP]; exact h0
  have hb0 : ∀ r s, r ≤ 0 → s < S.1 → (pj_wr mC P 5 (nI (ct S q 0))).1 (P + 1) (10 * r + s) = nI (bl S q r s) := by
    intro r s hr hs
    obtain rfl : r = 0 := by omega
    rw [hr_wra (by omega), c3 s hs]
    rfl
  rw [head]
  unfold J_X5_follow_70
  rw [c1']
  simp only [Option.bind_some]
  rw [hD0]
  by_cases h3 : q = 3
  · rw [if_neg (by rw [h3]; decide)]
    refine ⟨_, rfl, fC, ⟨hD0, ?_, ?_, ?_, fun r s hr hs => ?_, fun h => by omega⟩, ?_⟩
    · rw [hr_wrk (by decide), ePC, eP]; rfl
    · rw [hr_wrk (by decide), ePC, eP, h3]; rfl
    · rw [hr_wrs, h3]; rfl
    · rw [h3, rd3] at hr
      exact hb0 r s hr hs
    · rw [hr_wrk (by decide), ePC, eP]; rfl
  · rw [if_pos (show nI q < 3 from nI_lt (b := 3) (by omega) (by decide))]
    obtain ⟨mE, d1, d2, d3, d4⟩ := hx_pon (m := pj_wr mC P 5 (nI (ct S q 0))) (P := P) (T := T) (q := q) hw hT (by omega) hD0 (by rw [hr_wrk (by decide), ePC, eP]; rfl) (by rw [hr_wrk (by decide), ePC, eP]; rfl) (by rw [hr_wrs]) (hg.keep (fC _ (by simp; omega)).1) (hc.keep (fC _ (by simp; omega)).1) hb0
    rw [d1]
    refine ⟨mE, rfl, fC.tr d2, d3, ?_⟩
    rw [d4, hr_wrk (by decide), ePC, eP]
    rfl
