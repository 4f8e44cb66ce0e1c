/-! PART 57: formulas: the reference's side -/
theorem pm_movingInto {m : pj_M} {q a L : Nat} {S : sy} (hw : wfS S) (hl : LK m S) (hq : q < 2) (ha : a < 4) (hL : L < 2 ^ S.1) : F_X11_movingInto (nI q) (nI a) (nI L) m = some (nI (mvt S q a L), m) := by
  have w1 := hw.1
  have hp := p2_10 w1
  have h83 := hl.1.1
  refine lp0 (P := fun z i => H_X11_movingInto_6 z (nI q) (nI a) (nI L) (nI (st (fun s => decide (mv S q a s &&& L ≠ 0)) i)) (nI i) m = some (nI (mvt S q a L), m)) S.1 (by omega) ?_ ?_
  · intro z
    rw [H_X11_movingInto_6, mx_states, h83]
    simp (disch := omega) only [Option.bind_some, ofn, l0, l1, l2, l3, l4, l5, l6, l7, l8, l9, l10, l11, l12, l19, l20, l30, l31, l40, l72, l100, hn_mul, hn_add, hn_sub, hn_or, hn_and, sh_r, sh_l, bt_n, bt_0, bt_1, hn_cl, if_true, if_false, ↓reduceIte, hn_lt, hn_le, hn_eq, ne_1, ne_m, lt_t, lt_f, le_t, le_f, eq_t, eq_f, Nat.not_lt_zero, false_or, or_false, or_self, false_and, and_false, true_and, and_true, not_true, not_false_iff]
    rfl
  · intro z i hi ih
    rw [H_X11_movingInto_6, mx_states, h83]
    have e1 := pm_moving (r := q) (a := a) (s := i) hw hl (by omega) ha hi
    have hlt : mv S q a i &&& L < 2 ^ 31 := Nat.lt_of_le_of_lt Nat.and_le_right (by omega)
    by_cases h0 : mv S q a i &&& L = 0
    · simp only [st, h0, ne_eq, not_true, decide_false, Bool.false_eq_true, if_false, Nat.or_zero] at ih
      simp (disch := omega) only [Option.bind_some, ofn, l0, l1, l2, l3, l4, l5, l6, l7, l8, l9, l10, l11, l12, l19, l20, l30, l31, l40, l72, l100, hn_mul, hn_add, hn_sub, hn_or, hn_and, sh_r, sh_l, bt_n, bt_0, bt_1, hn_cl, if_true, if_false, ↓reduceIte, hn_lt, hn_le, hn_eq, ne_1, ne_m, lt_t, lt_f, le_t, le_f, eq_t, eq_f, Nat.not_lt_zero, false_or, or_false, or_self, false_and, and_false, true_and, and_true, not_true, not_false_iff, e1, h0, Nat.or_zero]
      exact ih
    · simp only [st, ne_eq, h0, not_false_iff, decide_true, if_true] at ih
      simp (disch := omega) only [Option.bind_some, ofn, l0, l1, l2, l3, l4, l5, l6, l7, l8, l9, l10, l11, l12, l19, l20, l30, l31, l40, l72, l100, hn_mul, hn_add, hn_sub, hn_or, hn_and, sh_r, sh_l, bt_n, bt_0, bt_1, hn_cl, if_true, if_false, ↓reduceIte, hn_lt, hn_le, hn_eq, ne_1, ne_m, lt_t, lt_f, le_t, le_f, eq_t, eq_f, Nat.not_lt_zero, false_or, or_false, or_self, false_and, and_false, true_and, and_true, not_true, not_false_iff, e1, h0]
      exact ih
theorem pm_movingAny {m : pj_M} {q a : Nat} {S : sy} (hw : wfS S) (hl : LK m S) (hq : q < 2) (ha : a < 4) (x : Int32) : ∃ r, F_X11_movingInto (nI q) (nI a) x m = some (r, m) := by
  have w1 := hw.1
  have h83 := hl.1.1
  refine lp0 (P := fun z i => ∀ y, ∃ r, H_X11_movingInto_6 z (nI q) (nI a) x y (nI i) m = some (r, m)) S.1 (by omega) ?_ ?_ 0
  · intro z y
    rw [H_X11_movingInto_6, mx_states, h83]
    exact ⟨y, by simp (disch := omega) only [Option.bind_some, ofn, l0, l1, l2, l3, l4, l5, l6, l7, l8, l9, l10, l11, l12, l19, l20, l30, l31, l40, l72, l100, hn_mul, hn_add, hn_sub, hn_or, hn_and, sh_r, sh_l, bt_n, bt_0, bt_1, hn_cl, if_true, if_false, ↓reduceIte, hn_lt, hn_le, hn_eq, ne_1, ne_m, lt_t, lt_f, le_t, le_f, eq_t, eq_f, Nat.not_lt_zero, false_or, or_false, or_self, false_and, and_false, true_and, and_true, not_true, not_false_iff]⟩
  · intro z i hi ih y
    rw [H_X11_movingInto_6, mx_states, h83]
    have e1 := pm_moving (r := q) (a := a) (s := i) hw hl (by omega) ha hi
    simp only [Option.bind_some]
    rw [if_pos (nI_lt hi (by omega)), e1]
    simp only [Option.bind_some]
    rw [nI_1]
    split
    · exact ih _
    · exact ih _
/-- an answer that is well, but for the stack -/
def RW (m : pj_M) (r : Int32) (o : Option (Int32 × pj_M)) : Prop := ∃ m1, o = some (r, pj_wr m1 72 4 0) ∧ fk [92, 93] [] m m1
theorem RW.of {m m' : pj_M} {r : Int32} {o : Option (Int32 × pj_M)} (h : RW m' r o) (hf : fk [92, 93] [] m m') : RW m r o := by
  obtain ⟨m1, h1, h2⟩ := h
  exact ⟨m1, h1, hf.tr h2⟩
theorem RW.none (m : pj_M) : RW m (-1000000) (F_X11_well (-1000000) m) := ⟨m, rfl, fk.rf _ _ _⟩
theorem cno_neg {x : Int32} (h : x < 0) : cno x = 99 := by
  unfold cno
  rw [if_pos h]
theorem cno_nI {c : Nat} (h : c < 2 ^ 31) : cno (nI c) = c := by
  unfold cno
  rw [if_neg (nI_pos h), hn_cl h]
theorem hm_step {m : pj_M} {z r k sp : Nat} {x1 x2 x5 x6 : Int32} (hr : r < 8) (hk : k < 40) (hsp : sp < 30) : H_X11_holds_140 (z + 1) x1 x2 (nI r) x5 x6 (nI sp) (nI (k + 1) - 1) m = if cno (m.1 75 (40 * r + k)) = 30 then H_X11_holds_140 z x1 x2 (nI r) x5 x6 (nI (sp + 1)) (nI k - 1) (pj_wr (pj_wr m 92 sp x6) 93 sp 0) else if cno (m.1 75 (40 * r + k)) = 20 then (if sp = 0 then F_X11_well (-1000000) m else if m.1 93 (sp - 1) = 0 then H_X11_holds_140 z x1 x2 (nI r) x5 x6 (nI sp) (nI k - 1) (pj_wr m 92 (sp - 1) (x5 &&& ((m.1 92 (sp - 1)) ^^^ (-1)))) else F_X11_well (-1000000) m) else if 10 ≤ cno (m.1 75 (40 * r + k)) ∧ cno (m.1 75 (40 * r + k)) ≤ 19 then H_X11_holds_265 (H_X11_holds_140 z) pj_z x1 x2 (nI r) x5 x6 (nI sp) (nI k) (nI (cno (m.1 75 (40 * r + k)))) x5 0 m else if cno (m.1 75 (40 * r + k)) < 4 then (if sp = 0 then F_X11_well (-1000000) m else if m.1 93 (sp - 1) = 0 then F_X11_well (-1000000) m else (F_X11_movingInto x1 (nI (cno (m.1 75 (40 * r + k)))) (m.1 92 (sp - 1)) m).bind fun q6 => H_X11_holds_140 z x1 x2 (nI r) x5 x6 (nI sp) (nI k - 1) (pj_wr (pj_wr q6.2 92 (sp - 1) q6.1) 93 (sp - 1) 0)) else F_X11_well (-1000000) m := by
  have e0 : nI (k + 1) - 1 = nI k := nI_pred k
  have e1 : 40 * nI r + nI k = nI (40 * r + k) := by rw [l40, hn_mul, hn_add]
  rw [H_X11_holds_140, e0, if_neg (nI_pos (by omega)), e1, if_neg (hn_in (by omega) (by decide)), hn_cl (by omega), if_neg (hn_in hsp (by decide)), hn_cl (by omega), if_neg (hn_in' hsp (by omega)), nI_1]
  generalize hcode : m.1 75 (40 * r + k) = code
  by_cases hneg : code < 0
  · rw [cno_neg hneg]
    have n20 : (code = 20) = False := neg_ne hneg (k := 20) (by decide)
    have n30 : (code = 30) = False := neg_ne hneg (k := 30) (by decide)
    have ein : F_X11_in code 10 19 m = some (0, m) := by
      unfold F_X11_in
      rw [if_pos (show code < 10 from of_eq_true (neg_lt hneg (k := 10) (by decide)))]
    have elet : F_X11_isLetter code m = some (0, m) := mx_let_n (fun ⟨j, hj, e⟩ => by
      rw [e] at hneg
      exact nI_pos (by omega) hneg)
    simp only [n20, n30, if_false, ein, elet, Option.bind_some, if_true, bind_id]
    rfl
  · obtain ⟨c, hcb, rfl⟩ := nI_of hneg
    rw [cno_nI hcb]
    by_cases h30 : c = 30
    · subst h30
      rw [if_pos (show nI 30 = 30 from rfl), if_pos rfl]
    · rw [if_neg (show ¬ nI c = 30 from fun e => h30 (hn_inj hcb (by decide) e)), if_neg h30]
      by_cases h20 : c = 20
      · subst h20
        rw [if_pos (show nI 20 = 20 from rfl), if_pos rfl]
        by_cases hs0 : sp = 0
        · subst hs0
          rw [if_pos (show nI 0 = 0 from rfl), if_pos rfl, bind_id]
        · have em : nI sp - 1 = nI (sp - 1) := hn_sub (b := 1) (by omega)
          rw [if_neg (nI_ne0 (by omega) (by omega)), if_neg hs0, em, if_neg (hn_in (show sp - 1 < 30 by omega) (by decide)), hn_cl (by omega), if_neg (hn_in' (show sp - 1 < 30 by omega) (by omega)), if_neg (hn_in' (show sp - 1 < 30 by omega) (by omega)), bind_id]
      · rw [if_neg (show ¬ nI c = 20 from fun e => h20 (hn_inj hcb (by decide) e)), if_neg h20]
        by_cases hcl : 10 ≤ c ∧ c ≤ 19
        · have ein : F_X11_in (nI c) 10 19 m = some (1, m) := by
            unfold F_X11_in
            rw [if_neg (show ¬ nI c < 10 from nI_nlt (b := 10) hcl.1 hcb), if_neg (show ¬ (19 : Int32) < nI c from nI_nlt (a := 19) hcl.2 (by decide))]
          rw [if_pos hcl, ein]
          simp only [Option.bind_some]
          rw [if_neg ne10]
        · have ein : F_X11_in (nI c) 10 19 m = some (0, m) := by
            unfold F_X11_in
            by_cases h10 : 10 ≤ c
            · rw [if_neg (show ¬ nI c < 10 from nI_nlt (b := 10) h10 hcb), if_pos (show (19 : Int32) < nI c from nI_lt (a := 19) (by omega) hcb)]
            · rw [if_pos (show nI c < 10 from nI_lt (b := 10) (by omega) (by decide))]
          rw [if_neg hcl, ein]
          simp only [Option.bind_some, if_true]
          by_cases h4 : c < 4
          · rw [mx_let_y ⟨c, h4, rfl⟩]
            simp only [Option.bind_some]
            rw [if_neg ne10, if_pos h4]
            by_cases hs0 : sp = 0
            · subst hs0
              rw [if_neg (show ¬ (0 : Int32) < nI 0 by decide), if_pos rfl, bind_id]
            · have em : nI sp - 1 = nI (sp - 1) := hn_sub (b := 1) (by omega)
              rw [if_pos (show (0 : Int32) < nI sp from nI_lt (a := 0) (by omega) (by omega)), if_neg hs0, em, if_neg (hn_in (show sp - 1 < 30 by omega) (by decide)), hn_cl (by omega), if_neg (hn_in' (show sp - 1 < 30 by omega) (by omega)), bind_id]
              simp only [hn_in' (show sp - 1 < 30 by omega) (show sp - 1 < 2 ^ 31 by omega), if_false]
          · rw [mx_let_n (fun ⟨j, hj, e⟩ => h4 (by rw [hn_inj hcb (by omega) e]; exact hj)), if_neg h4]
            simp only [Option.bind_some, if_true, bind_id]
/-- a list lies below the top: nothing comes of it -/
theorem hm_pops {m : pj_M} {x1 x2 x3 x5 x6 x8 : Int32} {n : Nat} (hn : n ≤ 9) (K : Int32 → Int32 → Int32 → Int32 → Int32 → Int32 → Int32 → pj_M → Option (Int32 × pj_M)) : ∀ z i, i ≤ n → n - i < z → ∀ (sp : Nat) (acc : Int32), sp ≤ 30 → (∃ j, j < sp ∧ m.1 93 j = nI 1) → H_X11_holds_265 K z x1 x2 x3 x5 x6 (nI sp) x8 (nI (10 + n)) acc (nI i) m = F_X11_well (-1000000) m ∨ ∃ (sp' : Nat) (acc' : Int32), sp' ≤ sp ∧ (∃ j, j < sp' ∧ m.1 93 j = nI 1) ∧ H_X11_holds_265 K z x1 x2 x3 x5 x6 (nI sp) x8 (nI (10 + n)) acc (nI i) m = J_X11_holds_320 K x1 x2 x3 x5 x6 (nI sp') x8 acc' m := by
  have e10 : nI (10 + n) - 10 = nI n := by
    rw [l10, hn_sub (by omega), Nat.add_sub_cancel_left]
  refine lp ?_ ?_
  · intro z sp acc hsp hj
    refine Or.inr ⟨sp, acc, Nat.le_refl _, hj, ?_⟩
    rw [H_X11_holds_265, e10, if_neg (nI_nlt (Nat.le_refl _) (by omega))]
  · intro z i hi ih sp acc hsp hj
    obtain ⟨j, hj1, hj2⟩ := hj
    have em : nI sp - 1 = nI (sp - 1) := hn_sub (b := 1) (by omega)
    rw [H_X11_holds_265, e10, if_pos (nI_lt hi (by omega)), if_neg (nI_ne0 (by omega) (by omega)), em, if_neg (hn_in (show sp - 1 < 30 by omega) (by decide)), hn_cl (by omega), if_neg (hn_in' (show sp - 1 < 30 by omega) (by omega)), nI_1, bind_id]
    by_cases h0 : m.1 93 (sp - 1) = 0
    · rw [if_pos h0]
      have hjn : j ≠ sp - 1 := fun e => by
        rw [e, h0] at hj2
        exact absurd hj2 (by decide)
      rcases ih (sp - 1) (acc &&& m.1 92 (sp - 1)) (by omega) ⟨j, by omega, hj2⟩ with h | ⟨sp', acc', a1, a2, a3⟩
      · exact Or.inl h
      · exact Or.inr ⟨sp', acc', by omega, a2, a3⟩
    · rw [if_neg h0]
      exact Or.inl rfl
theorem hm_poison {q s r : Nat} {x5 x6 : Int32} {S : sy} (hw : wfS S) (hq : q < 2) (hr : r < 8) : ∀ k z (m : pj_M) (sp : Nat), k < z → sp + k ≤ 30 → (∃ j, j + 1 < sp ∧ m.1 93 j = nI 1) → LK m S → RW m (-1000000) (H_X11_holds_140 z (nI q) (nI s) (nI r) x5 x6 (nI sp) (nI k - 1) m) := by
  intro k
  induction k with
  | zero =>
    intro z m sp hz hsp hj hl
    obtain ⟨j, hj1, hj2⟩ := hj
    obtain ⟨z, rfl⟩ : ∃ z', z = z' + 1 := ⟨z - 1, by omega⟩
    rw [H_X11_holds_140, if_pos (by decide)]
    unfold J_X11_holds_419
    rw [if_neg (show ¬ nI sp = 1 from fun e => by
      have := hn_inj (b := 1) (by omega) (by decide) e
      omega), bind_id]
    exact RW.none m
  | succ k ih =>
    intro z m sp hz hsp hj hl
    obtain ⟨j, hj1, hj2⟩ := hj
    obtain ⟨z, rfl⟩ : ∃ z', z = z' + 1 := ⟨z - 1, by omega⟩
    rw [hm_step hr (by omega) (by omega)]
    generalize cno (m.1 75 (40 * r + k)) = c
    have keepL : ∀ m' : pj_M, fk [92, 93] [] m m' → LK m' S := fun m' hf => hl.keep (hf.cells _ (by decide))
    split
    · have hf : fk [92, 93] [] m (pj_wr (pj_wr m 92 sp x6) 93 sp 0) := (fk.wr _ (by decide) _ _).tr (fk.wr _ (by decide) _ _)
      refine (ih z _ (sp + 1) (by omega) (by omega) ⟨j, by omega, ?_⟩ (keepL _ hf)).of hf
      rw [hr_wrk (by omega), hr_wra (by decide)]
      exact hj2
    · split
      · split
        · exact RW.none m
        · split
          · have hf : fk [92, 93] [] m (pj_wr m 92 (sp - 1) (x5 &&& ((m.1 92 (sp - 1)) ^^^ (-1)))) := fk.wr _ (by decide) _ _
            refine (ih z _ sp (by omega) (by omega) ⟨j, by omega, ?_⟩ (keepL _ hf)).of hf
            rw [hr_wra (by decide)]
            exact hj2
          · exact RW.none m
      · split
        · rename_i hcl
          have hp := hm_pops (m := m) (x1 := nI q) (x2 := nI s) (x3 := nI r) (x5 := x5) (x6 := x6) (x8 := nI k) (n := c - 10) (by omega) (H_X11_holds_140 z) pj_z 0 (by omega) (by have := pj_z_ge; omega) sp x5 (by omega) ⟨j, by omega, hj2⟩
          rw [show 10 + (c - 10) = c by omega] at hp
          have hp : H_X11_holds_265 (H_X11_holds_140 z) pj_z (nI q) (nI s) (nI r) x5 x6 (nI sp) (nI k) (nI c) x5 0 m = F_X11_well (-1000000) m ∨ ∃ (sp' : Nat) (acc' : Int32), sp' ≤ sp ∧ (∃ j, j < sp' ∧ m.1 93 j = nI 1) ∧ H_X11_holds_265 (H_X11_holds_140 z) pj_z (nI q) (nI s) (nI r) x5 x6 (nI sp) (nI k) (nI c) x5 0 m = J_X11_holds_320 (H_X11_holds_140 z) (nI q) (nI s) (nI r) x5 x6 (nI sp') (nI k) acc' m := hp
          rcases hp with hp | ⟨sp', acc', a1, ⟨j', a2, a3⟩, a4⟩
          · rw [hp]
            exact RW.none m
          · rw [a4]
            unfold J_X11_holds_320
            rw [if_neg (hn_in (show sp' < 30 by omega) (by decide)), hn_cl (by omega), if_neg (hn_in' (show sp' < 30 by omega) (by omega)), nI_1]
            have hf : fk [92, 93] [] m (pj_wr (pj_wr m 92 sp' acc') 93 sp' 1) := (fk.wr _ (by decide) _ _).tr (fk.wr _ (by decide) _ _)
            refine (ih z _ (sp' + 1) (by omega) (by omega) ⟨j', by omega, ?_⟩ (keepL _ hf)).of hf
            rw [hr_wrk (by omega), hr_wra (by decide)]
            exact a3
        · split
          · rename_i h4
            split
            · exact RW.none m
            · split
              · exact RW.none m
              · obtain ⟨r', hr'⟩ := pm_movingAny (q := q) (a := c) hw hl hq h4 (m.1 92 (sp - 1))
                rw [hr']
                simp only [Option.bind_some]
                have hf : fk [92, 93] [] m (pj_wr (pj_wr m 92 (sp - 1) r') 93 (sp - 1) 0) := (fk.wr _ (by decide) _ _).tr (fk.wr _ (by decide) _ _)
                refine (ih z _ sp (by omega) (by omega) ⟨j, by omega, ?_⟩ (keepL _ hf)).of hf
                rw [hr_wrk (by omega), hr_wra (by decide)]
                exact hj2
          · exact RW.none m
/-- the reference's stack -/
def GM (m : pj_M) (S : sy) (h : Nat) (f : Nat → Nat) (op : Option Nat) (sp : Nat) : Prop := (∀ i, i < h → m.1 92 i = nI (f i) ∧ f i < 2 ^ S.1 ∧ m.1 93 i = nI 0) ∧ match op with
  | none => sp = h
  | some L => sp = h + 1 ∧ m.1 92 h = nI L ∧ m.1 93 h = nI 1 ∧ L < 2 ^ S.1
theorem hrun_none (S : sy) (q : Nat) (g : Nat → Int32) (k : Nat) : hrun S q g k none = none := by
  induction k with
  | zero => rfl
  | succ k ih => exact ih
/-- sets are taken off the stack -/
theorem hm_and {m : pj_M} {x1 x2 x3 x5 x6 x8 : Int32} {n h : Nat} {S : sy} {f : Nat → Nat} (hn : n ≤ 9) (hh : h ≤ 30) (hf : ∀ i, i < h → m.1 92 i = nI (f i) ∧ f i < 2 ^ S.1 ∧ m.1 93 i = nI 0) (K : Int32 → Int32 → Int32 → Int32 → Int32 → Int32 → Int32 → pj_M → Option (Int32 × pj_M)) : H_X11_holds_265 K pj_z x1 x2 x3 x5 x6 (nI h) x8 (nI (10 + n)) (nI (2 ^ S.1 - 1)) 0 m = if h < n then F_X11_well (-1000000) m else J_X11_holds_320 K x1 x2 x3 x5 x6 (nI (h - n)) x8 (nI (landf S f h n)) m := by
  have e10 : nI (10 + n) - 10 = nI n := by
    rw [l10, hn_sub (by omega), Nat.add_sub_cancel_left]
  have key : 0 ≤ h → H_X11_holds_265 K pj_z x1 x2 x3 x5 x6 (nI (h - 0)) x8 (nI (10 + n)) (nI (landf S f h 0)) (nI 0) m = if h < n then F_X11_well (-1000000) m else J_X11_holds_320 K x1 x2 x3 x5 x6 (nI (h - n)) x8 (nI (landf S f h n)) m := by
    refine lp0 (P := fun z i => i ≤ h → H_X11_holds_265 K z x1 x2 x3 x5 x6 (nI (h - i)) x8 (nI (10 + n)) (nI (landf S f h i)) (nI i) m = if h < n then F_X11_well (-1000000) m else J_X11_holds_320 K x1 x2 x3 x5 x6 (nI (h - n)) x8 (nI (landf S f h n)) m) n (by omega) ?_ ?_
    · intro z hi
      rw [H_X11_holds_265, e10, if_neg (nI_nlt (Nat.le_refl _) (by omega)), if_neg (by omega)]
    · intro z i hi ih hih
      rw [H_X11_holds_265, e10, if_pos (nI_lt hi (by omega))]
      by_cases h0 : h - i = 0
      · rw [h0, if_pos (show nI 0 = 0 from rfl), if_pos (by omega), bind_id]
      · have em : nI (h - i) - 1 = nI (h - (i + 1)) := hn_sub (a := h - i) (b := 1) (by omega)
        obtain ⟨a1, a2, a3⟩ := hf (h - (i + 1)) (by omega)
        rw [if_neg (nI_ne0 (by omega) (by omega)), em, if_neg (hn_in (show h - (i + 1) < 30 by omega) (by decide)), hn_cl (by omega), if_neg (hn_in' (show h - (i + 1) < 30 by omega) (by omega)), nI_1, bind_id, a3, if_pos (show nI 0 = 0 from rfl), a1, hn_and]
        exact ih (by omega)
  exact key (Nat.zero_le _)
theorem hm_holds {q s r : Nat} {S : sy} {g : Nat → Int32} (hw : wfS S) (hq : q < 2) (hr : r < 8) (hs : s < S.1) : ∀ k z (m : pj_M) (sp h : Nat) (f : Nat → Nat) (op : Option Nat), k < z → sp + k ≤ 30 → GM m S h f op sp → LK m S → (∀ i, i < k → m.1 75 (40 * r + i) = g i) → RW m (hans S s (hrun S q g k (some (h, f, op)))) (H_X11_holds_140 z (nI q) (nI s) (nI r) (nI (2 ^ S.1 - 1)) (nI (mks S)) (nI sp) (nI k - 1) m) := by
  have w1 := hw.1
  have hp2 := p2_10 w1
  have hmkS : mks S < 2 ^ S.1 := st_lt _ _
  have h0n : (0 : Int32) = nI 0 := rfl
  intro k
  induction k with
  | zero =>
    intro z m sp h f op hz hsp hG hl hg
    obtain ⟨z, rfl⟩ : ∃ z', z = z' + 1 := ⟨z - 1, by omega⟩
    rw [H_X11_holds_140, if_pos (by decide)]
    unfold J_X11_holds_419
    obtain ⟨hf, hop⟩ := hG
    simp only [hrun]
    by_cases h1 : sp = 1
    · subst h1
      rw [if_pos (show nI 1 = 1 from rfl)]
      simp only [show ((0 : Int32) < 0 ∨ 30 ≤ (0 : Int32).toNatClampNeg) = False from eq_false (by decide), if_false, c0]
      cases op with
      | none =>
        obtain rfl : 1 = h := hop
        obtain ⟨a1, a2, a3⟩ := hf 0 (by decide)
        rw [a3, if_pos (show nI 0 = 0 from rfl), a1, hn_shr (by omega) (by omega), hn_and1, bind_id]
        have e : hans S s (some (1, f, none)) = nI ((f 0 >>> s) % 2) := by
          show nI (bt (f 0) s) = _
          rw [← bt_n, Nat.and_one_is_mod]
        rw [e]
        exact ⟨m, rfl, fk.rf _ _ _⟩
      | some L =>
        obtain ⟨b1, b2, b3, b4⟩ := hop
        obtain rfl : h = 0 := by omega
        rw [b3, if_neg (show ¬ nI 1 = 0 by decide), bind_id]
        exact RW.none m
    · rw [if_neg (show ¬ nI sp = 1 from fun e => h1 (hn_inj (b := 1) (by omega) (by decide) e)), bind_id]
      have e : hans S s (some (h, f, op)) = -1000000 := by
        cases op with
        | none =>
          have : sp = h := hop
          match h, this with
          | 0, _ => rfl
          | 1, e => exact absurd e h1
          | h + 2, _ => rfl
        | some L =>
          match h with
          | 0 => rfl
          | 1 => rfl
          | h + 2 => rfl
      rw [e]
      exact RW.none m
  | succ k ih =>
    intro z m sp h f op hz hsp hG hl hg
    obtain ⟨z, rfl⟩ : ∃ z', z = z' + 1 := ⟨z - 1, by omega⟩
    rw [hm_step hr (by omega) (by omega), hg k (by omega)]
    simp only [hrun]
    generalize cno (g k) = c
    have keepL : ∀ m' : pj_M, fk [92, 93] [] m m' → LK m' S := fun m' hf => hl.keep (hf.cells _ (by decide))
    have keepG : ∀ m' : pj_M, fk [92, 93] [] m m' → ∀ i, i < k → m'.1 75 (40 * r + i) = g i := fun m' hf i hi => by
      rw [hf.cells [75] (by decide) 75 (by decide)]
      exact hg i (by omega)
    have hN : hans S s (hrun S q g k none) = -1000000 := by rw [hrun_none]; rfl
    obtain ⟨hf, hop⟩ := id hG
    cases op with
    | none =>
      obtain rfl : sp = h := hop
      by_cases h30 : c = 30
      · subst h30
        rw [if_pos rfl]
        have hfk : fk [92, 93] [] m (pj_wr (pj_wr m 92 sp (nI (mks S))) 93 sp 0) := (fk.wr _ (by decide) _ _).tr (fk.wr _ (by decide) _ _)
        refine (ih z _ (sp + 1) (sp + 1) (fup f sp (mks S)) none (by omega) (by omega) ⟨fun i hi => ?_, rfl⟩ (keepL _ hfk) (keepG _ hfk)).of hfk
        rw [hr_wra (by decide), hr_wr, hr_wr, hr_wra (by decide)]
        unfold fup
        by_cases hi' : i = sp
        · rw [if_pos (show (92 : Nat) = 92 ∧ i = sp from ⟨rfl, hi'⟩), if_pos (show (93 : Nat) = 93 ∧ i = sp from ⟨rfl, hi'⟩), if_pos hi']
          exact ⟨rfl, hmkS, rfl⟩
        · rw [if_neg (show ¬ ((92 : Nat) = 92 ∧ i = sp) from fun e => hi' e.2), if_neg (show ¬ ((93 : Nat) = 93 ∧ i = sp) from fun e => hi' e.2), if_neg hi']
          exact hf i (by omega)
      · rw [if_neg h30]
        by_cases h20 : c = 20
        · subst h20
          rw [if_pos rfl]
          by_cases h0 : sp = 0
          · subst h0
            rw [if_pos rfl]
            have e : hstp S q (some (0, f, none)) 20 = none := rfl
            rw [e, hN]
            exact RW.none m
          · obtain ⟨a1, a2, a3⟩ := hf (sp - 1) (by omega)
            rw [if_neg h0, a3, if_pos (show nI 0 = 0 from rfl), a1]
            have e : hstp S q (some (sp, f, none)) 20 = some (sp, fup f (sp - 1) (cpl S (f (sp - 1))), none) := by
              simp only [hstp]
              rw [if_neg (by decide), if_neg (by decide), if_pos trivial, if_neg h0]
            have ev : nI (2 ^ S.1 - 1) &&& (nI (f (sp - 1)) ^^^ (-1)) = nI (cpl S (f (sp - 1))) := by
              rw [show (-1 : Int32) = nI (2 ^ 32 - 1) from rfl, hn_xor, hn_and]
              rfl
            rw [e, ev]
            have hfk : fk [92, 93] [] m (pj_wr m 92 (sp - 1) (nI (cpl S (f (sp - 1))))) := fk.wr _ (by decide) _ _
            refine (ih z _ sp sp _ none (by omega) (by omega) ⟨fun i hi => ?_, rfl⟩ (keepL _ hfk) (keepG _ hfk)).of hfk
            rw [hr_wr, hr_wra (by decide)]
            unfold fup
            by_cases hi' : i = sp - 1
            · rw [if_pos (show (92 : Nat) = 92 ∧ i = sp - 1 from ⟨rfl, hi'⟩), if_pos hi']
              exact ⟨rfl, cpl_lt S _, (hf i hi).2.2⟩
            · rw [if_neg (show ¬ ((92 : Nat) = 92 ∧ i = sp - 1) from fun e => hi' e.2), if_neg hi']
              exact hf i hi
        · rw [if_neg h20]
          by_cases hcl : 10 ≤ c ∧ c ≤ 19
          · rw [if_pos hcl]
            have ha := hm_and (m := m) (x1 := nI q) (x2 := nI s) (x3 := nI r) (x5 := nI (2 ^ S.1 - 1)) (x6 := nI (mks S)) (x8 := nI k) (n := c - 10) (h := sp) (S := S) (f := f) (by omega) (by omega) hf (H_X11_holds_140 z)
            rw [show 10 + (c - 10) = c by omega] at ha
            rw [ha]
            by_cases hn : sp < c - 10
            · have e : hstp S q (some (sp, f, none)) c = none := by
                simp only [hstp]
                rw [if_neg (by omega), if_pos hcl, if_pos hn]
              rw [if_pos hn, e, hN]
              exact RW.none m
            · have e : hstp S q (some (sp, f, none)) c = some (sp - (c - 10), f, some (landf S f sp (c - 10))) := by
                simp only [hstp]
                rw [if_neg (by omega), if_pos hcl, if_neg hn]
              rw [if_neg hn, e]
              unfold J_X11_holds_320
              rw [if_neg (hn_in (show sp - (c - 10) < 30 by omega) (by decide)), hn_cl (by omega), if_neg (hn_in' (show sp - (c - 10) < 30 by omega) (by omega)), nI_1]
              have hfk : fk [92, 93] [] m (pj_wr (pj_wr m 92 (sp - (c - 10)) (nI (landf S f sp (c - 10)))) 93 (sp - (c - 10)) 1) := (fk.wr _ (by decide) _ _).tr (fk.wr _ (by decide) _ _)
              refine (ih z _ (sp - (c - 10) + 1) (sp - (c - 10)) f (some (landf S f sp (c - 10))) (by omega) (by omega) ⟨fun i hi => ?_, rfl, ?_, ?_, landf_lt S f sp _⟩ (keepL _ hfk) (keepG _ hfk)).of hfk
              · rw [hr_wra (by decide), hr_wrk (by omega), hr_wrk (by omega), hr_wra (by decide)]
                exact hf i (by omega)
              · rw [hr_wra (by decide), hr_wrs]
              · rw [hr_wrs]
                rfl
          · rw [if_neg hcl]
            have e : hstp S q (some (sp, f, none)) c = none := by
              simp only [hstp]
              by_cases h4 : c < 4
              · rw [if_pos h4]
              · rw [if_neg h4, if_neg hcl, if_neg h20, if_neg h30]
            rw [e, hN]
            by_cases h4 : c < 4
            · rw [if_pos h4]
              by_cases h0 : sp = 0
              · rw [if_pos h0]
                exact RW.none m
              · obtain ⟨a1, a2, a3⟩ := hf (sp - 1) (by omega)
                rw [if_neg h0, a3, if_pos (show nI 0 = 0 from rfl)]
                exact RW.none m
            · rw [if_neg h4]
              exact RW.none m
    | some L =>
      obtain ⟨b1, b2, b3, b4⟩ := hop
      have hsp1 : sp - 1 = h := by omega
      by_cases h4 : c < 4
      · rw [if_neg (by omega), if_neg (by omega), if_neg (by omega), if_pos h4, if_neg (by omega), hsp1, b3, if_neg (show ¬ nI 1 = 0 by decide), b2, pm_movingInto hw hl hq h4 b4]
        simp only [Option.bind_some]
        have e : hstp S q (some (h, f, some L)) c = some (h + 1, fup f h (mvt S q c L), none) := by
          simp only [hstp]
          rw [if_pos h4]
        rw [e, b1]
        have hfk : fk [92, 93] [] m (pj_wr (pj_wr m 92 h (nI (mvt S q c L))) 93 h 0) := (fk.wr _ (by decide) _ _).tr (fk.wr _ (by decide) _ _)
        refine (ih z _ (h + 1) (h + 1) (fup f h (mvt S q c L)) none (by omega) (by omega) ⟨fun i hi => ?_, rfl⟩ (keepL _ hfk) (keepG _ hfk)).of hfk
        rw [hr_wra (by decide), hr_wr, hr_wr, hr_wra (by decide)]
        unfold fup
        by_cases hi' : i = h
        · rw [if_pos (show (92 : Nat) = 92 ∧ i = h from ⟨rfl, hi'⟩), if_pos (show (93 : Nat) = 93 ∧ i = h from ⟨rfl, hi'⟩), if_pos hi']
          exact ⟨rfl, st_lt _ _, rfl⟩
        · rw [if_neg (show ¬ ((92 : Nat) = 92 ∧ i = h) from fun e => hi' e.2), if_neg (show ¬ ((93 : Nat) = 93 ∧ i = h) from fun e => hi' e.2), if_neg hi']
          exact hf i (by omega)
      · have e : hstp S q (some (h, f, some L)) c = none := by
          simp only [hstp]
          rw [if_neg h4]
        rw [e, hN]
        by_cases h30 : c = 30
        · subst h30
          rw [if_pos rfl]
          have hfk : fk [92, 93] [] m (pj_wr (pj_wr m 92 sp (nI (mks S))) 93 sp 0) := (fk.wr _ (by decide) _ _).tr (fk.wr _ (by decide) _ _)
          refine (hm_poison hw hq hr k z _ (sp + 1) (by omega) (by omega) ⟨h, by omega, ?_⟩ (keepL _ hfk)).of hfk
          rw [hr_wrk (by omega), hr_wra (by decide)]
          exact b3
        · rw [if_neg h30]
          by_cases h20 : c = 20
          · subst h20
            rw [if_pos rfl, if_neg (by omega), hsp1, b3, if_neg (show ¬ nI 1 = 0 by decide)]
            exact RW.none m
          · rw [if_neg h20]
            by_cases hcl : 10 ≤ c ∧ c ≤ 19
            · rw [if_pos hcl]
              have hp := hm_pops (m := m) (x1 := nI q) (x2 := nI s) (x3 := nI r) (x5 := nI (2 ^ S.1 - 1)) (x6 := nI (mks S)) (x8 := nI k) (n := c - 10) (by omega) (H_X11_holds_140 z) pj_z 0 (by omega) (by have := pj_z_ge; omega) sp (nI (2 ^ S.1 - 1)) (by omega) ⟨h, by omega, b3⟩
              rw [show 10 + (c - 10) = c by omega] at hp
              have hp : H_X11_holds_265 (H_X11_holds_140 z) pj_z (nI q) (nI s) (nI r) (nI (2 ^ S.1 - 1)) (nI (mks S)) (nI sp) (nI k) (nI c) (nI (2 ^ S.1 - 1)) 0 m = F_X11_well (-1000000) m ∨ ∃ (sp' : Nat) (acc' : Int32), sp' ≤ sp ∧ (∃ j, j < sp' ∧ m.1 93 j = nI 1) ∧ H_X11_holds_265 (H_X11_holds_140 z) pj_z (nI q) (nI s) (nI r) (nI (2 ^ S.1 - 1)) (nI (mks S)) (nI sp) (nI k) (nI c) (nI (2 ^ S.1 - 1)) 0 m = J_X11_holds_320 (H_X11_holds_140 z) (nI q) (nI s) (nI r) (nI (2 ^ S.1 - 1)) (nI (mks S)) (nI sp') (nI k) acc' m := hp
              rcases hp with hp | ⟨sp', acc', a1, ⟨j', a2, a3⟩, a4⟩
              · rw [hp]
                exact RW.none m
              · rw [a4]
                unfold J_X11_holds_320
                rw [if_neg (hn_in (show sp' < 30 by omega) (by decide)), hn_cl (by omega), if_neg (hn_in' (show sp' < 30 by omega) (by omega)), nI_1]
                have hfk : fk [92, 93] [] m (pj_wr (pj_wr m 92 sp' acc') 93 sp' 1) := (fk.wr _ (by decide) _ _).tr (fk.wr _ (by decide) _ _)
                refine (hm_poison hw hq hr k z _ (sp' + 1) (by omega) (by omega) ⟨j', by omega, ?_⟩ (keepL _ hfk)).of hfk
                rw [hr_wrk (by omega), hr_wra (by decide)]
                exact a3
            · rw [if_neg hcl, if_neg h4]
              exact RW.none m
