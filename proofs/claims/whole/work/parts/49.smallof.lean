/-! PART 49: how many are in a set; small, arcs -/
noncomputable def bcx (x : Int32) : Int32 := ((F_J6_bitCount_0f7a4 x (fun _ _ => 0, fun _ _ => 0)).map Prod.fst).getD 0
theorem bcx_eq : ∀ s, s < 1024 → bcx (nI s) = nI (cnt s 10) := by decide +kernel
theorem px_bc {m : pj_M} {s : Nat} (hs : s < 1024) : F_J6_bitCount_0f7a4 (nI s) m = some (nI (cnt s 10), m) := by
  rw [← bcx_eq s hs]
  rfl
theorem pm_size {m : pj_M} {s : Nat} (hs : s < 1024) : F_X11_sizeOf (nI s) m = some (nI (cnt s 10), m) := by
  refine lp0 (P := fun z i => H_X11_sizeOf_4 z (nI s) (nI (cnt s i)) (nI i) m = some (nI (cnt s 10), m)) 10 (by decide) ?_ ?_
  · intro z
    rw [H_X11_sizeOf_4]
    simp (disch := omega) only [Option.bind_some, ofn, l0, l1, l2, l3, l4, l5, l6, l7, l8, l9, l10, l11, l12, l19, l20, l30, l31, l40, l72, l100, hn_mul, hn_add, hn_sub, hn_or, hn_and, sh_r, sh_l, bt_n, bt_0, bt_1, hn_cl, if_true, if_false, ↓reduceIte, hn_lt, hn_le, hn_eq, ne_1, ne_m, lt_t, lt_f, le_t, le_f, eq_t, eq_f, Nat.not_lt_zero, false_or, or_false, or_self, false_and, and_false, true_and, and_true, not_true, not_false_iff]
  · intro z i hi ih
    rw [H_X11_sizeOf_4]
    have e : cnt s (i + 1) = cnt s i + bt s i := rfl
    rw [e] at ih
    simp (disch := omega) only [Option.bind_some, ofn, l0, l1, l2, l3, l4, l5, l6, l7, l8, l9, l10, l11, l12, l19, l20, l30, l31, l40, l72, l100, hn_mul, hn_add, hn_sub, hn_or, hn_and, sh_r, sh_l, bt_n, bt_0, bt_1, hn_cl, if_true, if_false, ↓reduceIte, hn_lt, hn_le, hn_eq, ne_1, ne_m, lt_t, lt_f, le_t, le_f, eq_t, eq_f, Nat.not_lt_zero, false_or, or_false, or_self, false_and, and_false, true_and, and_true, not_true, not_false_iff]
    exact ih
/-- an or over all below n -/
def orf (g : Nat → Nat) : Nat → Nat
  | 0 => 0
  | n + 1 => orf g n ||| g n
theorem orf_tb (g : Nat → Nat) (n b : Nat) : (orf g n).testBit b = true ↔ ∃ i, i < n ∧ (g i).testBit b = true := by
  induction n with
  | zero => simp [orf]
  | succ n ih =>
    simp only [orf, Nat.testBit_or, Bool.or_eq_true, ih]
    constructor
    · rintro (⟨i, h1, h2⟩ | h)
      · exact ⟨i, by omega, h2⟩
      · exact ⟨n, by omega, h⟩
    · rintro ⟨i, h1, h2⟩
      rcases Nat.lt_or_ge i n with hi | hi
      · exact Or.inl ⟨i, hi, h2⟩
      · obtain rfl : i = n := by omega
        exact Or.inr h2
theorem hn_xor (a b : Nat) : nI a ^^^ nI b = nI (a ^^^ b) := by
  apply hn_ext
  apply BitVec.eq_of_getLsbD_eq
  intro i hi
  simp [Int32.toBitVec_xor, hn_bv, hi]
theorem lm1 : -nI 1 = nI (2 ^ 32 - 1) := rfl
/-- small -/
def sm (S : sy) (q b a : Nat) : Nat := if 0 < q ∧ a = 0 then bo (bl S q (rd S q)) (un (go S a) (sb (bl S q (rd S q)) b S.1) 10) S.1 &&& (2 ^ b ^^^ (2 ^ 32 - 1)) else bo (bl S q (rd S q)) (un (go S a) (sb (bl S q (rd S q)) b S.1) 10) S.1
def smg (S : sy) (q b a s t : Nat) : Nat := if bl S q (rd S q) s = b ∧ (go S a s).testBit t = true ∧ ¬ (a = 0 ∧ 0 < q ∧ bl S q (rd S q) t = b) then 2 ^ bl S q (rd S q) t else 0
theorem ext_tb {x y : Nat} (h : ∀ i, x.testBit i = true ↔ y.testBit i = true) : x = y := Nat.eq_of_testBit_eq (fun i => Bool.eq_iff_iff.mpr (h i))
theorem tb_lt {x n i : Nat} (hx : x < 2 ^ n) (h : x.testBit i = true) : i < n := by
  rcases Nat.lt_or_ge i n with h1 | h1
  · exact h1
  · rw [Nat.testBit_lt_two_pow (Nat.lt_of_lt_of_le hx (Nat.pow_le_pow_right (by decide) h1))] at h
    cases h
theorem sm_eq {S : sy} (hw : wfS S) (q b a : Nat) : sm S q b a = orf (fun s => orf (smg S q b a s) S.1) S.1 := by
  have w1 := hw.1
  have hX : ∀ c, (bo (bl S q (rd S q)) (un (go S a) (sb (bl S q (rd S q)) b S.1) 10) S.1).testBit c = true ↔ ∃ s t, s < S.1 ∧ t < S.1 ∧ bl S q (rd S q) s = b ∧ (go S a s).testBit t = true ∧ bl S q (rd S q) t = c := by
    intro c
    rw [bo_tb]
    constructor
    · rintro ⟨t, h1, h2, h3⟩
      obtain ⟨s, h4, h5, h6⟩ := (un_tb _ _ _ _).mp h2
      simp only [sb] at h5
      rw [st_tb] at h5
      simp only [Bool.and_eq_true, decide_eq_true_eq] at h5
      exact ⟨s, t, h5.1, h1, h5.2, h6, h3⟩
    · rintro ⟨s, t, h1, h2, h3, h4, h5⟩
      refine ⟨t, h2, (un_tb _ _ _ _).mpr ⟨s, by omega, ?_, h4⟩, h5⟩
      simp only [sb]
      rw [st_tb]
      simp [h1, h3]
  have hM : ∀ c, (orf (fun s => orf (smg S q b a s) S.1) S.1).testBit c = true ↔ ∃ s t, s < S.1 ∧ t < S.1 ∧ bl S q (rd S q) s = b ∧ (go S a s).testBit t = true ∧ ¬ (a = 0 ∧ 0 < q ∧ bl S q (rd S q) t = b) ∧ bl S q (rd S q) t = c := by
    intro c
    rw [orf_tb]
    constructor
    · rintro ⟨s, h1, h2⟩
      obtain ⟨t, h3, h4⟩ := (orf_tb _ _ _).mp h2
      simp only [smg] at h4
      split at h4
      · rename_i h5
        rw [Nat.testBit_two_pow] at h4
        exact ⟨s, t, h1, h3, h5.1, h5.2.1, h5.2.2, by simpa using h4⟩
      · simp at h4
    · rintro ⟨s, t, h1, h2, h3, h4, h5, h6⟩
      refine ⟨s, h1, (orf_tb _ _ _).mpr ⟨t, h2, ?_⟩⟩
      simp only [smg]
      rw [if_pos ⟨h3, h4, h5⟩, h6]
      exact Nat.testBit_two_pow_self
  refine ext_tb (fun c => ?_)
  rw [hM]
  unfold sm
  by_cases h0 : 0 < q ∧ a = 0
  · rw [if_pos h0, Nat.testBit_and, Bool.and_eq_true, hX]
    have hb : bl S q (rd S q) = bl S q (rd S q) := rfl
    constructor
    · rintro ⟨⟨s, t, h1, h2, h3, h4, h5⟩, h6⟩
      refine ⟨s, t, h1, h2, h3, h4, fun h7 => ?_, h5⟩
      have hc : c = b := by omega
      have hc10 := bl_10 hw q (rd S q) t h2
      have hcb : c < 10 := by omega
      rw [Nat.testBit_xor, hc, Nat.testBit_two_pow_self, Nat.testBit_two_pow_sub_one] at h6
      simp at h6
      omega
    · rintro ⟨s, t, h1, h2, h3, h4, h5, h6⟩
      refine ⟨⟨s, t, h1, h2, h3, h4, h6⟩, ?_⟩
      have hc10 := bl_10 hw q (rd S q) t h2
      have hne : b ≠ c := fun e => h5 ⟨h0.2, h0.1, by omega⟩
      rw [Nat.testBit_xor, Nat.testBit_two_pow_of_ne hne, Nat.testBit_two_pow_sub_one]
      simp
      omega
  · rw [if_neg h0, hX]
    constructor
    · rintro ⟨s, t, h1, h2, h3, h4, h5⟩
      exact ⟨s, t, h1, h2, h3, h4, fun h => h0 ⟨h.2.1, h.1⟩, h5⟩
    · rintro ⟨s, t, h1, h2, h3, h4, -, h5⟩
      exact ⟨s, t, h1, h2, h3, h4, h5⟩
theorem sm_lt {S : sy} (hw : wfS S) (q b a : Nat) : sm S q b a < 1024 := by
  have h : bo (bl S q (rd S q)) (un (go S a) (sb (bl S q (rd S q)) b S.1) 10) S.1 < 2 ^ 10 := bo_lt (bl_10 hw q _)
  unfold sm
  split
  · exact Nat.lt_of_le_of_lt Nat.and_le_left h
  · exact h
theorem px_smallOf {m : pj_M} {P T q b a : Nat} {S : sy} (hw : wfS S) (hP : PT m P S q) (hg : GT m (T + 1) (go S)) (hb : b < 10) (ha : a < 4) (hq : q < 3) : F_X5_smallOf P T (nI b) (nI a) m = some (nI (sm S q b a), m) := by
  have w1 := hw.1
  have hrd := rd_le9 hw q
  obtain ⟨p0, p3, p4, p5, p6, p7⟩ := hP
  have e1 := px_sb (m := m) (P := P) (r := rd S q) (n := S.1) (b := b) (f := bl S q (rd S q)) w1 (by omega) p3 (by omega) (bl_10 hw q _) (fun t ht => p6 _ t (Nat.le_refl _) ht)
  have hlt : sb (bl S q (rd S q)) b S.1 < 2 ^ S.1 := st_lt _ _
  have hp := p2_10 w1
  have e2 := px_gfrom (m := m) (T := T) (a := a) (s := sb (bl S q (rd S q)) b S.1) (g := go S) ha (by omega) hg
  have hlt2 : un (go S a) (sb (bl S q (rd S q)) b S.1) 10 < 2 ^ S.1 := un_lt 10 (fun i _ => go_lt hw a i)
  have e3 := px_bo (m := m) (P := P) (r := rd S q) (n := S.1) (set := un (go S a) (sb (bl S q (rd S q)) b S.1) 10) w1 (by omega) p3 (by omega) (bl_10 hw q _) (fun t ht => p6 _ t (Nat.le_refl _) ht)
  unfold F_X5_smallOf sm
  simp (disch := omega) only [Option.bind_some, ofn, l0, l1, l2, l3, l4, l5, l6, l7, l8, l9, l10, l11, l12, l19, l20, l30, l31, l40, l72, l100, hn_mul, hn_add, hn_sub, hn_or, hn_and, sh_r, sh_l, bt_n, bt_0, bt_1, hn_cl, if_true, if_false, ↓reduceIte, hn_lt, hn_le, hn_eq, ne_1, ne_m, lt_t, lt_f, le_t, le_f, eq_t, eq_f, Nat.not_lt_zero, false_or, or_false, or_self, false_and, and_false, true_and, and_true, not_true, not_false_iff, p4, e1, e2, e3, p0, lm1, hn_xor]
  by_cases h0 : 0 < q
  · by_cases h1 : a = 0
    · simp (disch := omega) only [Option.bind_some, ofn, l0, l1, l2, l3, l4, l5, l6, l7, l8, l9, l10, l11, l12, l19, l20, l30, l31, l40, l72, l100, hn_mul, hn_add, hn_sub, hn_or, hn_and, sh_r, sh_l, bt_n, bt_0, bt_1, hn_cl, if_true, if_false, ↓reduceIte, hn_lt, hn_le, hn_eq, ne_1, ne_m, lt_t, lt_f, le_t, le_f, eq_t, eq_f, Nat.not_lt_zero, false_or, or_false, or_self, false_and, and_false, true_and, and_true, not_true, not_false_iff, h0, h1]
    · simp (disch := omega) only [Option.bind_some, ofn, l0, l1, l2, l3, l4, l5, l6, l7, l8, l9, l10, l11, l12, l19, l20, l30, l31, l40, l72, l100, hn_mul, hn_add, hn_sub, hn_or, hn_and, sh_r, sh_l, bt_n, bt_0, bt_1, hn_cl, if_true, if_false, ↓reduceIte, hn_lt, hn_le, hn_eq, ne_1, ne_m, lt_t, lt_f, le_t, le_f, eq_t, eq_f, Nat.not_lt_zero, false_or, or_false, or_self, false_and, and_false, true_and, and_true, not_true, not_false_iff, h0, h1]
  · simp (disch := omega) only [Option.bind_some, ofn, l0, l1, l2, l3, l4, l5, l6, l7, l8, l9, l10, l11, l12, l19, l20, l30, l31, l40, l72, l100, hn_mul, hn_add, hn_sub, hn_or, hn_and, sh_r, sh_l, bt_n, bt_0, bt_1, hn_cl, if_true, if_false, ↓reduceIte, hn_lt, hn_le, hn_eq, ne_1, ne_m, lt_t, lt_f, le_t, le_f, eq_t, eq_f, Nat.not_lt_zero, false_or, or_false, or_self, false_and, and_false, true_and, and_true, not_true, not_false_iff, h0]
theorem pm_smallOf {m : pj_M} {q b a : Nat} {S : sy} (hw : wfS S) (hl : LK m S) (hP : PB m S q) (hb : b < 10) (ha : a < 4) (hq : q < 3) : F_X11_smallOf (nI q) (nI b) (nI a) m = some (nI (sm S q b a), m) := by
  have w1 := hw.1
  have hp := p2_10 w1
  have hrd := rd_le9 hw q
  have h83 := hl.1.1
  have h23 := hP.1
  rw [sm_eq hw]
  have inner : ∀ (k6 : Int32 → Int32 → Int32 → Int32 → Int32 → pj_M → Option (Int32 × pj_M)) (s A : Nat), s < S.1 → H_X11_smallOf_18 k6 pj_z (nI q) (nI b) (nI a) (nI A) (nI s) 0 m = k6 (nI q) (nI b) (nI a) (nI (A ||| orf (smg S q b a s) S.1)) (nI (s + 1)) m := by
    intro k6 s A hs
    have h : H_X11_smallOf_18 k6 pj_z (nI q) (nI b) (nI a) (nI (A ||| orf (smg S q b a s) 0)) (nI s) (nI 0) m = k6 (nI q) (nI b) (nI a) (nI (A ||| orf (smg S q b a s) S.1)) (nI (s + 1)) m := by
      refine lp0 (P := fun z i => H_X11_smallOf_18 k6 z (nI q) (nI b) (nI a) (nI (A ||| orf (smg S q b a s) i)) (nI s) (nI i) m = k6 (nI q) (nI b) (nI a) (nI (A ||| orf (smg S q b a s) S.1)) (nI (s + 1)) m) S.1 (by omega) ?_ ?_
      · intro z
        rw [H_X11_smallOf_18, mx_states, h83]
        simp (disch := omega) only [Option.bind_some, ofn, l0, l1, l2, l3, l4, l5, l6, l7, l8, l9, l10, l11, l12, l19, l20, l30, l31, l40, l72, l100, hn_mul, hn_add, hn_sub, hn_or, hn_and, sh_r, sh_l, bt_n, bt_0, bt_1, hn_cl, if_true, if_false, ↓reduceIte, hn_lt, hn_le, hn_eq, ne_1, ne_m, lt_t, lt_f, le_t, le_f, eq_t, eq_f, Nat.not_lt_zero, false_or, or_false, or_self, false_and, and_false, true_and, and_true, not_true, not_false_iff]
      · intro z t ht ih
        have e1 := pm_last hw hP hs
        have e2 := pm_last hw hP ht
        have h1 := bl_10 hw q (rd S q) s hs
        have h2 := bl_10 hw q (rd S q) t ht
        have hg := hl.2.1 a s ha (by omega)
        have hgl := go_lt10 hw a s
        have e3 := mx_has (m := m) (s := go S a s) (j := t) (by omega) (by omega)
        have eo : ∀ v, smg S q b a s t = v → A ||| orf (smg S q b a s) (t + 1) = A ||| orf (smg S q b a s) t ||| v := fun v hv => by
          simp only [orf, hv, Nat.or_assoc]
        rw [H_X11_smallOf_18, mx_states, h83]
        unfold J_X11_smallOf_66 J_X11_smallOf_95
        by_cases c1 : bl S q (rd S q) s = b
        · by_cases c2 : (go S a s).testBit t = true
          · rw [if_pos c2] at e3
            by_cases c3 : a = 0
            · subst c3
              by_cases c4 : 0 < q
              · by_cases c5 : bl S q (rd S q) t = b
                · rw [eo 0 (by unfold smg; rw [if_neg (fun h => h.2.2 ⟨rfl, c4, c5⟩)])] at ih
                  rw [c1] at e1
                  rw [c5] at e2
                  simp (disch := omega) only [Option.bind_some, ofn, l0, l1, l2, l3, l4, l5, l6, l7, l8, l9, l10, l11, l12, l19, l20, l30, l31, l40, l72, l100, hn_mul, hn_add, hn_sub, hn_or, hn_and, sh_r, sh_l, bt_n, bt_0, bt_1, hn_cl, if_true, if_false, ↓reduceIte, hn_lt, hn_le, hn_eq, ne_1, ne_m, lt_t, lt_f, le_t, le_f, eq_t, eq_f, Nat.not_lt_zero, false_or, or_false, or_self, false_and, and_false, true_and, and_true, not_true, not_false_iff, h23, e1, hg, e3, c4, e2]
                  exact ih
                · rw [eo (2 ^ bl S q (rd S q) t) (by unfold smg; rw [if_pos ⟨c1, c2, fun h => c5 h.2.2⟩])] at ih
                  rw [c1] at e1
                  simp (disch := omega) only [Option.bind_some, ofn, l0, l1, l2, l3, l4, l5, l6, l7, l8, l9, l10, l11, l12, l19, l20, l30, l31, l40, l72, l100, hn_mul, hn_add, hn_sub, hn_or, hn_and, sh_r, sh_l, bt_n, bt_0, bt_1, hn_cl, if_true, if_false, ↓reduceIte, hn_lt, hn_le, hn_eq, ne_1, ne_m, lt_t, lt_f, le_t, le_f, eq_t, eq_f, Nat.not_lt_zero, false_or, or_false, or_self, false_and, and_false, true_and, and_true, not_true, not_false_iff, h23, e1, hg, e3, c4, e2, c5]
                  exact ih
              · rw [eo (2 ^ bl S q (rd S q) t) (by unfold smg; rw [if_pos ⟨c1, c2, fun h => c4 h.2.1⟩])] at ih
                rw [c1] at e1
                simp (disch := omega) only [Option.bind_some, ofn, l0, l1, l2, l3, l4, l5, l6, l7, l8, l9, l10, l11, l12, l19, l20, l30, l31, l40, l72, l100, hn_mul, hn_add, hn_sub, hn_or, hn_and, sh_r, sh_l, bt_n, bt_0, bt_1, hn_cl, if_true, if_false, ↓reduceIte, hn_lt, hn_le, hn_eq, ne_1, ne_m, lt_t, lt_f, le_t, le_f, eq_t, eq_f, Nat.not_lt_zero, false_or, or_false, or_self, false_and, and_false, true_and, and_true, not_true, not_false_iff, h23, e1, hg, e3, c4, e2]
                exact ih
            · rw [eo (2 ^ bl S q (rd S q) t) (by unfold smg; rw [if_pos ⟨c1, c2, fun h => c3 h.1⟩])] at ih
              rw [c1] at e1
              simp (disch := omega) only [Option.bind_some, ofn, l0, l1, l2, l3, l4, l5, l6, l7, l8, l9, l10, l11, l12, l19, l20, l30, l31, l40, l72, l100, hn_mul, hn_add, hn_sub, hn_or, hn_and, sh_r, sh_l, bt_n, bt_0, bt_1, hn_cl, if_true, if_false, ↓reduceIte, hn_lt, hn_le, hn_eq, ne_1, ne_m, lt_t, lt_f, le_t, le_f, eq_t, eq_f, Nat.not_lt_zero, false_or, or_false, or_self, false_and, and_false, true_and, and_true, not_true, not_false_iff, h23, e1, hg, e3, c3, e2]
              exact ih
          · rw [if_neg c2] at e3
            rw [eo 0 (by unfold smg; rw [if_neg (fun h => c2 h.2.1)])] at ih
            rw [c1] at e1
            by_cases c3 : a = 0
            · subst c3
              by_cases c4 : 0 < q
              · by_cases c5 : bl S q (rd S q) t = b
                · rw [c5] at e2
                  simp (disch := omega) only [Option.bind_some, ofn, l0, l1, l2, l3, l4, l5, l6, l7, l8, l9, l10, l11, l12, l19, l20, l30, l31, l40, l72, l100, hn_mul, hn_add, hn_sub, hn_or, hn_and, sh_r, sh_l, bt_n, bt_0, bt_1, hn_cl, if_true, if_false, ↓reduceIte, hn_lt, hn_le, hn_eq, ne_1, ne_m, lt_t, lt_f, le_t, le_f, eq_t, eq_f, Nat.not_lt_zero, false_or, or_false, or_self, false_and, and_false, true_and, and_true, not_true, not_false_iff, h23, e1, hg, e3, c4, e2]
                  exact ih
                · simp (disch := omega) only [Option.bind_some, ofn, l0, l1, l2, l3, l4, l5, l6, l7, l8, l9, l10, l11, l12, l19, l20, l30, l31, l40, l72, l100, hn_mul, hn_add, hn_sub, hn_or, hn_and, sh_r, sh_l, bt_n, bt_0, bt_1, hn_cl, if_true, if_false, ↓reduceIte, hn_lt, hn_le, hn_eq, ne_1, ne_m, lt_t, lt_f, le_t, le_f, eq_t, eq_f, Nat.not_lt_zero, false_or, or_false, or_self, false_and, and_false, true_and, and_true, not_true, not_false_iff, h23, e1, hg, e3, c4, e2, c5]
                  exact ih
              · simp (disch := omega) only [Option.bind_some, ofn, l0, l1, l2, l3, l4, l5, l6, l7, l8, l9, l10, l11, l12, l19, l20, l30, l31, l40, l72, l100, hn_mul, hn_add, hn_sub, hn_or, hn_and, sh_r, sh_l, bt_n, bt_0, bt_1, hn_cl, if_true, if_false, ↓reduceIte, hn_lt, hn_le, hn_eq, ne_1, ne_m, lt_t, lt_f, le_t, le_f, eq_t, eq_f, Nat.not_lt_zero, false_or, or_false, or_self, false_and, and_false, true_and, and_true, not_true, not_false_iff, h23, e1, hg, e3, c4, e2]
                exact ih
            · simp (disch := omega) only [Option.bind_some, ofn, l0, l1, l2, l3, l4, l5, l6, l7, l8, l9, l10, l11, l12, l19, l20, l30, l31, l40, l72, l100, hn_mul, hn_add, hn_sub, hn_or, hn_and, sh_r, sh_l, bt_n, bt_0, bt_1, hn_cl, if_true, if_false, ↓reduceIte, hn_lt, hn_le, hn_eq, ne_1, ne_m, lt_t, lt_f, le_t, le_f, eq_t, eq_f, Nat.not_lt_zero, false_or, or_false, or_self, false_and, and_false, true_and, and_true, not_true, not_false_iff, h23, e1, hg, e3, c3, e2]
              exact ih
        · rw [eo 0 (by unfold smg; rw [if_neg (fun h => c1 h.1)])] at ih
          by_cases c3 : a = 0
          · subst c3
            by_cases c4 : 0 < q
            · by_cases c5 : bl S q (rd S q) t = b
              · rw [c5] at e2
                simp (disch := omega) only [Option.bind_some, ofn, l0, l1, l2, l3, l4, l5, l6, l7, l8, l9, l10, l11, l12, l19, l20, l30, l31, l40, l72, l100, hn_mul, hn_add, hn_sub, hn_or, hn_and, sh_r, sh_l, bt_n, bt_0, bt_1, hn_cl, if_true, if_false, ↓reduceIte, hn_lt, hn_le, hn_eq, ne_1, ne_m, lt_t, lt_f, le_t, le_f, eq_t, eq_f, Nat.not_lt_zero, false_or, or_false, or_self, false_and, and_false, true_and, and_true, not_true, not_false_iff, h23, e1, c1, hg, c4, e2]
                exact ih
              · simp (disch := omega) only [Option.bind_some, ofn, l0, l1, l2, l3, l4, l5, l6, l7, l8, l9, l10, l11, l12, l19, l20, l30, l31, l40, l72, l100, hn_mul, hn_add, hn_sub, hn_or, hn_and, sh_r, sh_l, bt_n, bt_0, bt_1, hn_cl, if_true, if_false, ↓reduceIte, hn_lt, hn_le, hn_eq, ne_1, ne_m, lt_t, lt_f, le_t, le_f, eq_t, eq_f, Nat.not_lt_zero, false_or, or_false, or_self, false_and, and_false, true_and, and_true, not_true, not_false_iff, h23, e1, c1, hg, c4, e2, c5]
                exact ih
            · simp (disch := omega) only [Option.bind_some, ofn, l0, l1, l2, l3, l4, l5, l6, l7, l8, l9, l10, l11, l12, l19, l20, l30, l31, l40, l72, l100, hn_mul, hn_add, hn_sub, hn_or, hn_and, sh_r, sh_l, bt_n, bt_0, bt_1, hn_cl, if_true, if_false, ↓reduceIte, hn_lt, hn_le, hn_eq, ne_1, ne_m, lt_t, lt_f, le_t, le_f, eq_t, eq_f, Nat.not_lt_zero, false_or, or_false, or_self, false_and, and_false, true_and, and_true, not_true, not_false_iff, h23, e1, c1, hg, c4, e2]
              exact ih
          · simp (disch := omega) only [Option.bind_some, ofn, l0, l1, l2, l3, l4, l5, l6, l7, l8, l9, l10, l11, l12, l19, l20, l30, l31, l40, l72, l100, hn_mul, hn_add, hn_sub, hn_or, hn_and, sh_r, sh_l, bt_n, bt_0, bt_1, hn_cl, if_true, if_false, ↓reduceIte, hn_lt, hn_le, hn_eq, ne_1, ne_m, lt_t, lt_f, le_t, le_f, eq_t, eq_f, Nat.not_lt_zero, false_or, or_false, or_self, false_and, and_false, true_and, and_true, not_true, not_false_iff, h23, e1, c1, hg, c3, e2]
            exact ih
    rw [show A ||| orf (smg S q b a s) 0 = A from Nat.or_zero A] at h
    exact h
  refine lp0 (P := fun z s => H_X11_smallOf_6 z (nI q) (nI b) (nI a) (nI (orf (fun s => orf (smg S q b a s) S.1) s)) (nI s) m = some (nI (orf (fun s => orf (smg S q b a s) S.1) S.1), m)) S.1 (by omega) ?_ ?_
  · intro z
    rw [H_X11_smallOf_6, mx_states, h83]
    simp (disch := omega) only [Option.bind_some, ofn, l0, l1, l2, l3, l4, l5, l6, l7, l8, l9, l10, l11, l12, l19, l20, l30, l31, l40, l72, l100, hn_mul, hn_add, hn_sub, hn_or, hn_and, sh_r, sh_l, bt_n, bt_0, bt_1, hn_cl, if_true, if_false, ↓reduceIte, hn_lt, hn_le, hn_eq, ne_1, ne_m, lt_t, lt_f, le_t, le_f, eq_t, eq_f, Nat.not_lt_zero, false_or, or_false, or_self, false_and, and_false, true_and, and_true, not_true, not_false_iff]
  · intro z s hs ih
    rw [H_X11_smallOf_6, mx_states, h83]
    simp only [Option.bind_some]
    rw [if_pos (nI_lt hs (by omega)), inner _ s _ hs]
    exact ih
