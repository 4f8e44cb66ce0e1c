/-! PART 56: formulas: what both sides do; X's side -/
theorem gput_out {g : Nat → Nat → Nat} {a s t n : Nat} (hs : s < n) (h : ∀ a' s', n ≤ s' → g a' s' = 0) (a' s' : Nat) (hs' : n ≤ s') : gput g a s t a' s' = 0 := by
  simp only [gput]
  rw [if_neg (by omega)]
  exact h a' s' hs'
theorem goN_out {S : sy} (hw : wfS S) (j : Nat) (hj : j ≤ S.2.2.1) : ∀ a s, S.1 ≤ s → goN S j a s = 0 := by
  induction j with
  | zero => intro a s _; rfl
  | succ j ih =>
    have hv := hw.2.2.2 j (by omega)
    have ih := ih (by omega)
    intro a s hs
    simp only [goN, garc]
    split <;> split <;> (try split) <;> first | exact ih _ _ hs | exact gput_out hv.2.1 ih _ _ hs | exact gput_out hv.2.2 ih _ _ hs | exact gput_out hv.2.2 (gput_out hv.2.1 ih) _ _ hs
theorem go_out {S : sy} (hw : wfS S) {a s : Nat} (hs : S.1 ≤ s) : go S a s = 0 := goN_out hw _ (Nat.le_refl _) a s hs
theorem un_pow {f : Nat → Nat} {s n : Nat} (hs : s < n) : un f (2 ^ s) n = f s := by
  refine ext_tb (fun i => ?_)
  rw [un_tb]
  constructor
  · rintro ⟨j, h1, h2, h3⟩
    rw [Nat.testBit_two_pow] at h2
    have : s = j := by simpa using h2
    rw [this]
    exact h3
  · intro h
    exact ⟨s, hs, Nat.testBit_two_pow_self, h⟩
theorem un_zero (f : Nat → Nat) (n : Nat) : un f 0 n = 0 := by
  induction n with
  | zero => rfl
  | succ n ih => simp [un, ih]
theorem cl0_out {S : sy} (hw : wfS S) {s : Nat} (hs : S.1 ≤ s) (hs10 : s < 10) : cl0 S s = 2 ^ s := by
  have h1 : stp (go S 0) 1023 (2 ^ s) = 2 ^ s := by
    unfold stp
    rw [un_pow hs10, go_out hw hs]
    simp
  unfold cl0
  rw [itp_stop (j := 0) h1 10 (by omega)]
  rfl
theorem mv_out {S : sy} (hw : wfS S) {q a s L : Nat} (hs : S.1 ≤ s) (hs10 : s < 10) (hL : L < 2 ^ S.1) : mv S q a s &&& L = 0 := by
  unfold mv
  split
  · unfold cl
    split
    · rw [cl0_out hw hs hs10]
      refine ext_tb (fun i => ⟨fun h => ?_, fun h => by simp at h⟩)
      rw [Nat.testBit_and, Bool.and_eq_true, Nat.testBit_two_pow] at h
      have h1 : s = i := by simpa using h.1
      have h2 := tb_lt hL h.2
      omega
    · rw [cl0_out hw hs hs10, un_pow hs10, go_out hw hs, un_zero]
      simp
  · rw [go_out hw hs]
    simp
/-- those that move by a letter into a set -/
def mvt (S : sy) (q a L : Nat) : Nat := st (fun s => decide (mv S q a s &&& L ≠ 0)) S.1
theorem px_movingTo {m : pj_M} {T q a L : Nat} {S : sy} (hw : wfS S) (hq : q < 2) (ha : a < 4) (hL : L < 2 ^ S.1) (hg : GT m (T + 1) (go S)) (hc : GT m (T + 2) (cl S)) : F_X7_movingTo T (nI q) (nI a) (nI L) m = some (nI (mvt S q a L), m) := by
  have w1 := hw.1
  have hp := p2_10 w1
  have hst : mvt S q a L = st (fun s => decide (mv S q a s &&& L ≠ 0)) 10 := by
    refine ext_tb (fun i => ?_)
    unfold mvt
    rw [st_tb, st_tb]
    simp only [Bool.and_eq_true, decide_eq_true_eq]
    constructor
    · rintro ⟨h1, h2⟩
      exact ⟨by omega, h2⟩
    · rintro ⟨h1, h2⟩
      refine ⟨?_, h2⟩
      rcases Nat.lt_or_ge i S.1 with h3 | h3
      · exact h3
      · exact absurd (mv_out hw h3 h1 hL) h2
  rw [hst]
  refine lp0 (P := fun z i => H_X7_movingTo_6 z T (nI q) (nI a) (nI L) (nI (st (fun s => decide (mv S q a s &&& L ≠ 0)) i)) (nI i) m = some (nI (st (fun s => decide (mv S q a s &&& L ≠ 0)) 10), m)) 10 (by decide) ?_ ?_
  · intro z
    rw [H_X7_movingTo_6]
    simp (disch := omega) only [Option.bind_some, ofn, l0, l1, l2, l3, l4, l5, l6, l7, l8, l9, l10, l11, l12, l19, l20, l30, l31, l40, l72, l100, hn_mul, hn_add, hn_sub, hn_or, hn_and, sh_r, sh_l, bt_n, bt_0, bt_1, hn_cl, if_true, if_false, ↓reduceIte, hn_lt, hn_le, hn_eq, ne_1, ne_m, lt_t, lt_f, le_t, le_f, eq_t, eq_f, Nat.not_lt_zero, false_or, or_false, or_self, false_and, and_false, true_and, and_true, not_true, not_false_iff]
  · intro z i hi ih
    rw [H_X7_movingTo_6]
    have e1 := px_moved (m := m) (T := T) (q := q) (a := a) (s := i) (by omega) ha hi hg hc
    have hlt : mv S q a i &&& L < 2 ^ 31 := Nat.lt_of_le_of_lt Nat.and_le_right (by omega)
    by_cases h0 : mv S q a i &&& L = 0
    · simp only [st, h0, ne_eq, not_true, decide_false, Bool.false_eq_true, if_false, Nat.or_zero] at ih
      simp (disch := omega) only [Option.bind_some, ofn, l0, l1, l2, l3, l4, l5, l6, l7, l8, l9, l10, l11, l12, l19, l20, l30, l31, l40, l72, l100, hn_mul, hn_add, hn_sub, hn_or, hn_and, sh_r, sh_l, bt_n, bt_0, bt_1, hn_cl, if_true, if_false, ↓reduceIte, hn_lt, hn_le, hn_eq, ne_1, ne_m, lt_t, lt_f, le_t, le_f, eq_t, eq_f, Nat.not_lt_zero, false_or, or_false, or_self, false_and, and_false, true_and, and_true, not_true, not_false_iff, e1, h0]
      exact ih
    · simp only [st, ne_eq, h0, not_false_iff, decide_true, if_true] at ih
      simp (disch := omega) only [Option.bind_some, ofn, l0, l1, l2, l3, l4, l5, l6, l7, l8, l9, l10, l11, l12, l19, l20, l30, l31, l40, l72, l100, hn_mul, hn_add, hn_sub, hn_or, hn_and, sh_r, sh_l, bt_n, bt_0, bt_1, hn_cl, if_true, if_false, ↓reduceIte, hn_lt, hn_le, hn_eq, ne_1, ne_m, lt_t, lt_f, le_t, le_f, eq_t, eq_f, Nat.not_lt_zero, false_or, or_false, or_self, false_and, and_false, true_and, and_true, not_true, not_false_iff, e1, h0]
      exact ih
/-- the state of the reading: height, sets from the bottom on, an open list -/
abbrev hst : Type := Option (Nat × (Nat → Nat) × Option Nat)
def fup (f : Nat → Nat) (h x : Nat) : Nat → Nat := fun i => if i = h then x else f i
def landf (S : sy) (f : Nat → Nat) (h : Nat) : Nat → Nat
  | 0 => 2 ^ S.1 - 1
  | n + 1 => landf S f h n &&& f (h - (n + 1))
def cpl (S : sy) (x : Nat) : Nat := (2 ^ S.1 - 1) &&& (x ^^^ (2 ^ 32 - 1))
def hstp (S : sy) (q : Nat) (x : hst) (c : Nat) : hst := match x with
  | none => none
  | some (h, f, op) => if c < 4 then (match op with
      | some L => some (h + 1, fup f h (mvt S q c L), none)
      | none => none) else (match op with
      | some _ => none
      | none => if 10 ≤ c ∧ c ≤ 19 then (if h < c - 10 then none else some (h - (c - 10), f, some (landf S f h (c - 10)))) else if c = 20 then (if h = 0 then none else some (h, fup f (h - 1) (cpl S (f (h - 1))), none)) else if c = 30 then some (h + 1, fup f h (mks S), none) else none)
def cno (x : Int32) : Nat := if x < 0 then 99 else x.toNatClampNeg
def hrun (S : sy) (q : Nat) (g : Nat → Int32) : Nat → hst → hst
  | 0, x => x
  | k + 1, x => hrun S q g k (hstp S q x (cno (g k)))
def hans (S : sy) (s : Nat) (x : hst) : Int32 := match x with
  | some (1, f, none) => nI (bt (f 0) s)
  | _ => -1000000
theorem landf_lt (S : sy) (f : Nat → Nat) (h n : Nat) : landf S f h n < 2 ^ S.1 := by
  induction n with
  | zero =>
    have := Nat.two_pow_pos S.1
    simp only [landf]
    omega
  | succ n ih => exact Nat.lt_of_le_of_lt Nat.and_le_left ih
theorem cpl_lt (S : sy) (x : Nat) : cpl S x < 2 ^ S.1 := by
  have := Nat.two_pow_pos S.1
  exact Nat.lt_of_le_of_lt Nat.and_le_left (by omega)
def HX (m : pj_M) (S : sy) (q : Nat) (x : hst) : Prop := m.1 54 1 = nI q ∧ m.1 54 2 = nI (2 ^ S.1 - 1) ∧ m.1 54 3 = nI (mks S) ∧ match x with
  | none => m.1 54 7 = nI 1
  | some (h, f, op) => m.1 54 7 = nI 0 ∧ m.1 54 4 = nI h ∧ (∀ i, i < h → m.1 55 i = nI (f i) ∧ f i < 2 ^ S.1) ∧ match op with
    | none => m.1 54 6 = nI 0
    | some L => m.1 54 6 = nI 1 ∧ m.1 54 5 = nI L ∧ L < 2 ^ S.1
theorem HX.wrong {m : pj_M} {S : sy} {q : Nat} {x : hst} (h : HX m S q x) : HX (pj_wr m 54 7 (nI 1)) S q none := by
  obtain ⟨h1, h2, h3, -⟩ := h
  exact ⟨by rw [hr_wrk (by decide)]; exact h1, by rw [hr_wrk (by decide)]; exact h2, by rw [hr_wrk (by decide)]; exact h3, hr_wrs _ _ _ _⟩
theorem neg_ne {x : Int32} (h : x < 0) {k : Nat} (hk : k < 2 ^ 31) : (x = nI k) = False := eq_false (fun e => by
  rw [e] at h
  exact nI_pos hk h)
theorem neg_lt {x : Int32} (h : x < 0) {k : Nat} (hk : k < 2 ^ 31) : (x < nI k) = True := eq_true (by
  rw [Int32.lt_iff_toInt_lt] at h ⊢
  rw [nI_toInt hk]
  have e2 : (0 : Int32).toInt = 0 := rfl
  omega)
theorem neg_gt {x : Int32} (h : x < 0) {k : Nat} (hk : k < 2 ^ 31) : (nI k < x) = False := eq_false (fun h2 => by
  rw [Int32.lt_iff_toInt_lt] at h h2
  rw [nI_toInt hk] at h2
  have e2 : (0 : Int32).toInt = 0 := rfl
  omega)
/-- a set is pushed -/
theorem px_push {m : pj_M} {S : sy} {q h X : Nat} {f : Nat → Nat} (hh : h < 30) (h1 : m.1 54 1 = nI q) (h2 : m.1 54 2 = nI (2 ^ S.1 - 1)) (h3 : m.1 54 3 = nI (mks S)) (h7 : m.1 54 7 = nI 0) (h4 : m.1 54 4 = nI h) (hf : ∀ i, i < h → m.1 55 i = nI (f i) ∧ f i < 2 ^ S.1) (h6 : m.1 54 6 = nI 0) (hX : X < 2 ^ S.1) : ∃ m', F_X3_push (nI X) m = some m' ∧ HX m' S q (some (h + 1, fup f h X, none)) ∧ fr [54, 55] m m' := by
  refine ⟨pj_wr (pj_wr m 55 h (nI X)) 54 4 (nI (h + 1)), ?_, ⟨?_, ?_, ?_, ?_, hr_wrs _ _ _ _, fun i hi => ?_, ?_⟩, (fr.wr _ _ (by simp) _ _).tr (fr.wr _ _ (by simp) _ _)⟩
  · unfold F_X3_push
    have e : (pj_wr m 55 h (nI X)).1 54 4 = nI h := by rw [hr_wra (by decide), h4]
    simp (disch := omega) only [Option.bind_some, ofn, l0, l1, l2, l3, l4, l5, l6, l7, l8, l9, l10, l11, l12, l19, l20, l30, l31, l40, l72, l100, hn_mul, hn_add, hn_sub, hn_or, hn_and, sh_r, sh_l, bt_n, bt_0, bt_1, hn_cl, if_true, if_false, ↓reduceIte, hn_lt, hn_le, hn_eq, ne_1, ne_m, lt_t, lt_f, le_t, le_f, eq_t, eq_f, Nat.not_lt_zero, false_or, or_false, or_self, false_and, and_false, true_and, and_true, not_true, not_false_iff, h4, e]
  · rw [hr_wrk (by decide), hr_wra (by decide)]; exact h1
  · rw [hr_wrk (by decide), hr_wra (by decide)]; exact h2
  · rw [hr_wrk (by decide), hr_wra (by decide)]; exact h3
  · rw [hr_wrk (by decide), hr_wra (by decide)]; exact h7
  · rw [hr_wra (by decide), hr_wr]
    unfold fup
    by_cases hi' : i = h
    · rw [if_pos ⟨rfl, hi'⟩, if_pos hi']
      exact ⟨rfl, hX⟩
    · rw [if_neg (fun e => hi' e.2), if_neg hi']
      exact hf i (by omega)
  · show (pj_wr (pj_wr m 55 h (nI X)) 54 4 (nI (h + 1))).1 54 6 = nI 0
    rw [hr_wrk (by decide), hr_wra (by decide)]; exact h6
theorem px_list {m : pj_M} {S : sy} {q h n : Nat} {f : Nat → Nat} (hw : wfS S) (hh : h ≤ 30) (hn : n ≤ h) (h1 : m.1 54 1 = nI q) (h2 : m.1 54 2 = nI (2 ^ S.1 - 1)) (h3 : m.1 54 3 = nI (mks S)) (h7 : m.1 54 7 = nI 0) (h4 : m.1 54 4 = nI h) (hf : ∀ i, i < h → m.1 55 i = nI (f i) ∧ f i < 2 ^ S.1) : ∃ m', F_X3_takeList (nI n) m = some m' ∧ HX m' S q (some (h - n, f, some (landf S f h n))) ∧ fr [54, 55] m m' := by
  have loop : ∀ m : pj_M, m.1 54 1 = nI q → m.1 54 2 = nI (2 ^ S.1 - 1) → m.1 54 3 = nI (mks S) → m.1 54 7 = nI 0 → m.1 54 4 = nI (h - 0) → m.1 54 5 = nI (landf S f h 0) → (∀ i, i < h → m.1 55 i = nI (f i) ∧ f i < 2 ^ S.1) → ∃ m', H_X3_takeList_24 pj_z (nI n) (nI 0) m = some m' ∧ HX m' S q (some (h - n, f, some (landf S f h n))) ∧ fr [54, 55] m m' := by
    refine lp0 (P := fun z d => ∀ m : pj_M, m.1 54 1 = nI q → m.1 54 2 = nI (2 ^ S.1 - 1) → m.1 54 3 = nI (mks S) → m.1 54 7 = nI 0 → m.1 54 4 = nI (h - d) → m.1 54 5 = nI (landf S f h d) → (∀ i, i < h → m.1 55 i = nI (f i) ∧ f i < 2 ^ S.1) → ∃ m', H_X3_takeList_24 z (nI n) (nI d) m = some m' ∧ HX m' S q (some (h - n, f, some (landf S f h n))) ∧ fr [54, 55] m m') n (by omega) ?_ ?_
    · intro z m h1 h2 h3 h7 h4 h5 hf
      refine ⟨pj_wr m 54 6 (nI 1), ?_, ⟨?_, ?_, ?_, ?_, ?_, fun i hi => ?_, hr_wrs _ _ _ _, ?_, landf_lt S f h n⟩, fr.wr _ _ (by simp) _ _⟩
      · rw [H_X3_takeList_24]
        simp (disch := omega) only [Option.bind_some, ofn, l0, l1, l2, l3, l4, l5, l6, l7, l8, l9, l10, l11, l12, l19, l20, l30, l31, l40, l72, l100, hn_mul, hn_add, hn_sub, hn_or, hn_and, sh_r, sh_l, bt_n, bt_0, bt_1, hn_cl, if_true, if_false, ↓reduceIte, hn_lt, hn_le, hn_eq, ne_1, ne_m, lt_t, lt_f, le_t, le_f, eq_t, eq_f, Nat.not_lt_zero, false_or, or_false, or_self, false_and, and_false, true_and, and_true, not_true, not_false_iff]
      · rw [hr_wrk (by decide)]; exact h1
      · rw [hr_wrk (by decide)]; exact h2
      · rw [hr_wrk (by decide)]; exact h3
      · rw [hr_wrk (by decide)]; exact h7
      · rw [hr_wrk (by decide)]; exact h4
      · rw [hr_wra (by decide)]
        exact hf i (by omega)
      · rw [hr_wrk (by decide)]; exact h5
    · intro z d hd ih m h1 h2 h3 h7 h4 h5 hf
      obtain ⟨m', g1, g2, g3⟩ := ih (pj_wr (pj_wr m 54 4 (nI (h - (d + 1)))) 54 5 (nI (landf S f h (d + 1)))) (by rw [hr_wrk (by decide), hr_wrk (by decide)]; exact h1) (by rw [hr_wrk (by decide), hr_wrk (by decide)]; exact h2) (by rw [hr_wrk (by decide), hr_wrk (by decide)]; exact h3) (by rw [hr_wrk (by decide), hr_wrk (by decide)]; exact h7) (by rw [hr_wrk (by decide), hr_wrs]) (hr_wrs _ _ _ _) (fun i hi => by rw [hr_wra (by decide), hr_wra (by decide)]; exact hf i hi)
      refine ⟨m', ?_, g2, ((fr.wr _ _ (by simp) _ _).tr (fr.wr _ _ (by simp) _ _)).tr g3⟩
      have e1 : nI (h - d) - nI 1 = nI (h - (d + 1)) := by rw [hn_sub (by omega)]; rfl
      have e2 : (pj_wr m 54 4 (nI (h - (d + 1)))).1 54 5 = nI (landf S f h d) := by rw [hr_wrk (by decide)]; exact h5
      have e3 : (pj_wr m 54 4 (nI (h - (d + 1)))).1 55 (h - (d + 1)) = nI (f (h - (d + 1))) := by rw [hr_wra (by decide)]; exact (hf _ (by omega)).1
      rw [H_X3_takeList_24]
      simp (disch := omega) only [Option.bind_some, ofn, l0, l1, l2, l3, l4, l5, l6, l7, l8, l9, l10, l11, l12, l19, l20, l30, l31, l40, l72, l100, hn_mul, hn_add, hn_sub, hn_or, hn_and, sh_r, sh_l, bt_n, bt_0, bt_1, hn_cl, if_true, if_false, ↓reduceIte, hn_lt, hn_le, hn_eq, ne_1, ne_m, lt_t, lt_f, le_t, le_f, eq_t, eq_f, Nat.not_lt_zero, false_or, or_false, or_self, false_and, and_false, true_and, and_true, not_true, not_false_iff, h4, e1, hr_wrs, e2, e3]
      exact g1
  have hl := loop (pj_wr m 54 5 (nI (2 ^ S.1 - 1))) (by rw [hr_wrk (by decide)]; exact h1) (by rw [hr_wrk (by decide)]; exact h2) (by rw [hr_wrk (by decide)]; exact h3) (by rw [hr_wrk (by decide)]; exact h7) (by rw [hr_wrk (by decide)]; exact h4) (hr_wrs _ _ _ _) (fun i hi => by rw [hr_wra (by decide)]; exact hf i hi)
  obtain ⟨m', g1, g2, g3⟩ := hl
  refine ⟨m', ?_, g2, (fr.wr _ _ (by simp) _ _).tr g3⟩
  unfold F_X3_takeList
  simp (disch := omega) only [Option.bind_some, ofn, l0, l1, l2, l3, l4, l5, l6, l7, l8, l9, l10, l11, l12, l19, l20, l30, l31, l40, l72, l100, hn_mul, hn_add, hn_sub, hn_or, hn_and, sh_r, sh_l, bt_n, bt_0, bt_1, hn_cl, if_true, if_false, ↓reduceIte, hn_lt, hn_le, hn_eq, ne_1, ne_m, lt_t, lt_f, le_t, le_f, eq_t, eq_f, Nat.not_lt_zero, false_or, or_false, or_self, false_and, and_false, true_and, and_true, not_true, not_false_iff, h4, h2]
  exact g1
theorem px_take {m : pj_M} {S : sy} {q : Nat} {x : hst} {code : Int32} (hw : wfS S) (hq : q < 2) (h : HX m S q x) (hh : ∀ h f op, x = some (h, f, op) → h < 30) (hg : GT m 21 (go S)) (hc : GT m 22 (cl S)) : ∃ m', F_X3_takeBackwards code 20 m = some m' ∧ HX m' S q (hstp S q x (cno code)) ∧ fr [54, 55] m m' := by
  have hmk := mks_lt hw
  have hp := p2_10 hw.1
  have hmkS : mks S < 2 ^ S.1 := st_lt _ _
  -- wrong already
  cases x with
  | none =>
    obtain ⟨h1, h2, h3, h7⟩ := id h
    refine ⟨pj_wr m 54 7 1, ?_, h.wrong, fr.wr _ _ (by simp) _ _⟩
    unfold F_X3_takeBackwards J_X3_takeBackwards_14
    have h7 : m.1 54 7 = nI 1 := h7
    simp only [h7, ni10, if_false, ite_self]
  | some y =>
    obtain ⟨hgt, f, op⟩ := y
    have hlt := hh _ _ _ rfl
    obtain ⟨h1, h2, h3, h7, h4, hf, hop⟩ := id h
    by_cases hneg : code < 0
    · have ec : cno code = 99 := by unfold cno; rw [if_pos hneg]
      have er : hstp S q (some (hgt, f, op)) (cno code) = none := by
        rw [ec]
        cases op <;> rfl
      rw [er]
      refine ⟨pj_wr m 54 7 1, ?_, h.wrong, fr.wr _ _ (by simp) _ _⟩
      unfold F_X3_takeBackwards J_X3_takeBackwards_14 J_X3_takeBackwards_90 J_X3_takeBackwards_135
      have n20 := neg_ne hneg (k := 20) (by decide)
      have n30 := neg_ne hneg (k := 30) (by decide)
      have n10 := neg_lt hneg (k := 10) (by decide)
      have n0 := neg_lt hneg (k := 0) (by decide)
      cases op with
      | none =>
        have h6 : m.1 54 6 = nI 0 := hop
        simp (disch := omega) only [Option.bind_some, ofn, l0, l1, l2, l3, l4, l5, l6, l7, l8, l9, l10, l11, l12, l19, l20, l30, l31, l40, l72, l100, hn_mul, hn_add, hn_sub, hn_or, hn_and, sh_r, sh_l, bt_n, bt_0, bt_1, hn_cl, if_true, if_false, ↓reduceIte, hn_lt, hn_le, hn_eq, ne_1, ne_m, lt_t, lt_f, le_t, le_f, eq_t, eq_f, Nat.not_lt_zero, false_or, or_false, or_self, false_and, and_false, true_and, and_true, not_true, not_false_iff, h7, h6, n20, n30, n10, n0]
      | some L =>
        have h6 : m.1 54 6 = nI 1 := hop.1
        simp (disch := omega) only [Option.bind_some, ofn, l0, l1, l2, l3, l4, l5, l6, l7, l8, l9, l10, l11, l12, l19, l20, l30, l31, l40, l72, l100, hn_mul, hn_add, hn_sub, hn_or, hn_and, sh_r, sh_l, bt_n, bt_0, bt_1, hn_cl, if_true, if_false, ↓reduceIte, hn_lt, hn_le, hn_eq, ne_1, ne_m, lt_t, lt_f, le_t, le_f, eq_t, eq_f, Nat.not_lt_zero, false_or, or_false, or_self, false_and, and_false, true_and, and_true, not_true, not_false_iff, h7, h6, n0]
    · obtain ⟨c, hcb, rfl⟩ := nI_of hneg
      have ec : cno (nI c) = c := by unfold cno; rw [if_neg hneg, hn_cl hcb]
      rw [ec]
      by_cases hc4 : c < 4
      · cases op with
        | none =>
          have h6 : m.1 54 6 = nI 0 := hop
          refine ⟨pj_wr m 54 7 (nI 1), ?_, ?_, fr.wr _ _ (by simp) _ _⟩
          · unfold F_X3_takeBackwards J_X3_takeBackwards_14
            simp (disch := omega) only [Option.bind_some, ofn, l0, l1, l2, l3, l4, l5, l6, l7, l8, l9, l10, l11, l12, l19, l20, l30, l31, l40, l72, l100, hn_mul, hn_add, hn_sub, hn_or, hn_and, sh_r, sh_l, bt_n, bt_0, bt_1, hn_cl, if_true, if_false, ↓reduceIte, hn_lt, hn_le, hn_eq, ne_1, ne_m, lt_t, lt_f, le_t, le_f, eq_t, eq_f, Nat.not_lt_zero, false_or, or_false, or_self, false_and, and_false, true_and, and_true, not_true, not_false_iff, h7, h6]
          · simp only [hstp, if_pos hc4]
            exact h.wrong
        | some L =>
          obtain ⟨h6, h5, hL⟩ := hop
          have eT := px_movingTo (m := pj_wr m 54 6 (nI 0)) (T := 20) hw hq hc4 hL (hg.keep (hr_wra (by decide))) (hc.keep (hr_wra (by decide)))
          have hX : mvt S q c L < 2 ^ S.1 := st_lt _ _
          obtain ⟨m', g1, g2, g3⟩ := px_push (m := pj_wr m 54 6 (nI 0)) (S := S) (q := q) (f := f) hlt (by rw [hr_wrk (by decide)]; exact h1) (by rw [hr_wrk (by decide)]; exact h2) (by rw [hr_wrk (by decide)]; exact h3) (by rw [hr_wrk (by decide)]; exact h7) (by rw [hr_wrk (by decide)]; exact h4) (fun i hi => by rw [hr_wra (by decide)]; exact hf i hi) (hr_wrs _ _ _ _) hX
          refine ⟨m', ?_, ?_, (fr.wr _ _ (by simp) _ _).tr g3⟩
          · have k1 : (pj_wr m 54 6 (nI 0)).1 54 1 = nI q := by rw [hr_wrk (by decide)]; exact h1
            have k5 : (pj_wr m 54 6 (nI 0)).1 54 5 = nI L := by rw [hr_wrk (by decide)]; exact h5
            unfold F_X3_takeBackwards J_X3_takeBackwards_14
            simp (disch := omega) only [Option.bind_some, ofn, l0, l1, l2, l3, l4, l5, l6, l7, l8, l9, l10, l11, l12, l19, l20, l30, l31, l40, l72, l100, hn_mul, hn_add, hn_sub, hn_or, hn_and, sh_r, sh_l, bt_n, bt_0, bt_1, hn_cl, if_true, if_false, ↓reduceIte, hn_lt, hn_le, hn_eq, ne_1, ne_m, lt_t, lt_f, le_t, le_f, eq_t, eq_f, Nat.not_lt_zero, false_or, or_false, or_self, false_and, and_false, true_and, and_true, not_true, not_false_iff, h7, h6, k1, k5, eT, g1]
          · simp only [hstp, if_pos hc4]
            exact g2
      · cases op with
        | some L =>
          obtain ⟨h6, h5, hL⟩ := hop
          refine ⟨pj_wr m 54 7 (nI 1), ?_, ?_, fr.wr _ _ (by simp) _ _⟩
          · unfold F_X3_takeBackwards J_X3_takeBackwards_14
            simp (disch := omega) only [Option.bind_some, ofn, l0, l1, l2, l3, l4, l5, l6, l7, l8, l9, l10, l11, l12, l19, l20, l30, l31, l40, l72, l100, hn_mul, hn_add, hn_sub, hn_or, hn_and, sh_r, sh_l, bt_n, bt_0, bt_1, hn_cl, if_true, if_false, ↓reduceIte, hn_lt, hn_le, hn_eq, ne_1, ne_m, lt_t, lt_f, le_t, le_f, eq_t, eq_f, Nat.not_lt_zero, false_or, or_false, or_self, false_and, and_false, true_and, and_true, not_true, not_false_iff, h7, h6]
          · simp only [hstp, if_neg hc4]
            exact h.wrong
        | none =>
          have h6 : m.1 54 6 = nI 0 := hop
          simp only [hstp, if_neg hc4]
          by_cases hcl : 10 ≤ c ∧ c ≤ 19
          · have e10 : nI c - nI 10 = nI (c - 10) := hn_sub (by omega)
            by_cases hn : hgt < c - 10
            · refine ⟨pj_wr m 54 7 (nI 1), ?_, ?_, fr.wr _ _ (by simp) _ _⟩
              · unfold F_X3_takeBackwards J_X3_takeBackwards_14 F_X3_takeList
                simp (disch := omega) only [Option.bind_some, ofn, l0, l1, l2, l3, l4, l5, l6, l7, l8, l9, l10, l11, l12, l19, l20, l30, l31, l40, l72, l100, hn_mul, hn_add, hn_sub, hn_or, hn_and, sh_r, sh_l, bt_n, bt_0, bt_1, hn_cl, if_true, if_false, ↓reduceIte, hn_lt, hn_le, hn_eq, ne_1, ne_m, lt_t, lt_f, le_t, le_f, eq_t, eq_f, Nat.not_lt_zero, false_or, or_false, or_self, false_and, and_false, true_and, and_true, not_true, not_false_iff, h7, h6, e10, h4]
              · rw [if_pos hcl, if_pos hn]
                exact h.wrong
            · obtain ⟨m', g1, g2, g3⟩ := px_list (m := m) (q := q) (n := c - 10) (f := f) hw (show hgt ≤ 30 by omega) (by omega) h1 h2 h3 h7 h4 hf
              refine ⟨m', ?_, ?_, g3⟩
              · unfold F_X3_takeBackwards J_X3_takeBackwards_14
                simp (disch := omega) only [Option.bind_some, ofn, l0, l1, l2, l3, l4, l5, l6, l7, l8, l9, l10, l11, l12, l19, l20, l30, l31, l40, l72, l100, hn_mul, hn_add, hn_sub, hn_or, hn_and, sh_r, sh_l, bt_n, bt_0, bt_1, hn_cl, if_true, if_false, ↓reduceIte, hn_lt, hn_le, hn_eq, ne_1, ne_m, lt_t, lt_f, le_t, le_f, eq_t, eq_f, Nat.not_lt_zero, false_or, or_false, or_self, false_and, and_false, true_and, and_true, not_true, not_false_iff, h7, h6, e10, g1]
              · rw [if_pos hcl, if_neg hn]
                exact g2
          · rw [if_neg hcl]
            by_cases h20 : c = 20
            · subst h20
              rw [if_pos rfl]
              by_cases h0 : hgt = 0
              · subst h0
                refine ⟨pj_wr m 54 7 (nI 1), ?_, ?_, fr.wr _ _ (by simp) _ _⟩
                · unfold F_X3_takeBackwards J_X3_takeBackwards_14 J_X3_takeBackwards_90 J_X3_takeBackwards_135
                  simp (disch := omega) only [Option.bind_some, ofn, l0, l1, l2, l3, l4, l5, l6, l7, l8, l9, l10, l11, l12, l19, l20, l30, l31, l40, l72, l100, hn_mul, hn_add, hn_sub, hn_or, hn_and, sh_r, sh_l, bt_n, bt_0, bt_1, hn_cl, if_true, if_false, ↓reduceIte, hn_lt, hn_le, hn_eq, ne_1, ne_m, lt_t, lt_f, le_t, le_f, eq_t, eq_f, Nat.not_lt_zero, false_or, or_false, or_self, false_and, and_false, true_and, and_true, not_true, not_false_iff, h7, h6, h4]
                · rw [if_pos rfl]
                  exact h.wrong
              · rw [if_neg h0]
                obtain ⟨fe, fl⟩ := hf (hgt - 1) (by omega)
                have e1 : nI hgt - nI 1 = nI (hgt - 1) := hn_sub (by omega)
                refine ⟨pj_wr m 55 (hgt - 1) (nI (cpl S (f (hgt - 1)))), ?_, ⟨?_, ?_, ?_, ?_, ?_, fun i hi => ?_, ?_⟩, fr.wr _ _ (by simp) _ _⟩
                · unfold F_X3_takeBackwards J_X3_takeBackwards_14 J_X3_takeBackwards_90
                  simp (disch := omega) only [Option.bind_some, ofn, l0, l1, l2, l3, l4, l5, l6, l7, l8, l9, l10, l11, l12, l19, l20, l30, l31, l40, l72, l100, hn_mul, hn_add, hn_sub, hn_or, hn_and, sh_r, sh_l, bt_n, bt_0, bt_1, hn_cl, if_true, if_false, ↓reduceIte, hn_lt, hn_le, hn_eq, ne_1, ne_m, lt_t, lt_f, le_t, le_f, eq_t, eq_f, Nat.not_lt_zero, false_or, or_false, or_self, false_and, and_false, true_and, and_true, not_true, not_false_iff, h7, h6, h4, e1, h2, fe, lm1, hn_xor]
                  rfl
                · rw [hr_wra (by decide)]; exact h1
                · rw [hr_wra (by decide)]; exact h2
                · rw [hr_wra (by decide)]; exact h3
                · rw [hr_wra (by decide)]; exact h7
                · rw [hr_wra (by decide)]; exact h4
                · rw [hr_wr]
                  unfold fup
                  by_cases hi' : i = hgt - 1
                  · rw [if_pos ⟨rfl, hi'⟩, if_pos hi']
                    exact ⟨rfl, cpl_lt S _⟩
                  · rw [if_neg (fun e => hi' e.2), if_neg hi']
                    exact hf i hi
                · show (pj_wr m 55 (hgt - 1) (nI (cpl S (f (hgt - 1))))).1 54 6 = nI 0
                  rw [hr_wra (by decide)]; exact h6
            · rw [if_neg h20]
              by_cases h30 : c = 30
              · subst h30
                rw [if_pos rfl]
                obtain ⟨m', g1, g2, g3⟩ := px_push (m := m) (S := S) (q := q) (f := f) (X := mks S) hlt h1 h2 h3 h7 h4 hf h6 hmkS
                refine ⟨m', ?_, g2, g3⟩
                unfold F_X3_takeBackwards J_X3_takeBackwards_14 J_X3_takeBackwards_90 J_X3_takeBackwards_135
                simp (disch := omega) only [Option.bind_some, ofn, l0, l1, l2, l3, l4, l5, l6, l7, l8, l9, l10, l11, l12, l19, l20, l30, l31, l40, l72, l100, hn_mul, hn_add, hn_sub, hn_or, hn_and, sh_r, sh_l, bt_n, bt_0, bt_1, hn_cl, if_true, if_false, ↓reduceIte, hn_lt, hn_le, hn_eq, ne_1, ne_m, lt_t, lt_f, le_t, le_f, eq_t, eq_f, Nat.not_lt_zero, false_or, or_false, or_self, false_and, and_false, true_and, and_true, not_true, not_false_iff, h7, h6, h3, g1]
              · rw [if_neg h30]
                refine ⟨pj_wr m 54 7 (nI 1), ?_, h.wrong, fr.wr _ _ (by simp) _ _⟩
                unfold F_X3_takeBackwards J_X3_takeBackwards_14 J_X3_takeBackwards_90 J_X3_takeBackwards_135
                rcases Nat.lt_or_ge c 10 with h10 | h10
                · simp (disch := omega) only [Option.bind_some, ofn, l0, l1, l2, l3, l4, l5, l6, l7, l8, l9, l10, l11, l12, l19, l20, l30, l31, l40, l72, l100, hn_mul, hn_add, hn_sub, hn_or, hn_and, sh_r, sh_l, bt_n, bt_0, bt_1, hn_cl, if_true, if_false, ↓reduceIte, hn_lt, hn_le, hn_eq, ne_1, ne_m, lt_t, lt_f, le_t, le_f, eq_t, eq_f, Nat.not_lt_zero, false_or, or_false, or_self, false_and, and_false, true_and, and_true, not_true, not_false_iff, h7, h6]
                · simp (disch := omega) only [Option.bind_some, ofn, l0, l1, l2, l3, l4, l5, l6, l7, l8, l9, l10, l11, l12, l19, l20, l30, l31, l40, l72, l100, hn_mul, hn_add, hn_sub, hn_or, hn_and, sh_r, sh_l, bt_n, bt_0, bt_1, hn_cl, if_true, if_false, ↓reduceIte, hn_lt, hn_le, hn_eq, ne_1, ne_m, lt_t, lt_f, le_t, le_f, eq_t, eq_f, Nat.not_lt_zero, false_or, or_false, or_self, false_and, and_false, true_and, and_true, not_true, not_false_iff, h7, h6, h20, h30]
