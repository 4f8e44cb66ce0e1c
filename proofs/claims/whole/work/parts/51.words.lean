/-! PART 51: words -/
theorem l3' : (3 : Int32) = nI 3 := rfl
/-- closures -/
theorem stp_mono {f : Nat → Nat} {am s F : Nat} (hF : stp f am F = F) (h : ∀ i, s.testBit i = true → F.testBit i = true) (i : Nat) (hi : (stp f am s).testBit i = true) : F.testBit i = true := by
  rw [← hF]
  simp only [stp, Nat.testBit_or, Nat.testBit_and, Bool.or_eq_true, Bool.and_eq_true] at hi ⊢
  rcases hi with hi | ⟨hi, hi2⟩
  · exact Or.inl (h i hi)
  · obtain ⟨j, h1, h2, h3⟩ := (un_tb _ _ _ _).mp hi
    exact Or.inr ⟨(un_tb _ _ _ _).mpr ⟨j, h1, h j h2, h3⟩, hi2⟩
theorem itp_mono {f : Nat → Nat} {am s F : Nat} (hF : stp f am F = F) (h : ∀ i, s.testBit i = true → F.testBit i = true) (n i : Nat) (hi : (itp f am s n).testBit i = true) : F.testBit i = true := by
  induction n generalizing i with
  | zero => exact h i hi
  | succ n ih => exact stp_mono hF ih i hi
theorem itp_self {f : Nat → Nat} {am s : Nat} (n i : Nat) (hi : s.testBit i = true) : (itp f am s n).testBit i = true := by
  induction n with
  | zero => exact hi
  | succ n ih => exact stp_sub ih
theorem cl0_self (S : sy) (s : Nat) : (cl0 S s).testBit s = true := itp_self 10 s Nat.testBit_two_pow_self
theorem cl0_trans {S : sy} (hw : wfS S) {x y z : Nat} (hx : x < 10) (h1 : (cl0 S x).testBit y = true) (h2 : (cl0 S y).testBit z = true) : (cl0 S x).testBit z = true := by
  have hF : stp (go S 0) 1023 (cl0 S x) = cl0 S x := itp_fix (Nat.pow_lt_pow_right (by decide) hx) (fun i _ => go_lt10 hw 0 i)
  refine itp_mono hF (fun i hi => ?_) 10 z h2
  rw [Nat.testBit_two_pow] at hi
  have : y = i := by simpa using hi
  rw [← this]
  exact h1
/-- the closure of a set -/
def clo (S : sy) (X : Nat) : Nat := un (cl0 S) X 10
theorem clo_lt {S : sy} (hw : wfS S) (X : Nat) : clo S X < 2 ^ 10 := un_lt 10 (fun i hi => itp_pow_lt hw hi)
theorem clo_clo {S : sy} (hw : wfS S) (X : Nat) : clo S (clo S X) = clo S X := by
  refine ext_tb (fun i => ?_)
  constructor
  · intro h
    obtain ⟨y, h1, h2, h3⟩ := (un_tb _ _ _ _).mp h
    obtain ⟨x, h4, h5, h6⟩ := (un_tb _ _ _ _).mp h2
    exact (un_tb _ _ _ _).mpr ⟨x, h4, h5, cl0_trans hw h4 h6 h3⟩
  · intro h
    have hi := tb_lt (clo_lt hw X) h
    exact (un_tb _ _ _ _).mpr ⟨i, hi, h, cl0_self S i⟩
theorem clo_zero {S : sy} {X : Nat} (hX : X < 2 ^ 10) : clo S X = 0 ↔ X = 0 := by
  constructor
  · intro h
    refine ext_tb (fun i => ?_)
    constructor
    · intro hi
      have h1 : (clo S X).testBit i = true := (un_tb _ _ _ _).mpr ⟨i, tb_lt hX hi, hi, cl0_self S i⟩
      rw [h] at h1
      exact h1
    · intro hi
      simp at hi
  · intro h
    rw [h]
    refine ext_tb (fun i => ?_)
    constructor
    · intro hi
      obtain ⟨x, h4, h5, h6⟩ := (un_tb _ _ _ _).mp hi
      simp at h5
    · intro hi
      simp at hi
/-- one step of each side -/
def sX (S : sy) (a Y : Nat) : Nat := un (cl S a) Y 10
def sM (S : sy) (a X : Nat) : Nat := un (go S a) (clo S X) 10
theorem sX_eq {S : sy} {a : Nat} (ha : 0 < a) (Y : Nat) : sX S a Y = clo S (sM S a Y) := by
  have hcl : ∀ s, cl S a s = un (cl0 S) (un (go S a) (cl0 S s) 10) 10 := fun s => by
    simp only [cl]
    rw [if_neg (by omega)]
  refine ext_tb (fun i => ?_)
  constructor
  · intro h
    obtain ⟨y, h1, h2, h3⟩ := (un_tb _ _ _ _).mp h
    rw [hcl] at h3
    obtain ⟨z, h4, h5, h6⟩ := (un_tb _ _ _ _).mp h3
    obtain ⟨u, h7, h8, h9⟩ := (un_tb _ _ _ _).mp h5
    exact (un_tb _ _ _ _).mpr ⟨z, h4, (un_tb _ _ _ _).mpr ⟨u, h7, (un_tb _ _ _ _).mpr ⟨y, h1, h2, h8⟩, h9⟩, h6⟩
  · intro h
    obtain ⟨z, h4, h5, h6⟩ := (un_tb _ _ _ _).mp h
    obtain ⟨u, h7, h8, h9⟩ := (un_tb _ _ _ _).mp h5
    obtain ⟨y, h1, h2, h3⟩ := (un_tb _ _ _ _).mp h8
    refine (un_tb _ _ _ _).mpr ⟨y, h1, h2, ?_⟩
    rw [hcl]
    exact (un_tb _ _ _ _).mpr ⟨z, h4, (un_tb _ _ _ _).mpr ⟨u, h7, h3, h9⟩, h6⟩
theorem sM_lt {S : sy} (hw : wfS S) (a X : Nat) : sM S a X < 2 ^ S.1 := un_lt 10 (fun i _ => go_lt hw a i)
/-- how many words: X's -/
def wcx (S : sy) : Nat → Nat → Nat
  | 0, Y => if Y = 0 then 0 else 1
  | n + 1, Y => if Y = 0 then 0 else wcx S n (sX S 1 Y) + wcx S n (sX S 2 Y) + wcx S n (sX S 3 Y)
/-- the reference's: where a word leads -/
def wms (S : sy) : Nat → Nat → Nat → Nat
  | 0, _, X => X
  | n + 1, w, X => wms S n (w / 3) (sM S (w % 3 + 1) X)
def wsm (S : sy) (n X : Nat) : Nat → Nat
  | 0 => 0
  | w + 1 => wsm S n X w + (if wms S n w X = 0 then 0 else 1)
theorem wsm3 (S : sy) (n X N : Nat) : wsm S (n + 1) X (3 * N) = wsm S n (sM S 1 X) N + wsm S n (sM S 2 X) N + wsm S n (sM S 3 X) N := by
  induction N with
  | zero => rfl
  | succ N ih =>
    have e0 : wms S (n + 1) (3 * N) X = wms S n N (sM S 1 X) := by
      show wms S n (3 * N / 3) (sM S (3 * N % 3 + 1) X) = _
      rw [show (3 * N) / 3 = N by omega, show (3 * N) % 3 = 0 by omega]
    have e1 : wms S (n + 1) (3 * N + 1) X = wms S n N (sM S 2 X) := by
      show wms S n ((3 * N + 1) / 3) (sM S ((3 * N + 1) % 3 + 1) X) = _
      rw [show (3 * N + 1) / 3 = N by omega, show (3 * N + 1) % 3 = 1 by omega]
    have e2 : wms S (n + 1) (3 * N + 1 + 1) X = wms S n N (sM S 3 X) := by
      show wms S n ((3 * N + 1 + 1) / 3) (sM S ((3 * N + 1 + 1) % 3 + 1) X) = _
      rw [show (3 * N + 1 + 1) / 3 = N by omega, show (3 * N + 1 + 1) % 3 = 2 by omega]
    rw [show 3 * (N + 1) = 3 * N + 1 + 1 + 1 by omega]
    simp only [wsm]
    rw [ih, e0, e1, e2]
    omega
theorem wms0 (S : sy) {n w X : Nat} (h : X = 0) : wms S n w X = 0 := by
  induction n generalizing w X with
  | zero => exact h
  | succ n ih =>
    refine ih ?_
    have : clo S X = 0 := by
      rw [h]
      refine ext_tb (fun i => ⟨fun hi => ?_, fun hi => by simp at hi⟩)
      obtain ⟨x, h4, h5, h6⟩ := (un_tb _ _ _ _).mp hi
      simp at h5
    refine ext_tb (fun i => ⟨fun hi => ?_, fun hi => by simp at hi⟩)
    obtain ⟨x, h4, h5, h6⟩ := (un_tb _ _ _ _).mp hi
    rw [this] at h5
    simp at h5
theorem wsm0 (S : sy) {n X : Nat} (h : X = 0) (N : Nat) : wsm S n X N = 0 := by
  induction N with
  | zero => rfl
  | succ N ih => simp only [wsm, ih, wms0 S h, if_true]
theorem words_eq {S : sy} (hw : wfS S) (n : Nat) : ∀ X Y, X < 2 ^ 10 → Y < 2 ^ 10 → clo S X = clo S Y → wsm S n X (3 ^ n) = wcx S n Y := by
  induction n with
  | zero =>
    intro X Y hX hY h
    have hz : X = 0 ↔ Y = 0 := by rw [← clo_zero (S := S) hX, ← clo_zero (S := S) hY, h]
    show (0 : Nat) + (if X = 0 then 0 else 1) = if Y = 0 then 0 else 1
    by_cases h0 : X = 0
    · rw [if_pos h0, if_pos (hz.mp h0)]
    · rw [if_neg h0, if_neg (fun e => h0 (hz.mpr e))]
  | succ n ih =>
    intro X Y hX hY h
    have hz : X = 0 ↔ Y = 0 := by rw [← clo_zero (S := S) hX, ← clo_zero (S := S) hY, h]
    by_cases h0 : X = 0
    · rw [wsm0 S h0]
      simp only [wcx, if_pos (hz.mp h0)]
    · simp only [wcx, if_neg (fun e => h0 (hz.mpr e))]
      rw [show 3 ^ (n + 1) = 3 * 3 ^ n by rw [Nat.pow_succ, Nat.mul_comm], wsm3]
      have key : ∀ a, 0 < a → wsm S n (sM S a X) (3 ^ n) = wcx S n (sX S a Y) := by
        intro a ha
        have e1 : sM S a X = sM S a Y := by simp only [sM, h]
        have h10 : (2 : Nat) ^ S.1 ≤ 2 ^ 10 := Nat.pow_le_pow_right (by decide) hw.1
        refine ih _ _ (Nat.lt_of_lt_of_le (sM_lt hw a X) h10) ?_ ?_
        · rw [sX_eq ha]
          exact clo_lt hw _
        · rw [sX_eq ha, clo_clo hw, e1]
      rw [key 1 (by decide), key 2 (by decide), key 3 (by decide)]
theorem wcx_le (S : sy) (n Y : Nat) : wcx S n Y ≤ 3 ^ n := by
  induction n generalizing Y with
  | zero =>
    simp only [wcx]
    split <;> simp
  | succ n ih =>
    simp only [wcx]
    rw [Nat.pow_succ]
    have h1 := ih (sX S 1 Y)
    have h2 := ih (sX S 2 Y)
    have h3 := ih (sX S 3 Y)
    split <;> omega
theorem px_spelt {m : pj_M} {T : Nat} {S : sy} (hw : wfS S) (hc : GT m (T + 2) (cl S)) (n : Nat) : ∀ fuel Y, n < fuel → n ≤ 6 → Y < 2 ^ 10 → F_X7_spelt fuel 40 (T + 2) (nI Y) (nI n) m = some (nI (wcx S n Y), m) := by
  induction n with
  | zero =>
    intro fuel Y hf hn hY
    obtain ⟨f, rfl⟩ : ∃ f, fuel = f + 1 := ⟨fuel - 1, by omega⟩
    rw [F_X7_spelt]
    by_cases h0 : Y = 0
    · simp only [wcx]
      simp (disch := omega) only [Option.bind_some, ofn, l0, l1, l2, l3, l4, l5, l6, l7, l8, l9, l10, l11, l12, l19, l20, l30, l31, l40, l72, l100, hn_mul, hn_add, hn_sub, hn_or, hn_and, sh_r, sh_l, bt_n, bt_0, bt_1, hn_cl, if_true, if_false, ↓reduceIte, hn_lt, hn_le, hn_eq, ne_1, ne_m, lt_t, lt_f, le_t, le_f, eq_t, eq_f, Nat.not_lt_zero, false_or, or_false, or_self, false_and, and_false, true_and, and_true, not_true, not_false_iff, h0]
    · simp only [wcx]
      simp (disch := omega) only [Option.bind_some, ofn, l0, l1, l2, l3, l4, l5, l6, l7, l8, l9, l10, l11, l12, l19, l20, l30, l31, l40, l72, l100, hn_mul, hn_add, hn_sub, hn_or, hn_and, sh_r, sh_l, bt_n, bt_0, bt_1, hn_cl, if_true, if_false, ↓reduceIte, hn_lt, hn_le, hn_eq, ne_1, ne_m, lt_t, lt_f, le_t, le_f, eq_t, eq_f, Nat.not_lt_zero, false_or, or_false, or_self, false_and, and_false, true_and, and_true, not_true, not_false_iff, h0]
  | succ n ih =>
    intro fuel Y hf hn hY
    obtain ⟨f, rfl⟩ : ∃ f, fuel = f + 1 := ⟨fuel - 1, by omega⟩
    rw [F_X7_spelt]
    by_cases h0 : Y = 0
    · simp only [wcx]
      simp (disch := omega) only [Option.bind_some, ofn, l0, l1, l2, l3, l4, l5, l6, l7, l8, l9, l10, l11, l12, l19, l20, l30, l31, l40, l72, l100, hn_mul, hn_add, hn_sub, hn_or, hn_and, sh_r, sh_l, bt_n, bt_0, bt_1, hn_cl, if_true, if_false, ↓reduceIte, hn_lt, hn_le, hn_eq, ne_1, ne_m, lt_t, lt_f, le_t, le_f, eq_t, eq_f, Nat.not_lt_zero, false_or, or_false, or_self, false_and, and_false, true_and, and_true, not_true, not_false_iff, h0]
    · simp only [wcx]
      simp (disch := omega) only [Option.bind_some, ofn, l0, l1, l2, l3, l4, l5, l6, l7, l8, l9, l10, l11, l12, l19, l20, l30, l31, l40, l72, l100, hn_mul, hn_add, hn_sub, hn_or, hn_and, sh_r, sh_l, bt_n, bt_0, bt_1, hn_cl, if_true, if_false, ↓reduceIte, hn_lt, hn_le, hn_eq, ne_1, ne_m, lt_t, lt_f, le_t, le_f, eq_t, eq_f, Nat.not_lt_zero, false_or, or_false, or_self, false_and, and_false, true_and, and_true, not_true, not_false_iff, h0]
      have hs : ∀ a, a < 4 → 0 < a → F_X7_union 40 (T + 2) (nI a) (nI Y) m = some (nI (sX S a Y), m) := fun a ha _ => px_union (n0 := 40) (a0 := T + 2) (l := a) (s := Y) (f := cl S a) (m := m) (by omega) (by decide) (by omega) (fun i hi => hc a i ha hi)
      have hlt : ∀ a, 0 < a → sX S a Y < 2 ^ 10 := fun a ha => by
        rw [sX_eq ha]
        exact clo_lt hw _
      have i1 := ih f (sX S 1 Y) (by omega) (by omega) (hlt 1 (by decide))
      have i2 := ih f (sX S 2 Y) (by omega) (by omega) (hlt 2 (by decide))
      have i3 := ih f (sX S 3 Y) (by omega) (by omega) (hlt 3 (by decide))
      have u1 := hs 1 (by decide) (by decide)
      have u2 := hs 2 (by decide) (by decide)
      have u3 := hs 3 (by decide) (by decide)
      have em : nI (n + 1) - nI 1 = nI n := by rw [hn_sub (by omega)]; rfl
      obtain ⟨z, hz⟩ : ∃ z, pj_z = z + 4 := ⟨pj_z - 4, by have := pj_z_ge; omega⟩
      rw [hz]
      rw [H_X7_spelt_27]
      simp (disch := omega) only [Option.bind_some, ofn, l0, l1, l2, l3, l4, l5, l6, l7, l8, l9, l10, l11, l12, l19, l20, l30, l31, l40, l72, l100, hn_mul, hn_add, hn_sub, hn_or, hn_and, sh_r, sh_l, bt_n, bt_0, bt_1, hn_cl, if_true, if_false, ↓reduceIte, hn_lt, hn_le, hn_eq, ne_1, ne_m, lt_t, lt_f, le_t, le_f, eq_t, eq_f, Nat.not_lt_zero, false_or, or_false, or_self, false_and, and_false, true_and, and_true, not_true, not_false_iff, u1, em, i1]
      rw [H_X7_spelt_27]
      simp (disch := omega) only [Option.bind_some, ofn, l0, l1, l2, l3, l4, l5, l6, l7, l8, l9, l10, l11, l12, l19, l20, l30, l31, l40, l72, l100, hn_mul, hn_add, hn_sub, hn_or, hn_and, sh_r, sh_l, bt_n, bt_0, bt_1, hn_cl, if_true, if_false, ↓reduceIte, hn_lt, hn_le, hn_eq, ne_1, ne_m, lt_t, lt_f, le_t, le_f, eq_t, eq_f, Nat.not_lt_zero, false_or, or_false, or_self, false_and, and_false, true_and, and_true, not_true, not_false_iff, u2, em, i2]
      rw [H_X7_spelt_27]
      simp (disch := omega) only [Option.bind_some, ofn, l0, l1, l2, l3, l4, l5, l6, l7, l8, l9, l10, l11, l12, l19, l20, l30, l31, l40, l72, l100, hn_mul, hn_add, hn_sub, hn_or, hn_and, sh_r, sh_l, bt_n, bt_0, bt_1, hn_cl, if_true, if_false, ↓reduceIte, hn_lt, hn_le, hn_eq, ne_1, ne_m, lt_t, lt_f, le_t, le_f, eq_t, eq_f, Nat.not_lt_zero, false_or, or_false, or_self, false_and, and_false, true_and, and_true, not_true, not_false_iff, u3, em, i3]
      rw [H_X7_spelt_27]
      simp (disch := omega) only [Option.bind_some, ofn, l0, l1, l2, l3, l4, l5, l6, l7, l8, l9, l10, l11, l12, l19, l20, l30, l31, l40, l72, l100, hn_mul, hn_add, hn_sub, hn_or, hn_and, sh_r, sh_l, bt_n, bt_0, bt_1, hn_cl, if_true, if_false, ↓reduceIte, hn_lt, hn_le, hn_eq, ne_1, ne_m, lt_t, lt_f, le_t, le_f, eq_t, eq_f, Nat.not_lt_zero, false_or, or_false, or_self, false_and, and_false, true_and, and_true, not_true, not_false_iff, Nat.zero_add]
theorem hm_word {m : pj_M} {S : sy} (hw : wfS S) (hl : LK m S) {n : Nat} (hn : n ≤ 6) {k : Int32 → Int32 → Int32 → Int32 → Int32 → pj_M → Option (Int32 × pj_M)} {x1 x3 x4 x5 : Int32} : ∀ d, d ≤ n → ∀ (z w X : Nat), d < z → w < 2 ^ 31 → X < 2 ^ S.1 → H_X11_words_75 k z x1 (nI n) x3 x4 x5 (nI X) (nI w) (nI (n - d)) m = J_X11_words_111 k x1 (nI n) x3 x4 x5 (nI (wms S d w X)) m := by
  have w1 := hw.1
  have hp := p2_10 w1
  have h83 := hl.1.1
  intro d
  induction d with
  | zero =>
    intro _ z w X hz hwl hX
    obtain ⟨z, rfl⟩ : ∃ z', z = z' + 1 := ⟨z - 1, by omega⟩
    rw [H_X11_words_75]
    simp (disch := omega) only [Option.bind_some, ofn, l0, l1, l2, l3, l4, l5, l6, l7, l8, l9, l10, l11, l12, l19, l20, l30, l31, l40, l72, l100, hn_mul, hn_add, hn_sub, hn_or, hn_and, sh_r, sh_l, bt_n, bt_0, bt_1, hn_cl, if_true, if_false, ↓reduceIte, hn_lt, hn_le, hn_eq, ne_1, ne_m, lt_t, lt_f, le_t, le_f, eq_t, eq_f, Nat.not_lt_zero, false_or, or_false, or_self, false_and, and_false, true_and, and_true, not_true, not_false_iff, Nat.sub_zero, wms]
  | succ d ih =>
    intro hd z w X hz hwl hX
    obtain ⟨z, rfl⟩ : ∃ z', z = z' + 1 := ⟨z - 1, by omega⟩
    have hcl := clo_lt hw X
    have e1 := pm_close (n := S.1) (s := X) (f := cl0 S) (m := m) w1 (by omega) h83 hl.2.2
    rw [← un_stop (shr_lt hX) 10 w1] at e1
    have e1 : F_X11_close (nI X) m = some (nI (clo S X), m) := e1
    have hclS : clo S X < 2 ^ S.1 := by
      unfold clo
      rw [un_stop (shr_lt hX) 10 w1]
      exact un_lt S.1 (fun i hi => cl0_lt hw hi)
    have ha : w % 3 + 1 < 4 := by omega
    have e2 := pm_to (n := S.1) (l := w % 3 + 1) (s := clo S X) (f := go S (w % 3 + 1)) (m := m) w1 ha (by omega) h83 (fun i hi => hl.2.1 _ i ha (by omega))
    rw [← un_stop (shr_lt hclS) 10 w1] at e2
    have e2 : F_X11_to (nI (clo S X)) (nI (w % 3 + 1)) m = some (nI (sM S (w % 3 + 1) X), m) := e2
    have er : nI w - nI w / nI 3 * nI 3 = nI (w % 3) := pk_rem hwl (by decide) (by decide)
    have ed : nI w / nI 3 = nI (w / 3) := pk_div hwl (by decide) (by decide)
    have ih := ih (by omega) z (w / 3) (sM S (w % 3 + 1) X) (by omega) (by omega) (sM_lt hw _ X)
    rw [show n - d = n - (d + 1) + 1 by omega] at ih
    rw [H_X11_words_75]
    simp only [l3', l0, l1, er]
    simp only [ed]
    simp (disch := omega) only [Option.bind_some, ofn, l0, l1, l2, l3, l4, l5, l6, l7, l8, l9, l10, l11, l12, l19, l20, l30, l31, l40, l72, l100, hn_mul, hn_add, hn_sub, hn_or, hn_and, sh_r, sh_l, bt_n, bt_0, bt_1, hn_cl, if_true, if_false, ↓reduceIte, hn_lt, hn_le, hn_eq, ne_1, ne_m, lt_t, lt_f, le_t, le_f, eq_t, eq_f, Nat.not_lt_zero, false_or, or_false, or_self, false_and, and_false, true_and, and_true, not_true, not_false_iff, e1, e2]
    exact ih
theorem pm_words {m : pj_M} {S : sy} (hw : wfS S) (hl : LK m S) {n s : Nat} (hn : n ≤ 6) (hs : s < S.1) : H_X11_words_35 pj_z (nI s) (nI n) 1 0 m = some (nI (wsm S n (2 ^ s) (3 ^ n)), m) := by
  have w1 := hw.1
  have h3 : ∀ k, k ≤ 6 → 3 ^ k ≤ 729 := fun k hk => Nat.pow_le_pow_right (n := 3) (by decide) hk
  have hsl : (2 : Nat) ^ s < 2 ^ S.1 := Nat.pow_lt_pow_right (by decide) hs
  have first : H_X11_words_35 pj_z (nI s) (nI n) (nI (3 ^ 0)) (nI 0) m = J_X11_words_51 (nI s) (nI n) (nI (3 ^ n)) m := by
    refine lp0 (P := fun z k => H_X11_words_35 z (nI s) (nI n) (nI (3 ^ k)) (nI k) m = J_X11_words_51 (nI s) (nI n) (nI (3 ^ n)) m) n (by omega) ?_ ?_
    · intro z
      rw [H_X11_words_35]
      simp (disch := omega) only [Option.bind_some, ofn, l0, l1, l2, l3, l4, l5, l6, l7, l8, l9, l10, l11, l12, l19, l20, l30, l31, l40, l72, l100, hn_mul, hn_add, hn_sub, hn_or, hn_and, sh_r, sh_l, bt_n, bt_0, bt_1, hn_cl, if_true, if_false, ↓reduceIte, hn_lt, hn_le, hn_eq, ne_1, ne_m, lt_t, lt_f, le_t, le_f, eq_t, eq_f, Nat.not_lt_zero, false_or, or_false, or_self, false_and, and_false, true_and, and_true, not_true, not_false_iff]
    · intro z k hk ih
      rw [Nat.pow_succ] at ih
      rw [H_X11_words_35]
      simp (disch := omega) only [Option.bind_some, ofn, l0, l1, l2, l3, l4, l5, l6, l7, l8, l9, l10, l11, l12, l19, l20, l30, l31, l40, l72, l100, hn_mul, hn_add, hn_sub, hn_or, hn_and, sh_r, sh_l, bt_n, bt_0, bt_1, hn_cl, if_true, if_false, ↓reduceIte, hn_lt, hn_le, hn_eq, ne_1, ne_m, lt_t, lt_f, le_t, le_f, eq_t, eq_f, Nat.not_lt_zero, false_or, or_false, or_self, false_and, and_false, true_and, and_true, not_true, not_false_iff]
      exact ih
  refine first.trans ?_
  unfold J_X11_words_51
  have hN := h3 n hn
  refine lp0 (P := fun z w => H_X11_words_57 z (nI s) (nI n) (nI (3 ^ n)) (nI (wsm S n (2 ^ s) w)) (nI w) m = some (nI (wsm S n (2 ^ s) (3 ^ n)), m)) (3 ^ n) (by omega) ?_ ?_
  · intro z
    rw [H_X11_words_57]
    simp (disch := omega) only [Option.bind_some, ofn, l0, l1, l2, l3, l4, l5, l6, l7, l8, l9, l10, l11, l12, l19, l20, l30, l31, l40, l72, l100, hn_mul, hn_add, hn_sub, hn_or, hn_and, sh_r, sh_l, bt_n, bt_0, bt_1, hn_cl, if_true, if_false, ↓reduceIte, hn_lt, hn_le, hn_eq, ne_1, ne_m, lt_t, lt_f, le_t, le_f, eq_t, eq_f, Nat.not_lt_zero, false_or, or_false, or_self, false_and, and_false, true_and, and_true, not_true, not_false_iff]
  · intro z w hwN ih
    have e1 := hm_word (m := m) hw hl hn (k := H_X11_words_57 z) (x1 := nI s) (x3 := nI (3 ^ n)) (x4 := nI (wsm S n (2 ^ s) w)) (x5 := nI w) n (Nat.le_refl _) pj_z w (2 ^ s) (by have := pj_z_ge; omega) (by omega) hsl
    rw [Nat.sub_self] at e1
    rw [H_X11_words_57]
    simp (disch := omega) only [Option.bind_some, ofn, l0, l1, l2, l3, l4, l5, l6, l7, l8, l9, l10, l11, l12, l19, l20, l30, l31, l40, l72, l100, hn_mul, hn_add, hn_sub, hn_or, hn_and, sh_r, sh_l, bt_n, bt_0, bt_1, hn_cl, if_true, if_false, ↓reduceIte, hn_lt, hn_le, hn_eq, ne_1, ne_m, lt_t, lt_f, le_t, le_f, eq_t, eq_f, Nat.not_lt_zero, false_or, or_false, or_self, false_and, and_false, true_and, and_true, not_true, not_false_iff]
    rw [e1]
    unfold J_X11_words_111
    have hb : wms S n w (2 ^ s) < 2 ^ 31 := by
      have : ∀ d w X, X < 2 ^ S.1 → wms S d w X < 2 ^ S.1 := by
        intro d
        induction d with
        | zero => intro w X h; exact h
        | succ d ih => intro w X _; exact ih _ _ (sM_lt hw _ X)
      have h1 := this n w _ hsl
      have hp := p2_10 w1
      omega
    by_cases h0 : wms S n w (2 ^ s) = 0
    · simp only [wsm, if_pos h0] at ih
      simp (disch := omega) only [Option.bind_some, ofn, l0, l1, l2, l3, l4, l5, l6, l7, l8, l9, l10, l11, l12, l19, l20, l30, l31, l40, l72, l100, hn_mul, hn_add, hn_sub, hn_or, hn_and, sh_r, sh_l, bt_n, bt_0, bt_1, hn_cl, if_true, if_false, ↓reduceIte, hn_lt, hn_le, hn_eq, ne_1, ne_m, lt_t, lt_f, le_t, le_f, eq_t, eq_f, Nat.not_lt_zero, false_or, or_false, or_self, false_and, and_false, true_and, and_true, not_true, not_false_iff, h0]
      exact ih
    · simp only [wsm, if_neg h0] at ih
      simp (disch := omega) only [Option.bind_some, ofn, l0, l1, l2, l3, l4, l5, l6, l7, l8, l9, l10, l11, l12, l19, l20, l30, l31, l40, l72, l100, hn_mul, hn_add, hn_sub, hn_or, hn_and, sh_r, sh_l, bt_n, bt_0, bt_1, hn_cl, if_true, if_false, ↓reduceIte, hn_lt, hn_le, hn_eq, ne_1, ne_m, lt_t, lt_f, le_t, le_f, eq_t, eq_f, Nat.not_lt_zero, false_or, or_false, or_self, false_and, and_false, true_and, and_true, not_true, not_false_iff, h0]
      exact ih
theorem opg_words {σ : sg} (hσ : WF σ) {x1 x2 : Int32} (h1 : inb x1 σ.2.2.2.2.1.1) (h2 : inb x2 7) : OK1 (F_X10_words x1 x2) (F_X11_words x1 x2) σ := by
  have hS : wfS σ.2.2.2.2.1 := hσ.2.2.1
  have w1 := hS.1
  have X2 : ∀ m, F_X10_within x2 0 6 m = some (1, m) := fun m => px_within_y (n := 6) (by decide) h2
  have M2 : ∀ m, F_X11_in x2 0 6 m = some (1, m) := fun m => pm_in_y (n := 6) (by decide) h2
  obtain ⟨s, hs, rfl⟩ := id h1
  obtain ⟨n, hn6, rfl⟩ := id h2
  have hp := p2_10 w1
  have hsl : (2 : Nat) ^ s < 2 ^ 10 := Nat.pow_lt_pow_right (by decide) (by omega)
  refine ⟨nI (wcx σ.2.2.2.2.1 n (2 ^ s)), _, hσ, fun c m hc h => ?_, fun m h => ?_⟩
  · obtain ⟨h0, ⟨v, hv, hk⟩, hj⟩ := id h
    have hn : XN m 7 σ.2.2.2.2.1 := h0.2.2.2.2.1
    obtain ⟨m', g1, g2, g3, g4, g5, g6⟩ := kx_steps hS (by omega) hn hk
    refine ⟨m', ?_, xq h g2 hv g3, hi_cx g2⟩
    have e1 := px_spelt (m := m') (T := 20) hS g6 n 8 (2 ^ s) (by omega) (by omega) hsl
    have e2 : F_X7_wordsFrom 20 (nI s) (nI n) m' = some (nI (wcx σ.2.2.2.2.1 n (2 ^ s)), m') := by
      unfold F_X7_wordsFrom
      rw [hn_shl1 s (by omega), e1]
      rfl
    simp only [F_X10_words, X2, nx_has_y (by omega) hn.1 h1, Option.bind_some, ne10, if_false, g1, e2]
  · have hm : MN m 78 0 σ.2.2.2.2.1 := h.2.2.2.2.1
    obtain ⟨m', g1, g2, g3⟩ := km_looks hS hm
    refine ⟨m', ?_, h.keep g2, lo_cm g2⟩
    simp only [F_X11_words, M2, mx_st_y (by omega) hm.1 h1, Option.bind_some, ne10, if_false, g1, pm_words hS g3 (show n ≤ 6 by omega) hs]
    rw [words_eq hS n (2 ^ s) (2 ^ s) hsl hsl rfl]
theorem op_words {σ : sg} (hσ : WF σ) (x1 x2 : Int32) : OK1 (F_X10_words x1 x2) (F_X11_words x1 x2) σ := by
  have hS : wfS σ.2.2.2.2.1 := hσ.2.2.1
  have w1 := hS.1
  have w2 := hS.2.1
  by_cases h1 : inb x1 σ.2.2.2.2.1.1
  · by_cases h2 : inb x2 7
    · exact opg_words hσ h1 h2
    · refine ok_same hσ (r := -1000001) (fun m h => ?_) (fun m h => ?_)
      · have hn : XN m 7 σ.2.2.2.2.1 := h.2.2.2.2.1
        have e1 : F_X4_hasState 7 x1 m = some (1, m) := nx_has_y (by omega) hn.1 h1
        have e2 : F_X10_within x2 0 6 m = some (0, m) := px_within_n (n := 6) (by decide) h2
        simp only [F_X10_words, e1, e2, Option.bind_some, ne10, if_false, if_true]
      · have hm : MN m 78 0 σ.2.2.2.2.1 := h.2.2.2.2.1
        have e1 : F_X11_isState x1 m = some (1, m) := mx_st_y (by omega) hm.1 h1
        have e2 : F_X11_in x2 0 6 m = some (0, m) := pm_in_n (n := 6) (by decide) h2
        simp only [F_X11_words, e1, e2, Option.bind_some, ne10, if_false, if_true]
  · refine ok_same hσ (r := -1000001) (fun m h => ?_) (fun m h => ?_)
    · have hn : XN m 7 σ.2.2.2.2.1 := h.2.2.2.2.1
      have e1 : F_X4_hasState 7 x1 m = some (0, m) := nx_has_n (by omega) hn.1 h1
      simp only [F_X10_words, e1, Option.bind_some, ne10, if_false, if_true]
    · have hm : MN m 78 0 σ.2.2.2.2.1 := h.2.2.2.2.1
      have e1 : F_X11_isState x1 m = some (0, m) := mx_st_n (by omega) hm.1 h1
      simp only [F_X11_words, e1, Option.bind_some, ne10, if_false, if_true]
