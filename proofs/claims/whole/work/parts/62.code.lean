/-! PART 62: the j-th code: both sides -/
def mbr (f : Nat → Nat) (set g : Nat) : Nat := (fd (fun u => set.testBit u && decide (g < sgm f set (u + 1))) 10).getD 0
theorem sgm_up {f : Nat → Nat} {set g n : Nat} (h : ∀ i, i < n → (set.testBit i && decide (g < sgm f set (i + 1))) = false) (j : Nat) (hj : j ≤ n) : sgm f set j ≤ g := by
  induction j with
  | zero => exact Nat.zero_le _
  | succ j ih =>
    have h1 := ih (by omega)
    have h2 := h j (by omega)
    by_cases hb : set.testBit j = true
    · rw [hb] at h2
      simp only [Bool.true_and, decide_eq_false_iff_not] at h2
      omega
    · simp only [sgm, hb, Bool.false_eq_true, if_false, Nat.add_zero]
      exact h1
theorem mbr_spec {f : Nat → Nat} {set g : Nat} (h : g < sgm f set 10) : mbr f set g < 10 ∧ set.testBit (mbr f set g) = true ∧ sgm f set (mbr f set g) ≤ g ∧ g < sgm f set (mbr f set g) + f (mbr f set g) := by
  unfold mbr
  cases hf : fd (fun u => set.testBit u && decide (g < sgm f set (u + 1))) 10 with
  | none =>
    have := sgm_up (fd_none hf) 10 (Nat.le_refl _)
    omega
  | some u =>
    obtain ⟨a1, a2, a3⟩ := fd_some hf
    simp only [Bool.and_eq_true, decide_eq_true_eq] at a2
    have h1 := sgm_up (n := u) (fun i hi => a3 i hi) u (Nat.le_refl _)
    refine ⟨a1, a2.1, h1, ?_⟩
    have := a2.2
    simp only [sgm, a2.1, if_true] at this
    exact this
def cdt (S : sy) (q : Nat) : Nat → Nat → Nat → Nat → Int32
  | 0, _, _, _ => -1000000
  | d + 1, p, t, j => match pin S q p t with
    | some (r + 1) => (match fd (LC S q r p t) 40 with
      | some k => if j = 0 then nI (k / 10) else if j = 1 then nI (10 + cnt (mv S q (k / 10) t) 10) else cdt S q d (k % 10) (mbr (FZ S q (k % 10)) (mv S q (k / 10) t) (j - 2)) (j - 2 - sgm (FZ S q (k % 10)) (mv S q (k / 10) t) (mbr (FZ S q (k % 10)) (mv S q (k / 10) t) (j - 2)))
      | none => if j = 0 then 20 else cdt S q d t p (j - 1))
    | _ => if mkb S p then 30 else if j = 0 then 20 else 30
theorem px_member {m : pj_M} {Q q s set g : Nat} {S : sy} (hs : s < 10) (hset : set < 2 ^ 31) (hgs : g < sgm (FZ S q s) set 10) (hg : g < 2 ^ 62) (hlt : sgm (FZ S q s) set 10 < 2 ^ 62) (h : ∀ u, u < 10 → set.testBit u = true → OKP m Q S q s u) : F_X9_memberAt Q (nI s) (nI set) (lN g) m = some (nI (mbr (FZ S q s) set g), m) := by
  obtain ⟨u1, u2, u3, u4⟩ := mbr_spec hgs
  refine lp0 (P := fun z i => ∀ x : Int32, (mbr (FZ S q s) set g < i → x = nI (mbr (FZ S q s) set g)) → H_X9_memberAt_6 z Q (nI s) (nI set) (lN g) x (nI i) m = some (nI (mbr (FZ S q s) set g), m)) 10 (by decide) ?_ ?_ 0 (fun h => by omega)
  · intro z x hx
    rw [H_X9_memberAt_6, hx u1]
    simp (disch := omega) only [Option.bind_some, ofn, l0, l1, l2, l3, l4, l5, l6, l7, l8, l9, l10, l11, l12, l19, l20, l30, l31, l40, l72, l100, hn_mul, hn_add, hn_sub, hn_or, hn_and, sh_r, sh_l, bt_n, bt_0, bt_1, hn_cl, if_true, if_false, ↓reduceIte, hn_lt, hn_le, hn_eq, ne_1, ne_m, lt_t, lt_f, le_t, le_f, eq_t, eq_f, Nat.not_lt_zero, false_or, or_false, or_self, false_and, and_false, true_and, and_true, not_true, not_false_iff]
  · intro z i hi ih x hx
    rw [H_X9_memberAt_6]
    by_cases hb : set.testBit i = true
    · have e1 := px_upTo (m := m) (Q := Q) (q := q) (s := s) (set := set) (e := i) (S := S) hs hset (by omega) (fun u hu hb => h u (by omega) hb)
      have hm1 := sgm_mono (f := FZ S q s) (s := set) (show i ≤ 10 by omega)
      simp (disch := omega) only [Option.bind_some, ofn, l0, l1, l2, l3, l4, l5, l6, l7, l8, l9, l10, l11, l12, l19, l20, l30, l31, l40, l72, l100, hn_mul, hn_add, hn_sub, hn_or, hn_and, sh_r, sh_l, bt_n, bt_0, bt_1, hn_cl, if_true, if_false, ↓reduceIte, hn_lt, hn_le, hn_eq, ne_1, ne_m, lt_t, lt_f, le_t, le_f, eq_t, eq_f, Nat.not_lt_zero, false_or, or_false, or_self, false_and, and_false, true_and, and_true, not_true, not_false_iff, hb, Bool.true_eq_false, e1]
      by_cases hiu : i ≤ mbr (FZ S q s) set g
      · have hm := sgm_mono (f := FZ S q s) (s := set) hiu
        have hng : ¬ nI 0 < lg_cmp (lN (sgm (FZ S q s) set i)) (lN g) := fun e => by
          have := (pk_lLT (by omega) (by omega)).mp ((lg_cmp_gt _ _).mp e)
          omega
        rw [if_neg hng]
        exact ih _ (fun h => by rw [show i = mbr (FZ S q s) set g by omega])
      · have hm := sgm_mono (f := FZ S q s) (s := set) (show mbr (FZ S q s) set g + 1 ≤ i by omega)
        have e2 : sgm (FZ S q s) set (mbr (FZ S q s) set g + 1) = sgm (FZ S q s) set (mbr (FZ S q s) set g) + FZ S q s (mbr (FZ S q s) set g) := by simp only [sgm, u2, if_true]
        have hng : nI 0 < lg_cmp (lN (sgm (FZ S q s) set i)) (lN g) := (lg_cmp_gt _ _).mpr ((pk_lLT (by omega) (by omega)).mpr (by omega))
        rw [if_pos hng]
        exact ih _ (fun h => hx (by omega))
    · simp only [Bool.not_eq_true] at hb
      simp (disch := omega) only [Option.bind_some, ofn, l0, l1, l2, l3, l4, l5, l6, l7, l8, l9, l10, l11, l12, l19, l20, l30, l31, l40, l72, l100, hn_mul, hn_add, hn_sub, hn_or, hn_and, sh_r, sh_l, bt_n, bt_0, bt_1, hn_cl, if_true, if_false, ↓reduceIte, hn_lt, hn_le, hn_eq, ne_1, ne_m, lt_t, lt_f, le_t, le_f, eq_t, eq_f, Nat.not_lt_zero, false_or, or_false, or_self, false_and, and_false, true_and, and_true, not_true, not_false_iff, hb]
      refine ih _ (fun h => hx ?_)
      by_cases hiu : i = mbr (FZ S q s) set g
      · rw [hiu, u2] at hb
        cases hb
      · omega
/-- how many steps a code may take -/
def nst (S : sy) (q p t r : Nat) : Nat := 2 * r + (if ldI S q p t = -1 then 2 else 1)
theorem lead_size {S : sy} (hw : wfS S) {q p t r k : Nat} (hq : q < 2) (hp : p < S.1) (ht : t < S.1) (h : pin S q p t = some (r + 1)) (hk : fd (LC S q r p t) 40 = some k) : sgm (FZ S q (k % 10)) (mv S q (k / 10) t) 10 < 2 ^ 40 := by
  have := (FZ_lt hw hq hp ht h).2
  rw [FZ_lead hw hp ht h hk] at this
  omega
theorem px_code {Q q : Nat} {S : sy} (hw : wfS S) (hq : q < 2) {m : pj_M} (h0 : m.1 Q 0 = nI q) (hg : GT m 21 (go S)) (hc : GT m 22 (cl S)) (hT : TT m Q S q) : ∀ d z p t j r x, d < z → x + d ≤ 21 → p < S.1 → t < S.1 → pin S q p t = some r → nst S q p t r ≤ d → j < FZ S q p t → H_X9_codeAt_14 z Q 20 (nI p) (nI t) (lN j) (nI x) m = some (cdt S q d p t j, m) := by
  have w1 := hw.1
  have hp2 := p2_10 w1
  have h9 := rd_le9 hw q
  intro d
  induction d with
  | zero =>
    intro z p t j r x _ _ _ _ _ hn _
    unfold nst at hn
    split at hn <;> omega
  | succ d ih =>
    intro z p t j r x hz hx hp ht hpin hn hj
    obtain ⟨z, rfl⟩ : ∃ z', z = z' + 1 := ⟨z - 1, by omega⟩
    have hlt := (FZ_lt hw hq hp ht hpin).2
    obtain ⟨-, t2, t3⟩ := hT p t hp ht
    have ez : (lg_cmp (lN j) 0 = 0) = (j = 0) := ll_cmp (a := j) (b := 0) (by omega) (by decide)
    rw [H_X9_codeAt_14, if_neg (show ¬ (20 : Int32) < nI x from nI_nlt (a := 20) (by omega) (by decide)), show nI p * 10 + nI t = nI (10 * p + t) by rw [l10, hn_mul, hn_add, Nat.mul_comm], if_neg (hn_in (by omega) (by decide)), hn_cl (by omega), t2]
    cases r with
    | zero =>
      rw [ldI_0 hpin]
      simp only [cdt, hpin]
      cases hm : mkb S p with
      | true =>
        simp only [if_true]
      | false =>
        simp only [Bool.false_eq_true, if_false]
        rw [if_neg (by decide)]
        simp only [if_true]
        unfold J_X9_codeAt_53
        by_cases hj0 : j = 0
        · rw [if_pos (ez.mpr hj0), if_pos hj0]
        · rw [if_neg (fun e => hj0 (ez.mp e)), if_neg hj0]
    | succ r =>
      have hrd := (pin_some hpin).1
      cases hk : fd (LC S q r p t) 40 with
      | none =>
        have hl := ldI_t hpin hk
        have hsz := FZ_turn hw hq hp ht hpin hk
        simp only [cdt, hpin, hk]
        rw [hl, if_neg (by decide), if_neg (by decide), if_pos rfl]
        by_cases hj0 : j = 0
        · rw [if_pos (ez.mpr hj0), if_pos hj0]
        · rw [if_neg (fun e => hj0 (ez.mp e)), if_neg hj0]
          obtain ⟨k, hk2⟩ := lead_ex hw hq hp ht hpin hk
          have hpin' : pin S q t p = some (r + 1) := by rw [pin_symm]; exact hpin
          have hl2 : ¬ ldI S q t p = -1 := by
            rw [ldI_k hpin' hk2]
            have := (fd_some hk2).1
            exact nn1 (by omega)
          rw [show lN j - 1 = lN (j - 1) from lN_sub (b := 1) (by omega), nI_1]
          refine ih z t p (j - 1) (r + 1) (x + 1) (by omega) (by omega) ht hp hpin' ?_ (by omega)
          unfold nst at hn ⊢
          rw [if_pos hl] at hn
          rw [if_neg hl2]
          omega
      | some k =>
        obtain ⟨hk40, hks⟩ := lead_lt hw hp hk
        have hl := ldI_k hpin hk
        have hsz := FZ_lead hw hp ht hpin hk
        have hmt := mv_lt hw q (k / 10) ht
        have hls := lead_size hw hq hp ht hpin hk
        have e1 := px_moved (m := m) (T := 20) (q := q) (a := k / 10) (s := t) (by omega) (by omega) (by omega) hg hc
        have hok : ∀ u, u < 10 → (mv S q (k / 10) t).testBit u = true → OKP m Q S q (k % 10) u := fun u hu hb => by
          obtain ⟨r', g1, g2⟩ := lead_pin (r := r) (by omega) hk (tb_lt hmt hb) hb
          exact (hT _ _ hks (tb_lt hmt hb)).2.2 r' g1
        simp only [cdt, hpin, hk]
        rw [hl, if_neg (nn2 (by omega)), if_neg (nn3 (by omega)), if_neg (nn1 (by omega)), if_neg ten_ne, h0, rem10 (by omega), div10 (by omega), e1]
        simp only [Option.bind_some]
        by_cases hj2 : j < 2
        · rw [if_pos (show lg_cmp (lN j) 2 < 0 from (lg_cmp_lt _ _).mpr ((pk_lLT (b := 2) (by omega) (by decide)).mpr hj2))]
          unfold J_X9_codeAt_135
          by_cases hj0 : j = 0
          · rw [if_pos (ez.mpr hj0), if_pos hj0]
          · rw [if_neg (fun e => hj0 (ez.mp e)), if_neg hj0, if_pos (by omega), px_bc (by omega)]
            simp only [Option.bind_some]
            rw [l10, hn_add]
        · rw [if_neg (show ¬ lg_cmp (lN j) 2 < 0 from fun e => hj2 ((pk_lLT (b := 2) (by omega) (by decide)).mp ((lg_cmp_lt _ _).mp e))), if_neg ten_ne, if_neg (by omega), if_neg (by omega), show lN j - 2 = lN (j - 2) from lN_sub (b := 2) (by omega)]
          obtain ⟨u1, u2, u3, u4⟩ := mbr_spec (f := FZ S q (k % 10)) (set := mv S q (k / 10) t) (g := j - 2) (by omega)
          have hun := tb_lt hmt u2
          have e2 := px_member (m := m) (Q := Q) (q := q) (s := k % 10) (set := mv S q (k / 10) t) (g := j - 2) (S := S) (by omega) (by omega) (by omega) (by omega) (by omega) hok
          have e3 := px_upTo (m := m) (Q := Q) (q := q) (s := k % 10) (set := mv S q (k / 10) t) (e := mbr (FZ S q (k % 10)) (mv S q (k / 10) t) (j - 2)) (S := S) (by omega) (by omega) (by omega) (fun u hu hb => hok u (by omega) hb)
          rw [e2]
          simp only [Option.bind_some]
          rw [e3]
          simp only [Option.bind_some]
          rw [lN_sub u3, nI_1]
          obtain ⟨r', g1, g2⟩ := lead_pin (r := r) (by omega) hk hun u2
          refine ih z (k % 10) _ _ r' (x + 1) (by omega) (by omega) hks hun g1 ?_ (by omega)
          unfold nst at hn ⊢
          have : ¬ ldI S q p t = -1 := by
            rw [hl]
            exact nn1 (by omega)
          rw [if_neg this] at hn
          split <;> omega
/-- the reference's tables -/
def MTP (m : pj_M) (S : sy) (q p t r : Nat) : Prop := m.1 88 (10 * p + t) = nI (min (FZ S q p t) 10000) ∧ m.1 89 (10 * p + t) = nI r
def MLP (m : pj_M) (S : sy) (q p t r : Nat) : Prop := match fd (LC S q r p t) 40 with
  | some k => m.1 90 (10 * p + t) = nI (k / 10) ∧ m.1 91 (10 * p + t) = nI (k % 10)
  | none => m.1 90 (10 * p + t) = -1000000
def MTT (m : pj_M) (S : sy) (q : Nat) : Prop := ∀ p t r, p < S.1 → t < S.1 → pin S q p t = some r → MTP m S q p t r ∧ ∀ r', r = r' + 1 → MLP m S q p t r'
theorem hm_mem {q p t k j : Nat} {S : sy} (hw : wfS S) {m : pj_M} {K : Int32 → Int32 → Int32 → Int32 → pj_M → Option (Int32 × pj_M)} {set s : Nat} (hset : set < 2 ^ S.1) (hpt : 10 * p + t < 100) (hs : s < 10) (h91 : m.1 91 (10 * p + t) = nI s) (h88 : ∀ u, u < S.1 → set.testBit u = true → m.1 88 (10 * s + u) = nI (min (FZ S q s u) 10000)) (hg : j < sgm (FZ S q s) set 10) (hj : j ≤ 9998) : H_X11_codeAt_142 K pj_z (nI q) (nI j) (nI (10 * p + t)) (nI set) 0 m = K (nI q) (nI s) (nI (mbr (FZ S q s) set j)) (nI (j - sgm (FZ S q s) set (mbr (FZ S q s) set j))) m := by
  have w1 := hw.1
  have hp2 := p2_10 w1
  obtain ⟨u1, u2, u3, u4⟩ := mbr_spec hg
  have hun := tb_lt hset u2
  have h218 : J_X11_codeAt_218 K (nI q) (nI (j - sgm (FZ S q s) set (mbr (FZ S q s) set j))) (nI (10 * p + t)) (nI (mbr (FZ S q s) set j)) m = K (nI q) (nI s) (nI (mbr (FZ S q s) set j)) (nI (j - sgm (FZ S q s) set (mbr (FZ S q s) set j))) m := by
    unfold J_X11_codeAt_218
    rw [if_neg (hn_in hpt (by decide)), hn_cl (by omega), h91]
  refine lp0 (P := fun z i => H_X11_codeAt_142 K z (nI q) (nI (j - sgm (FZ S q s) set i)) (nI (10 * p + t)) (nI set) (nI i) m = K (nI q) (nI s) (nI (mbr (FZ S q s) set j)) (nI (j - sgm (FZ S q s) set (mbr (FZ S q s) set j))) m) (mbr (FZ S q s) set j) (by omega) ?_ ?_
  · intro z
    have e0 := mx_has (m := m) (s := set) (j := mbr (FZ S q s) set j) (by omega) (by omega)
    rw [if_pos u2] at e0
    have e1 := h88 _ hun u2
    rw [H_X11_codeAt_142, e0]
    simp only [Option.bind_some]
    rw [if_neg (show ¬ nI 1 = 0 by decide), if_neg (hn_in hpt (by decide)), hn_cl (by omega), h91, l10, hn_mul, hn_add, if_neg (hn_in (by omega) (by decide)), hn_cl (by omega), e1, if_pos (nI_lt (by omega) (by omega))]
    exact h218
  · intro z i hi ih
    have e0 := mx_has (m := m) (s := set) (j := i) (by omega) (by omega)
    rw [H_X11_codeAt_142, e0]
    simp only [Option.bind_some]
    unfold J_X11_codeAt_175
    rw [e0]
    simp only [Option.bind_some]
    by_cases hb : set.testBit i = true
    · have hin := tb_lt hset hb
      have e1 := h88 i hin hb
      have hm := sgm_mono (f := FZ S q s) (s := set) (show i + 1 ≤ mbr (FZ S q s) set j by omega)
      have e2 : sgm (FZ S q s) set (i + 1) = sgm (FZ S q s) set i + FZ S q s i := by simp only [sgm, hb, if_true]
      rw [if_pos hb, if_neg (show ¬ nI 1 = 0 by decide), if_neg (hn_in hpt (by decide)), hn_cl (by omega), h91, l10, hn_mul, hn_add, if_neg (hn_in (by omega) (by decide)), hn_cl (by omega), e1, if_neg (nI_nlt (by omega) (by omega)), if_neg (show ¬ nI 1 = 0 by decide), if_neg (hn_in' hpt (by omega)), if_neg (hn_in' (show 10 * s + i < 100 by omega) (by omega)), hn_sub (by omega), nI_1]
      rw [show j - sgm (FZ S q s) set i - min (FZ S q s i) 10000 = j - sgm (FZ S q s) set (i + 1) by omega]
      exact ih
    · have e2 : sgm (FZ S q s) set (i + 1) = sgm (FZ S q s) set i := by simp only [sgm, hb, Bool.false_eq_true, if_false, Nat.add_zero]
      rw [if_neg hb, if_pos (show nI 0 = 0 from rfl), if_pos (show nI 0 = 0 from rfl), Int32.sub_zero, nI_1]
      rw [e2] at ih
      exact ih
theorem pm_code {q : Nat} {S : sy} (hw : wfS S) (hq : q < 2) {m : pj_M} (hl : LK m S) (hP : PB m S q) (hT : MTT m S q) : ∀ d z p t j r, d < z → p < S.1 → t < S.1 → pin S q p t = some r → nst S q p t r ≤ d → j < FZ S q p t → j ≤ 9998 → H_X11_codeAt_10 z (nI q) (nI p) (nI t) (nI j) m = some (cdt S q d p t j, m) := by
  have w1 := hw.1
  have hp2 := p2_10 w1
  have h9 := rd_le9 hw q
  intro d
  induction d with
  | zero =>
    intro z p t j r _ _ _ _ hn _ _
    unfold nst at hn
    split at hn <;> omega
  | succ d ih =>
    intro z p t j r hz hp ht hpin hn hj hj9
    obtain ⟨z, rfl⟩ : ∃ z', z = z' + 1 := ⟨z - 1, by omega⟩
    have ePin := pm_partedIn hw hP hp ht
    rw [hpin] at ePin
    have ePin : F_X11_partedIn (nI p) (nI t) m = some (nI r, m) := ePin
    have eI : 10 * nI p + nI t = nI (10 * p + t) := by rw [l10, hn_mul, hn_add]
    have hpt : 10 * p + t < 100 := by omega
    rw [H_X11_codeAt_10, ePin]
    simp only [Option.bind_some]
    cases r with
    | zero =>
      rw [if_pos (show nI 0 = 0 from rfl)]
      unfold J_X11_codeAt_31
      rw [pm_marked hw hl hp]
      simp only [Option.bind_some, cdt, hpin]
      have hsz := FZ_0 hw hpin
      cases hm : mkb S p with
      | true =>
        simp only [if_true]
        rw [if_neg (show ¬ nI 1 = 0 by decide)]
      | false =>
        rw [hm] at hsz
        simp only [Bool.false_eq_true, if_false] at hsz ⊢
        rw [if_pos (show nI 0 = 0 from rfl)]
        by_cases hj0 : j = 0
        · subst hj0
          rw [if_neg (show ¬ nI 0 = 1 by decide), if_pos rfl]
        · obtain rfl : j = 1 := by omega
          rw [if_pos (show nI 1 = 1 from rfl), if_neg (by decide)]
    | succ r =>
      have hrd := (pin_some hpin).1
      have hMLP := (hT p t (r + 1) hp ht hpin).2 r rfl
      rw [if_neg (nI_ne0 (by omega) (by omega)), eI, if_neg (hn_in hpt (by decide)), hn_cl (by omega), if_neg (hn_in' hpt (by omega))]
      cases hk : fd (LC S q r p t) 40 with
      | none =>
        have hlI := ldI_t hpin hk
        have hsz := FZ_turn hw hq hp ht hpin hk
        unfold MLP at hMLP
        rw [hk] at hMLP
        have hMLP : m.1 90 (10 * p + t) = -1000000 := hMLP
        simp only [cdt, hpin, hk]
        rw [hMLP, if_pos rfl]
        by_cases hj0 : j = 0
        · subst hj0
          rw [if_pos (show nI 0 = 0 from rfl), if_pos rfl]
        · rw [if_neg (nI_ne0 (by omega) (by omega)), if_neg hj0]
          obtain ⟨k, hk2⟩ := lead_ex hw hq hp ht hpin hk
          have hpin' : pin S q t p = some (r + 1) := by rw [pin_symm]; exact hpin
          have hl2 : ¬ ldI S q t p = -1 := by
            rw [ldI_k hpin' hk2]
            have := (fd_some hk2).1
            exact nn1 (by omega)
          rw [show nI j - 1 = nI (j - 1) from hn_sub (b := 1) (by omega)]
          refine ih z t p (j - 1) (r + 1) (by omega) ht hp hpin' ?_ (by omega) (by omega)
          unfold nst at hn ⊢
          rw [if_pos hlI] at hn
          rw [if_neg hl2]
          omega
      | some k =>
        obtain ⟨hk40, hks⟩ := lead_lt hw hp hk
        have hlI := ldI_k hpin hk
        have hsz := FZ_lead hw hp ht hpin hk
        have hmt := mv_lt hw q (k / 10) ht
        unfold MLP at hMLP
        rw [hk] at hMLP
        obtain ⟨m90, m91⟩ : m.1 90 (10 * p + t) = nI (k / 10) ∧ m.1 91 (10 * p + t) = nI (k % 10) := hMLP
        have e1 := pm_moving (r := q) (a := k / 10) (s := t) hw hl (by omega) (by omega) ht
        simp only [cdt, hpin, hk]
        rw [m90, if_neg (of_eq_false (ne_m (by omega))), e1]
        simp only [Option.bind_some]
        by_cases hj0 : j = 0
        · subst hj0
          rw [if_pos (show nI 0 = 0 from rfl), if_pos rfl]
          unfold J_X11_codeAt_113
          rw [if_neg (hn_in hpt (by decide)), hn_cl (by omega), m90]
        · rw [if_neg (nI_ne0 (by omega) (by omega)), if_neg hj0]
          by_cases hj1 : j = 1
          · subst hj1
            rw [if_pos (show nI 1 = 1 from rfl), if_pos rfl]
            unfold J_X11_codeAt_127
            rw [pm_size (by omega)]
            simp only [Option.bind_some]
            rw [l10, hn_add]
          · rw [if_neg (show ¬ nI j = 1 from fun e => hj1 (hn_inj (b := 1) (by omega) (by decide) e)), if_neg hj1, show nI j - 2 = nI (j - 2) from hn_sub (b := 2) (by omega)]
            obtain ⟨u1, u2, u3, u4⟩ := mbr_spec (f := FZ S q (k % 10)) (set := mv S q (k / 10) t) (g := j - 2) (by omega)
            have hun := tb_lt hmt u2
            have e2 := hm_mem (q := q) (p := p) (t := t) (k := k) (j := j - 2) (S := S) (m := m) (K := H_X11_codeAt_10 z) (set := mv S q (k / 10) t) (s := k % 10) hw hmt hpt (by omega) m91 (fun u hu hb => by
              obtain ⟨r', g1, g2⟩ := lead_pin (r := r) (by omega) hk hu hb
              exact (hT _ _ r' hks hu g1).1.1) (by omega) (by omega)
            rw [e2]
            obtain ⟨r', g1, g2⟩ := lead_pin (r := r) (by omega) hk hun u2
            refine ih z (k % 10) _ _ r' (by omega) hks hun g1 ?_ (by omega) (by omega)
            unfold nst at hn ⊢
            have : ¬ ldI S q p t = -1 := by
              rw [hlI]
              exact nn1 (by omega)
            rw [if_neg this] at hn
            split <;> omega
