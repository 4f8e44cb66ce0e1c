/-! PART 63: the reference's opens and sums -/
/-- all from a place on -/
def alj (p : Nat → Bool) (n : Nat) : Nat → Bool
  | 0 => true
  | j + 1 => p (n - (j + 1)) && alj p n j
theorem alj_step {p : Nat → Bool} {n i : Nat} (hi : i < n) : alj p n (n - i) = (p i && alj p n (n - (i + 1))) := by
  obtain ⟨d, hd⟩ : ∃ d, n - i = d + 1 := ⟨n - i - 1, by omega⟩
  rw [hd]
  simp only [alj]
  rw [show n - (d + 1) = i by omega, show n - (i + 1) = d by omega]
theorem alj_iff (p : Nat → Bool) (n j : Nat) (hj : j ≤ n) : alj p n j = true ↔ ∀ i, n - j ≤ i → i < n → p i = true := by
  induction j with
  | zero => exact ⟨fun _ i a b => by omega, fun _ => rfl⟩
  | succ j ih =>
    simp only [alj, Bool.and_eq_true, ih (by omega)]
    constructor
    · rintro ⟨h1, h2⟩ i a b
      by_cases hi : i = n - (j + 1)
      · rw [hi]
        exact h1
      · exact h2 i (by omega) b
    · intro h
      exact ⟨h _ (Nat.le_refl _) (by omega), fun i a b => h i (by omega) b⟩
def cu (S : sy) (q r t a s u : Nat) : Bool := !(mv S q a t).testBit u || decide (bl S q r u ≠ bl S q r s)
theorem LC_cu {S : sy} {q r p t a s : Nat} (hs : s < 10) : LC S q r p t (10 * a + s) = ((mv S q a p).testBit s && alj (cu S q r t a s) S.1 S.1) := by
  rw [Bool.eq_iff_iff, LC_iff, Bool.and_eq_true, alj_iff _ _ _ (Nat.le_refl _), show (10 * a + s) / 10 = a by omega, show (10 * a + s) % 10 = s by omega]
  constructor
  · rintro ⟨h1, h2⟩
    refine ⟨h1, fun u _ hu => ?_⟩
    unfold cu
    cases hb : (mv S q a t).testBit u with
    | false => rfl
    | true => simpa using h2 u hu hb
  · rintro ⟨h1, h2⟩
    refine ⟨h1, fun u hu hb e => ?_⟩
    have := h2 u (by omega) hu
    unfold cu at this
    rw [hb] at this
    simp [e] at this
theorem hm_is {m : pj_M} {q r p t a s : Nat} {S : sy} (hw : wfS S) (hP : PB m S q) (h83 : m.1 83 0 = nI S.1) (hr : r ≤ rd S q) (hs : s < S.1) (ht : t < S.1) {x1 x2 x3 x5 x6 x7 : Int32} {K20 : Int32 → Int32 → Int32 → Int32 → Int32 → Int32 → pj_M → Option pj_M} {K53 : Int32 → Int32 → Int32 → Int32 → Int32 → Int32 → Int32 → Int32 → Int32 → pj_M → Option pj_M} : ∀ z i, i ≤ S.1 → S.1 - i < z → ∀ b : Bool, H_X11_opens_70 K20 K53 z x1 x2 x3 (nI (r + 1)) x5 x6 x7 (nI (mv S q a t)) (nI s) (nI (if b then 1 else 0)) (nI i) m = J_X11_opens_131 K20 K53 x1 x2 x3 (nI (r + 1)) x5 x6 x7 (nI (mv S q a t)) (nI s) (nI (if (b && alj (cu S q r t a s) S.1 (S.1 - i)) then 1 else 0)) m := by
  have w1 := hw.1
  have hp2 := p2_10 w1
  have h9 := rd_le9 hw q
  have hmt := mv_lt hw q a ht
  refine lp ?_ ?_
  · intro z b
    rw [H_X11_opens_70, mx_states, h83, Nat.sub_self]
    simp only [Option.bind_some, alj, Bool.and_true]
    rw [if_neg (nI_nlt (Nat.le_refl _) (by omega))]
  · intro z i hi ih b
    rw [H_X11_opens_70, mx_states, h83, alj_step hi]
    simp only [Option.bind_some]
    rw [if_pos (nI_lt hi (by omega)), nI_1]
    cases b with
    | false =>
      simp only [Bool.false_and, Bool.false_eq_true, if_false]
      rw [if_pos (show nI 0 = 0 from rfl)]
    | true =>
      have ePin := pm_partedIn hw hP hs hi
      have e0 := mx_has (m := m) (s := mv S q a t) (j := i) (by omega) (by omega)
      simp only [Bool.true_and, if_true]
      rw [if_neg (show ¬ nI 1 = 0 by decide), ePin]
      simp only [Option.bind_some]
      rw [e0]
      simp only [Option.bind_some]
      have i1 := ih true
      have i0 := ih false
      simp only [Bool.true_and, Bool.false_and, if_true, Bool.false_eq_true, if_false] at i1 i0
      by_cases hb : (mv S q a t).testBit i = true
      · rw [if_pos hb, if_neg (show ¬ nI 1 = 0 by decide)]
        have ecu : cu S q r t a s i = decide (bl S q r i ≠ bl S q r s) := by
          unfold cu
          rw [hb]
          rfl
        rw [ecu]
        cases hpin : pin S q s i with
        | none =>
          have heq : bl S q r s = bl S q r i := by
            refine Classical.byContradiction (fun hne => ?_)
            obtain ⟨r', g1, -⟩ := pin_le hr hne
            rw [hpin] at g1
            cases g1
          rw [if_pos (show oI none = -1000000 from rfl)]
          simp only [heq, ne_eq, not_true, decide_false, Bool.false_and, Bool.false_eq_true, if_false]
          exact i0
        | some r' =>
          have hr' := (pin_some hpin).1
          rw [if_neg (show ¬ oI (some r') = -1000000 from of_eq_false (ne_m (by omega)))]
          by_cases hlt : r' ≤ r
          · have hne : ¬ bl S q r i = bl S q r s := fun e => pin_ne hpin hlt e.symm
            rw [if_pos (show oI (some r') < nI (r + 1) from nI_lt (a := r') (by omega) (by omega))]
            simp only [ne_eq, hne, not_false_iff, decide_true, Bool.true_and]
            exact i1
          · have heq : bl S q r s = bl S q r i := (pin_some hpin).2.2 r (by omega)
            rw [if_neg (show ¬ oI (some r') < nI (r + 1) from nI_nlt (a := r') (by omega) (by omega))]
            simp only [heq, ne_eq, not_true, decide_false, Bool.false_and, Bool.false_eq_true, if_false]
            exact i0
      · have ecu : cu S q r t a s i = true := by
          unfold cu
          simp [hb]
        rw [if_neg hb, if_pos (show nI 0 = 0 from rfl), ecu]
        simp only [Bool.true_and]
        exact i1
/-- the lead found so far -/
def MV (m : pj_M) (K : Nat) (o : Option Nat) : Prop := match o with
  | some k => m.1 90 K = nI (k / 10) ∧ m.1 91 K = nI (k % 10)
  | none => m.1 90 K = -1000000
theorem hm_put {m : pj_M} {q r p t a s K : Nat} {S : sy} {x1 x2 x3 x4 x7 x8 : Int32} (hK : K < 100) (ha : a < 4) (hs : s < 10) {K20 : Int32 → Int32 → Int32 → Int32 → Int32 → Int32 → pj_M → Option pj_M} {K53 : Int32 → Int32 → Int32 → Int32 → Int32 → Int32 → Int32 → Int32 → Int32 → pj_M → Option pj_M} (b : Bool) (hMV : MV m K (fdj (LC S q r p t) 40 (40 - (10 * a + s + 1)))) (hb : LC S q r p t (10 * a + s) = b) : ∃ m', J_X11_opens_131 K20 K53 x1 x2 x3 x4 (nI K) (nI a) x7 x8 (nI s) (nI (if b then 1 else 0)) m = K53 x1 x2 x3 x4 (nI K) (nI a) x7 x8 (nI s - 1) m' ∧ fk [] [(90, K), (91, K)] m m' ∧ MV m' K (fdj (LC S q r p t) 40 (40 - (10 * a + s))) := by
  unfold J_X11_opens_131 J_X11_opens_154
  rw [fdj_step (show 10 * a + s < 40 by omega), hb]
  cases b with
  | false =>
    simp only [Bool.false_eq_true, if_false]
    rw [if_pos (show nI 0 = 0 from rfl), if_neg (hn_in hK (by decide)), hn_cl (by omega), if_neg (hn_in' hK (by omega)), if_pos (show nI 0 = 0 from rfl), if_neg (hn_in' hK (by omega)), if_neg (hn_in' hK (by omega))]
    refine ⟨_, rfl, (fk.wp _ (by simp) _).tr (fk.wp _ (by simp) _), ?_⟩
    have e0 : ∀ j, (pj_wr (pj_wr m 90 K (m.1 90 K)) 91 K ((pj_wr m 90 K (m.1 90 K)).1 91 K)).1 90 j = m.1 90 j := fun j => by
      rw [hr_wra (by decide), hr_wr]
      by_cases hj : j = K
      · rw [if_pos ⟨rfl, hj⟩, hj]
      · rw [if_neg (fun e => hj e.2)]
    have e1 : ∀ j, (pj_wr (pj_wr m 90 K (m.1 90 K)) 91 K ((pj_wr m 90 K (m.1 90 K)).1 91 K)).1 91 j = m.1 91 j := fun j => by
      rw [hr_wr]
      by_cases hj : j = K
      · rw [if_pos ⟨rfl, hj⟩, hr_wra (by decide), hj]
      · rw [if_neg (fun e => hj e.2), hr_wra (by decide)]
    unfold MV
    unfold MV at hMV
    rw [e0, e1]
    exact hMV
  | true =>
    simp only [if_true]
    rw [if_neg (show ¬ nI 1 = 0 by decide), if_neg (hn_in hK (by decide)), hn_cl (by omega), if_neg (show ¬ nI 1 = 0 by decide), if_neg (hn_in' hK (by omega))]
    refine ⟨_, rfl, (fk.wp _ (by simp) _).tr (fk.wp _ (by simp) _), ?_⟩
    show (pj_wr (pj_wr m 90 K (nI a)) 91 K (nI s)).1 90 K = nI ((10 * a + s) / 10) ∧ (pj_wr (pj_wr m 90 K (nI a)) 91 K (nI s)).1 91 K = nI ((10 * a + s) % 10)
    rw [show (10 * a + s) / 10 = a by omega, show (10 * a + s) % 10 = s by omega]
    exact ⟨by rw [hr_wra (by decide), hr_wrs], hr_wrs _ _ _ _⟩
theorem PB.keep {m m' : pj_M} {S : sy} {q : Nat} (h : PB m S q) (e1 : m'.1 72 23 = m.1 72 23) (e2 : m'.1 86 = m.1 86) : PB m' S q := by
  unfold PB
  rw [e1, e2]
  exact h
theorem pm_opens {q r p t : Nat} {S : sy} (hw : wfS S) (hq : q < 2) (hr : r ≤ rd S q) (hp : p < S.1) (ht : t < S.1) (m : pj_M) (hl : LK m S) (hP : PB m S q) : ∃ m', F_X11_opens (nI q) (nI p) (nI t) (nI (r + 1)) m = some m' ∧ fk [] [(90, 10 * p + t), (91, 10 * p + t)] m m' ∧ MLP m' S q p t r := by
  have w1 := hw.1
  have hp2 := p2_10 w1
  have hK : 10 * p + t < 100 := by omega
  -- states of one letter
  have inner : ∀ (K20 : Int32 → Int32 → Int32 → Int32 → Int32 → Int32 → pj_M → Option pj_M) (a : Nat), a < 4 → ∀ i, i ≤ S.1 → ∀ (z : Nat) (m : pj_M), i < z → LK m S → PB m S q → MV m (10 * p + t) (fdj (LC S q r p t) 40 (40 - (10 * a + i))) → ∃ m', H_X11_opens_53 K20 z (nI q) (nI p) (nI t) (nI (r + 1)) (nI (10 * p + t)) (nI a) (nI (mv S q a p)) (nI (mv S q a t)) (nI i - 1) m = K20 (nI q) (nI p) (nI t) (nI (r + 1)) (nI (10 * p + t)) (nI a - 1) m' ∧ fk [] [(90, 10 * p + t), (91, 10 * p + t)] m m' ∧ MV m' (10 * p + t) (fdj (LC S q r p t) 40 (40 - 10 * a)) := by
    intro K20 a ha i
    induction i with
    | zero =>
      intro _ z m hz hl hP hMV
      obtain ⟨z, rfl⟩ : ∃ z', z = z' + 1 := ⟨z - 1, by omega⟩
      refine ⟨m, ?_, fk.rf _ _ _, hMV⟩
      rw [H_X11_opens_53, if_pos (by decide)]
    | succ i ih =>
      intro hi z m hz hl hP hMV
      obtain ⟨z, rfl⟩ : ∃ z', z = z' + 1 := ⟨z - 1, by omega⟩
      have hmp := mv_lt hw q a hp
      have e0 := mx_has (m := m) (s := mv S q a p) (j := i) (by omega) (by omega)
      have e1 := hm_is (m := m) (q := q) (r := r) (p := p) (t := t) (a := a) (s := i) hw hP hl.1.1 hr (by omega) ht (x1 := nI q) (x2 := nI p) (x3 := nI t) (x5 := nI (10 * p + t)) (x6 := nI a) (x7 := nI (mv S q a p)) (K20 := K20) (K53 := H_X11_opens_53 K20 z) pj_z 0 (by omega) (by have := pj_z_ge; omega) ((mv S q a p).testBit i)
      obtain ⟨m1, g1, g2, g3⟩ := hm_put (m := m) (q := q) (r := r) (p := p) (t := t) (a := a) (s := i) (K := 10 * p + t) (S := S) (x1 := nI q) (x2 := nI p) (x3 := nI t) (x4 := nI (r + 1)) (x7 := nI (mv S q a p)) (x8 := nI (mv S q a t)) hK ha (by omega) (K20 := K20) (K53 := H_X11_opens_53 K20 z) _ hMV (LC_cu (by omega))
      obtain ⟨m', a1, a2, a3⟩ := ih (by omega) z m1 (by omega) (hl.keep (fun c hc => g2.cell c (by simp) (by simp at hc ⊢; omega))) (hP.keep (g2.1 72 23 (by simp) (by simp)) (g2.cell 86 (by simp) (by simp))) g3
      refine ⟨m', ?_, g2.tr a2, a3⟩
      rw [H_X11_opens_53, nI_pred, if_neg (nI_pos (by omega)), e0]
      simp only [Option.bind_some]
      exact e1.trans (g1.trans a1)
  -- letters
  have outer : ∀ a, a ≤ 4 → ∀ (z : Nat) (m : pj_M), a < z → LK m S → PB m S q → MV m (10 * p + t) (fdj (LC S q r p t) 40 (40 - 10 * a)) → ∃ m', H_X11_opens_20 z (nI q) (nI p) (nI t) (nI (r + 1)) (nI (10 * p + t)) (nI a - 1) m = some m' ∧ fk [] [(90, 10 * p + t), (91, 10 * p + t)] m m' ∧ MV m' (10 * p + t) (fdj (LC S q r p t) 40 40) := by
    intro a
    induction a with
    | zero =>
      intro _ z m hz hl hP hMV
      obtain ⟨z, rfl⟩ : ∃ z', z = z' + 1 := ⟨z - 1, by omega⟩
      refine ⟨m, ?_, fk.rf _ _ _, hMV⟩
      rw [H_X11_opens_20, if_pos (by decide)]
    | succ a ih =>
      intro ha z m hz hl hP hMV
      obtain ⟨z, rfl⟩ : ∃ z', z = z' + 1 := ⟨z - 1, by omega⟩
      have e1 := pm_moving (r := q) (a := a) (s := p) hw hl (by omega) (by omega) hp
      have e2 := pm_moving (r := q) (a := a) (s := t) hw hl (by omega) (by omega) ht
      -- places beyond the states hold none
      have skip : fdj (LC S q r p t) 40 (40 - (10 * a + S.1)) = fdj (LC S q r p t) 40 (40 - 10 * (a + 1)) := by
        have : ∀ d, d + S.1 ≤ 10 → fdj (LC S q r p t) 40 (40 - (10 * a + (10 - d))) = fdj (LC S q r p t) 40 (40 - 10 * (a + 1)) := by
          intro d
          induction d with
          | zero => intro _; rw [show 10 * a + (10 - 0) = 10 * (a + 1) by omega]
          | succ d ihd =>
            intro hd
            have hf : ¬ LC S q r p t (10 * a + (10 - (d + 1))) = true := fun h => by
              have h1 := (LC_iff.mp h).1
              rw [show (10 * a + (10 - (d + 1))) / 10 = a by omega, show (10 * a + (10 - (d + 1))) % 10 = 10 - (d + 1) by omega] at h1
              have := tb_lt (mv_lt hw q a hp) h1
              omega
            rw [fdj_step (by omega), if_neg hf, show 10 * a + (10 - (d + 1)) + 1 = 10 * a + (10 - d) by omega]
            exact ihd (by omega)
        have h := this (10 - S.1) (by omega)
        rw [show 10 - (10 - S.1) = S.1 by omega] at h
        exact h
      rw [← skip] at hMV
      obtain ⟨m1, g1, g2, g3⟩ := inner (H_X11_opens_20 z) a (by omega) S.1 (Nat.le_refl _) pj_z m (by have := pj_z_ge; omega) hl hP hMV
      obtain ⟨m', a1, a2, a3⟩ := ih (by omega) z m1 (by omega) (hl.keep (fun c hc => g2.cell c (by simp) (by simp at hc ⊢; omega))) (hP.keep (g2.1 72 23 (by simp) (by simp)) (g2.cell 86 (by simp) (by simp))) g3
      refine ⟨m', ?_, g2.tr a2, a3⟩
      rw [H_X11_opens_20, nI_pred, if_neg (nI_pos (by omega)), e1]
      simp only [Option.bind_some]
      rw [e2]
      simp only [Option.bind_some]
      rw [mx_states, hl.1.1]
      simp only [Option.bind_some]
      exact g1.trans a1
  have fA : fk [] [(90, 10 * p + t), (91, 10 * p + t)] m (pj_wr m 90 (10 * p + t) (-1000000)) := fk.wp _ (by simp) _
  obtain ⟨m', a1, a2, a3⟩ := outer 4 (Nat.le_refl _) pj_z (pj_wr m 90 (10 * p + t) (-1000000)) (by have := pj_z_ge; omega) (hl.keep (fun c hc => fA.cell c (by simp) (by simp at hc ⊢; omega))) (hP.keep (fA.1 72 23 (by simp) (by simp)) (fA.cell 86 (by simp) (by simp))) (hr_wrs _ _ _ _)
  refine ⟨m', ?_, fA.tr a2, a3⟩
  unfold F_X11_opens
  rw [l10, hn_mul, hn_add, if_neg (hn_in hK (by decide)), hn_cl (by omega)]
  exact a1
/-- the deepest -/
def dpm (g : Nat → Nat) (set : Nat) : Nat → Nat
  | 0 => 0
  | i + 1 => if set.testBit i then (if dpm g set i < g i then g i else dpm g set i) else dpm g set i
theorem dpm_le {g : Nat → Nat} {set B n : Nat} (h : ∀ i, i < n → set.testBit i = true → g i ≤ B) : dpm g set n ≤ B := by
  induction n with
  | zero => exact Nat.zero_le _
  | succ n ih =>
    have h1 := ih (fun i hi => h i (by omega))
    simp only [dpm]
    split
    · rename_i hb
      have := h n (by omega) hb
      split <;> omega
    · exact h1
theorem dpm_ge {g : Nat → Nat} {set n i : Nat} (hi : i < n) (hb : set.testBit i = true) : g i ≤ dpm g set n := by
  induction n with
  | zero => omega
  | succ n ih =>
    simp only [dpm]
    by_cases hin : i = n
    · subst hin
      rw [if_pos hb]
      split <;> omega
    · have := ih (by omega)
      split
      · split <;> omega
      · exact this
theorem pm_sums {q r p t k : Nat} {S : sy} (hw : wfS S) (hq : q < 2) (hp : p < S.1) (ht : t < S.1) (hpin : pin S q p t = some (r + 1)) (hk : fd (LC S q r p t) 40 = some k) (m : pj_M) (hl : LK m S) (h90 : m.1 90 (10 * p + t) = nI (k / 10)) (h91 : m.1 91 (10 * p + t) = nI (k % 10)) (hT : ∀ u r', u < S.1 → r' ≤ r → pin S q (k % 10) u = some r' → MTP m S q (k % 10) u r') : ∃ m', F_X11_sums (nI q) (nI p) (nI t) m = some m' ∧ fk [] [(88, 10 * p + t), (89, 10 * p + t)] m m' ∧ MTP m' S q p t (r + 1) := by
  have w1 := hw.1
  have hp2 := p2_10 w1
  have h9 := rd_le9 hw q
  have hrd := (pin_some hpin).1
  obtain ⟨hk40, hks⟩ := lead_lt hw hp hk
  have hmt := mv_lt hw q (k / 10) ht
  have hK : 10 * p + t < 100 := by omega
  have h83 := hl.1.1
  have hdp : dpm (fun u => (pin S q (k % 10) u).getD 0) (mv S q (k / 10) t) S.1 = r := by
    have h1 : dpm (fun u => (pin S q (k % 10) u).getD 0) (mv S q (k / 10) t) S.1 ≤ r := dpm_le (fun u hu hb => by
      obtain ⟨r', g1, g2⟩ := lead_pin (r := r) (by omega) hk hu hb
      show (pin S q (k % 10) u).getD 0 ≤ r
      rw [g1]
      exact g2)
    cases r with
    | zero => omega
    | succ r =>
      obtain ⟨u, hu, hb, g⟩ := lead_max hw hq hp hpin hk
      have h2 := dpm_ge (g := fun u => (pin S q (k % 10) u).getD 0) (set := mv S q (k / 10) t) (n := S.1) hu hb
      have h3 : (pin S q (k % 10) u).getD 0 = r + 1 := by rw [g]; rfl
      have h2 : (pin S q (k % 10) u).getD 0 ≤ dpm (fun u => (pin S q (k % 10) u).getD 0) (mv S q (k / 10) t) S.1 := h2
      omega
  have hfz : min (2 + sgm (FZ S q (k % 10)) (mv S q (k / 10) t) S.1) 10000 = min (FZ S q p t) 10000 := by
    rw [FZ_lead hw hp ht hpin hk, sgm_stop hmt w1]
  have l9999 : (9999 : Int32) = nI 9999 := rfl
  have e1 := pm_moving (r := q) (a := k / 10) (s := t) hw hl (by omega) (by omega) ht
  have loop : H_X11_sums_32 pj_z (nI (10 * p + t)) (nI (mv S q (k / 10) t)) (nI (min (2 + sgm (FZ S q (k % 10)) (mv S q (k / 10) t) 0) 10000)) (nI (dpm (fun u => (pin S q (k % 10) u).getD 0) (mv S q (k / 10) t) 0)) (nI 0) m = J_X11_sums_128 (nI (10 * p + t)) (nI (min (FZ S q p t) 10000)) (nI r) m := by
    refine lp0 (P := fun z i => H_X11_sums_32 z (nI (10 * p + t)) (nI (mv S q (k / 10) t)) (nI (min (2 + sgm (FZ S q (k % 10)) (mv S q (k / 10) t) i) 10000)) (nI (dpm (fun u => (pin S q (k % 10) u).getD 0) (mv S q (k / 10) t) i)) (nI i) m = J_X11_sums_128 (nI (10 * p + t)) (nI (min (FZ S q p t) 10000)) (nI r) m) S.1 (by omega) ?_ ?_
    · intro z
      rw [H_X11_sums_32, mx_states, h83]
      simp only [Option.bind_some]
      rw [if_neg (nI_nlt (Nat.le_refl _) (by omega)), hdp, hfz]
    · intro z i hi ih
      have e0 := mx_has (m := m) (s := mv S q (k / 10) t) (j := i) (by omega) (by omega)
      have hdl : ∀ i, i ≤ S.1 → dpm (fun u => (pin S q (k % 10) u).getD 0) (mv S q (k / 10) t) i ≤ r := fun i hi => dpm_le (fun u hu hb => by
        obtain ⟨r', g1, g2⟩ := lead_pin (r := r) (by omega) hk (show u < S.1 by omega) hb
        show (pin S q (k % 10) u).getD 0 ≤ r
        rw [g1]
        exact g2)
      have hdi := hdl i (by omega)
      rw [H_X11_sums_32, mx_states, h83]
      simp only [Option.bind_some]
      rw [if_pos (nI_lt hi (by omega)), e0]
      simp only [Option.bind_some]
      by_cases hb : (mv S q (k / 10) t).testBit i = true
      · obtain ⟨r', g1, g2⟩ := lead_pin (r := r) (by omega) hk hi hb
        obtain ⟨c1, c2⟩ := hT i r' hi g2 g1
        have eg : (fun u => (pin S q (k % 10) u).getD 0) i = r' := by
          show (pin S q (k % 10) i).getD 0 = r'
          rw [g1]
          rfl
        have fin : ∀ A : Nat, A = min (2 + sgm (FZ S q (k % 10)) (mv S q (k / 10) t) (i + 1)) 10000 → J_X11_sums_94 (H_X11_sums_32 z) (nI (10 * p + t)) (nI (mv S q (k / 10) t)) (nI (dpm (fun u => (pin S q (k % 10) u).getD 0) (mv S q (k / 10) t) i)) (nI i) (nI (10 * (k % 10) + i)) (nI A) m = J_X11_sums_128 (nI (10 * p + t)) (nI (min (FZ S q p t) 10000)) (nI r) m := by
          intro A hA
          rw [hA]
          unfold J_X11_sums_94
          rw [if_neg (hn_in (by omega) (by decide)), hn_cl (by omega), c2, if_neg (hn_in' (show 10 * (k % 10) + i < 100 by omega) (by omega)), nI_1]
          simp only [dpm, hb, if_true, eg] at ih
          by_cases hlt : dpm (fun u => (pin S q (k % 10) u).getD 0) (mv S q (k / 10) t) i < r'
          · rw [if_pos (nI_lt hlt (by omega))]
            rw [if_pos hlt] at ih
            exact ih
          · rw [if_neg (nI_nlt (by omega) (by omega))]
            rw [if_neg hlt] at ih
            exact ih
        have es : sgm (FZ S q (k % 10)) (mv S q (k / 10) t) (i + 1) = sgm (FZ S q (k % 10)) (mv S q (k / 10) t) i + FZ S q (k % 10) i := by simp only [sgm, hb, if_true]
        rw [if_pos hb, if_neg (show ¬ nI 1 = 0 by decide), if_neg (hn_in hK (by decide)), hn_cl (by omega), h91, show (10 : Int32) * nI (k % 10) + nI i = nI (10 * (k % 10) + i) by rw [l10, hn_mul, hn_add], if_neg (hn_in (show 10 * (k % 10) + i < 100 by omega) (by decide)), hn_cl (by omega), c1, hn_add, l9999]
        by_cases hbig : 9999 < min (2 + sgm (FZ S q (k % 10)) (mv S q (k / 10) t) i) 10000 + min (FZ S q (k % 10) i) 10000
        · rw [if_pos (nI_lt hbig (by omega))]
          exact fin 10000 (by omega)
        · rw [if_neg (nI_nlt (by omega) (by omega))]
          exact fin _ (by omega)
      · rw [if_neg hb, if_pos (show nI 0 = 0 from rfl), nI_1]
        simp only [sgm, dpm, hb, Bool.false_eq_true, if_false, Nat.add_zero] at ih
        exact ih
  refine ⟨pj_wr (pj_wr m 88 (10 * p + t) (nI (min (FZ S q p t) 10000))) 89 (10 * p + t) (nI (r + 1)), ?_, (fk.wp _ (by simp) _).tr (fk.wp _ (by simp) _), by rw [hr_wra (by decide), hr_wrs], hr_wrs _ _ _ _⟩
  unfold F_X11_sums
  rw [show (10 : Int32) * nI p + nI t = nI (10 * p + t) by rw [l10, hn_mul, hn_add], if_neg (hn_in hK (by decide)), hn_cl (by omega), h90, e1]
  simp only [Option.bind_some]
  refine Eq.trans loop ?_
  unfold J_X11_sums_128
  rw [if_neg (hn_in hK (by decide)), hn_cl (by omega), if_neg (hn_in' hK (by omega)), nI_1]
