/-! PART 64: the reference's tellsAll -/
def TPR (m : pj_M) (S : sy) (q p t : Nat) : Prop := ∀ r, pin S q p t = some r → MTP m S q p t r ∧ ∀ r', r = r' + 1 → MLP m S q p t r'
def D1 (m : pj_M) (S : sy) (q ρ p t : Nat) : Prop := pin S q p t = some ρ → (ρ = 0 → MTP m S q p t 0) ∧ ∀ r, ρ = r + 1 → MLP m S q p t r ∧ ∀ k, fd (LC S q r p t) 40 = some k → MTP m S q p t ρ
def KP (m m' : pj_M) (K : Nat) : Prop := fk [] [(88, K), (89, K), (90, K), (91, K)] m m'
def FT (m m' : pj_M) : Prop := fk [88, 89, 90, 91] [] m m'
theorem KP.at {m m' : pj_M} {K j : Nat} (h : KP m m' K) (hj : j ≠ K) (c : Nat) : m'.1 c j = m.1 c j := h.1 c j (by simp) (by simp; omega)
theorem KP.ft {m m' : pj_M} {K : Nat} (h : KP m m' K) : FT m m' := fk.mono h (by simp) (by simp)
theorem MTP.keep {m m' : pj_M} {S : sy} {q p t r : Nat} (h : MTP m S q p t r) (e : ∀ c, m'.1 c (10 * p + t) = m.1 c (10 * p + t)) : MTP m' S q p t r := by
  unfold MTP
  rw [e, e]
  exact h
theorem MLP.keep {m m' : pj_M} {S : sy} {q p t r : Nat} (h : MLP m S q p t r) (e0 : m'.1 90 (10 * p + t) = m.1 90 (10 * p + t)) (e1 : m'.1 91 (10 * p + t) = m.1 91 (10 * p + t)) : MLP m' S q p t r := by
  unfold MLP
  rw [e0, e1]
  exact h
theorem TPR.keep {m m' : pj_M} {S : sy} {q p t K : Nat} (h : TPR m S q p t) (hf : KP m m' K) (hK : 10 * p + t ≠ K) : TPR m' S q p t := fun r hr => ⟨(h r hr).1.keep (hf.at hK), fun r' e => ((h r hr).2 r' e).keep (hf.at hK 90) (hf.at hK 91)⟩
theorem D1.keep {m m' : pj_M} {S : sy} {q ρ p t K : Nat} (h : D1 m S q ρ p t) (hf : KP m m' K) (hK : 10 * p + t ≠ K) : D1 m' S q ρ p t := fun hp => ⟨fun e => ((h hp).1 e).keep (hf.at hK), fun r e => ⟨((h hp).2 r e).1.keep (hf.at hK 90) (hf.at hK 91), fun k hk => (((h hp).2 r e).2 k hk).keep (hf.at hK)⟩⟩
def TB (m : pj_M) (S : sy) (q : Nat) : Prop := LK m S ∧ PB m S q
theorem TB.keep {m m' : pj_M} {S : sy} {q : Nat} (h : TB m S q) (hf : FT m m') : TB m' S q := ⟨h.1.keep (hf.cells _ (by decide)), h.2.keep (hf.1 72 23 (by decide) (by decide)) (hf.cells [86] (by decide) 86 (by decide))⟩
theorem hm_pass1 {q ρ p : Nat} {S : sy} (hw : wfS S) (hq : q < 2) (hρ : ρ ≤ rd S q) (hp : p < S.1) {K2 : Int32 → Int32 → pj_M → Option pj_M} {K12 : Int32 → Int32 → Int32 → pj_M → Option pj_M} (m : pj_M) (hB : TB m S q) (hO : ∀ a b r, a < S.1 → b < S.1 → r < ρ → pin S q a b = some r → TPR m S q a b) (hd : ∀ p' t', p' < p → t' < S.1 → D1 m S q ρ p' t') : ∃ m', H_X11_tellsAll_23 K2 K12 pj_z (nI q) (nI ρ) (nI p) 0 m = K12 (nI q) (nI ρ) (nI (p + 1)) m' ∧ FT m m' ∧ (∀ a b r, a < S.1 → b < S.1 → r < ρ → pin S q a b = some r → TPR m' S q a b) ∧ ∀ p' t', p' < p + 1 → t' < S.1 → D1 m' S q ρ p' t' := by
  have w1 := hw.1
  have h9 := rd_le9 hw q
  refine lp0 (P := fun z t => ∀ m : pj_M, TB m S q → (∀ a b r, a < S.1 → b < S.1 → r < ρ → pin S q a b = some r → TPR m S q a b) → (∀ p' t', p' < p → t' < S.1 → D1 m S q ρ p' t') → (∀ t', t' < t → D1 m S q ρ p t') → ∃ m', H_X11_tellsAll_23 K2 K12 z (nI q) (nI ρ) (nI p) (nI t) m = K12 (nI q) (nI ρ) (nI (p + 1)) m' ∧ FT m m' ∧ (∀ a b r, a < S.1 → b < S.1 → r < ρ → pin S q a b = some r → TPR m' S q a b) ∧ ∀ p' t', p' < p + 1 → t' < S.1 → D1 m' S q ρ p' t') S.1 (by omega) ?_ ?_ m hB hO hd (fun t' h => by omega)
  · intro z m hB hO hd hd2
    refine ⟨m, ?_, fk.rf _ _ _, hO, fun p' t' h1 h2 => ?_⟩
    · rw [H_X11_tellsAll_23, mx_states, hB.1.1.1]
      simp only [Option.bind_some]
      rw [if_neg (nI_nlt (Nat.le_refl _) (by omega)), nI_1]
    · by_cases hpp : p' = p
      · subst hpp
        exact hd2 t' h2
      · exact hd p' t' (by omega) h2
  · intro z t ht ih m hB hO hd hd2
    have ePin := pm_partedIn hw hB.2 hp ht
    have hK : 10 * p + t < 100 := by omega
    have eI : (10 : Int32) * nI p + nI t = nI (10 * p + t) := by rw [l10, hn_mul, hn_add]
    -- after a write at this pair
    have go1 : ∀ m1 : pj_M, KP m m1 (10 * p + t) → pin S q p t = some ρ → D1 m1 S q ρ p t → ∃ m', H_X11_tellsAll_23 K2 K12 z (nI q) (nI ρ) (nI p) (nI (t + 1)) m1 = K12 (nI q) (nI ρ) (nI (p + 1)) m' ∧ FT m m' ∧ (∀ a b r, a < S.1 → b < S.1 → r < ρ → pin S q a b = some r → TPR m' S q a b) ∧ ∀ p' t', p' < p + 1 → t' < S.1 → D1 m' S q ρ p' t' := by
      intro m1 hKP hpin hD
      obtain ⟨m', a1, a2, a3, a4⟩ := ih m1 (hB.keep hKP.ft) (fun a b r ha hb hr hab => (hO a b r ha hb hr hab).keep hKP (fun e => by
        have e1 : a = p := by omega
        have e2 : b = t := by omega
        rw [e1, e2, hpin] at hab
        have := Option.some.inj hab
        omega)) (fun p' t' h1 h2 => (hd p' t' h1 h2).keep hKP (by omega)) (fun t' h1 => by
        by_cases htt : t' = t
        · subst htt
          exact hD
        · exact (hd2 t' (by omega)).keep hKP (by omega))
      exact ⟨m', a1, hKP.ft.tr a2, a3, a4⟩
    rw [H_X11_tellsAll_23, mx_states, hB.1.1.1]
    simp only [Option.bind_some]
    rw [if_pos (nI_lt ht (by omega)), ePin]
    simp only [Option.bind_some]
    by_cases hpin : pin S q p t = some ρ
    · rw [if_pos ((oI_inj hw (by omega)).mpr hpin), eI, nI_1]
      simp only [hn_cl (show 10 * p + t < 2 ^ 31 by omega), hn_in' hK (show 10 * p + t < 2 ^ 31 by omega), if_false]
      cases ρ with
      | zero =>
        have hfz := FZ_0 hw hpin
        rw [if_pos (show nI 0 = 0 from rfl), pm_marked hw hB.1 hp]
        simp only [Option.bind_some]
        have fin : ∀ v : Nat, v = FZ S q p t → v ≤ 2 → ∃ m', H_X11_tellsAll_23 K2 K12 z (nI q) (nI 0) (nI p) (nI (t + 1)) (pj_wr (pj_wr m 88 (10 * p + t) (nI v)) 89 (10 * p + t) 0) = K12 (nI q) (nI 0) (nI (p + 1)) m' ∧ FT m m' ∧ (∀ a b r, a < S.1 → b < S.1 → r < 0 → pin S q a b = some r → TPR m' S q a b) ∧ ∀ p' t', p' < p + 1 → t' < S.1 → D1 m' S q 0 p' t' := fun v hv hv2 => go1 _ ((fk.wp _ (by simp) _).tr (fk.wp _ (by simp) _)) hpin (fun _ => ⟨fun _ => ⟨by rw [hr_wra (by decide), hr_wrs, ← hv]; congr 1; omega, hr_wrs _ _ _ _⟩, fun r e => by omega⟩)
        cases hm : mkb S p with
        | true =>
          rw [hm] at hfz
          simp only [if_true] at hfz ⊢
          rw [if_neg (show ¬ nI 1 = 0 by decide)]
          exact fin 1 hfz.symm (by decide)
        | false =>
          rw [hm] at hfz
          simp only [Bool.false_eq_true, if_false] at hfz ⊢
          rw [if_pos (show nI 0 = 0 from rfl)]
          exact fin 2 hfz.symm (by decide)
      | succ r =>
        obtain ⟨m1, g1, g2, g3⟩ := pm_opens (r := r) hw hq (by omega) hp ht m hB.1 hB.2
        have k1 : KP m m1 (10 * p + t) := g2.mono (by simp) (by simp)
        rw [if_neg (nI_ne0 (by omega) (by omega)), g1]
        simp only [Option.bind_some]
        cases hk : fd (LC S q r p t) 40 with
        | none =>
          have g3' := g3
          unfold MLP at g3'
          rw [hk] at g3'
          have g3' : m1.1 90 (10 * p + t) = -1000000 := g3'
          rw [g3', if_pos rfl]
          exact go1 m1 k1 hpin (fun _ => ⟨fun e => by omega, fun r' e => by
            obtain rfl : r' = r := by omega
            exact ⟨g3, fun k h => by rw [hk] at h; cases h⟩⟩)
        | some k =>
          obtain ⟨hk40, hks⟩ := lead_lt hw hp hk
          have g3' := g3
          unfold MLP at g3'
          rw [hk] at g3'
          obtain ⟨c0', c1'⟩ : m1.1 90 (10 * p + t) = nI (k / 10) ∧ m1.1 91 (10 * p + t) = nI (k % 10) := g3'
          obtain ⟨m2, b1, b2, b3⟩ := pm_sums hw hq hp ht hpin hk m1 (hB.keep k1.ft).1 c0' c1' (fun u r' hu hr' hu2 => ((hO _ _ r' hks hu (by omega) hu2) r' hu2).1.keep (k1.at (fun e => by
            have e1 : k % 10 = p := by omega
            have e2 : u = t := by omega
            rw [e1, e2, hpin] at hu2
            have := Option.some.inj hu2
            omega)))
          have k2 : KP m1 m2 (10 * p + t) := b2.mono (by simp) (by simp)
          rw [c0', if_neg (of_eq_false (ne_m (by omega))), b1]
          simp only [Option.bind_some]
          exact go1 m2 (k1.tr k2) hpin (fun _ => ⟨fun e => by omega, fun r' e => by
            obtain rfl : r' = r := by omega
            exact ⟨g3.keep (b2.1 90 _ (by simp) (by simp)) (b2.1 91 _ (by simp) (by simp)), fun k h => b3⟩⟩)
    · rw [if_neg (fun e => hpin ((oI_inj hw (by omega)).mp e)), nI_1]
      exact ih m hB hO hd (fun t' h1 => by
        by_cases htt : t' = t
        · subst htt
          exact fun h => absurd h hpin
        · exact hd2 t' (by omega))
theorem l9998 : (9998 : Int32) = nI 9998 := rfl
theorem hm_pass2 {q ρ : Nat} {S : sy} (hw : wfS S) (hq : q < 2) (hρ : ρ ≤ rd S q) {K2 : Int32 → Int32 → pj_M → Option pj_M} (m : pj_M) (hB : TB m S q) (hO : ∀ a b r, a < S.1 → b < S.1 → r < ρ → pin S q a b = some r → TPR m S q a b) (hd : ∀ p t, p < S.1 → t < S.1 → D1 m S q ρ p t) : ∃ m', H_X11_tellsAll_130 K2 pj_z (nI q) (nI ρ) 0 m = K2 (nI q) (nI (ρ + 1)) m' ∧ FT m m' ∧ ∀ a b r, a < S.1 → b < S.1 → r < ρ + 1 → pin S q a b = some r → TPR m' S q a b := by
  have w1 := hw.1
  have h9 := rd_le9 hw q
  refine lp0 (P := fun z k => ∀ m : pj_M, TB m S q → (∀ a b r, a < S.1 → b < S.1 → r < ρ → pin S q a b = some r → TPR m S q a b) → (∀ p t, p < S.1 → t < S.1 → D1 m S q ρ p t) → (∀ a b, a < S.1 → b < S.1 → 10 * a + b < k → pin S q a b = some ρ → TPR m S q a b) → ∃ m', H_X11_tellsAll_130 K2 z (nI q) (nI ρ) (nI k) m = K2 (nI q) (nI (ρ + 1)) m' ∧ FT m m' ∧ ∀ a b r, a < S.1 → b < S.1 → r < ρ + 1 → pin S q a b = some r → TPR m' S q a b) 100 (by decide) ?_ ?_ m hB hO hd (fun a b _ _ h => by omega)
  · intro z m hB hO hd hdn
    refine ⟨m, ?_, fk.rf _ _ _, fun a b r ha hb hr hab => ?_⟩
    · rw [H_X11_tellsAll_130]
      simp (disch := omega) only [Option.bind_some, ofn, l0, l1, l2, l3, l4, l5, l6, l7, l8, l9, l10, l11, l12, l19, l20, l30, l31, l40, l72, l100, hn_mul, hn_add, hn_sub, hn_or, hn_and, sh_r, sh_l, bt_n, bt_0, bt_1, hn_cl, if_true, if_false, ↓reduceIte, hn_lt, hn_le, hn_eq, ne_1, ne_m, lt_t, lt_f, le_t, le_f, eq_t, eq_f, Nat.not_lt_zero, false_or, or_false, or_self, false_and, and_false, true_and, and_true, not_true, not_false_iff]
    · by_cases hrr : r = ρ
      · subst hrr
        exact hdn a b ha hb (by omega) hab
      · exact hO a b r ha hb (by omega) hab
  · intro z k hk ih m hB hO hd hdn
    -- nothing is written here
    have skip : (∀ a b, a < S.1 → b < S.1 → 10 * a + b = k → pin S q a b = some ρ → TPR m S q a b) → ∃ m', H_X11_tellsAll_130 K2 z (nI q) (nI ρ) (nI (k + 1)) m = K2 (nI q) (nI (ρ + 1)) m' ∧ FT m m' ∧ ∀ a b r, a < S.1 → b < S.1 → r < ρ + 1 → pin S q a b = some r → TPR m' S q a b := fun hno => ih m hB hO hd (fun a b ha hb hab hp => by
      by_cases he : 10 * a + b = k
      · exact hno a b ha hb he hp
      · exact hdn a b ha hb (by omega) hp)
    have eb : (nI k < nI 100) = True := eq_true (nI_lt hk (by decide))
    rw [H_X11_tellsAll_130, l100, if_pos (nI_lt hk (by decide)), if_neg ten_ne, if_neg ten_ne, rem10 (by omega), div10 (by omega), nI_1]
    cases ρ with
    | zero =>
      rw [if_neg (show ¬ (0 : Int32) < nI 0 by decide)]
      refine skip (fun a b ha hb he hp r hr => ?_)
      rw [hp] at hr
      obtain rfl := Option.some.inj hr
      exact ⟨((hd a b ha hb) hp).1 rfl, fun r' e => by omega⟩
    | succ r =>
      rw [if_pos (show (0 : Int32) < nI (r + 1) from nI_lt (a := 0) (by omega) (by omega)), mx_states, hB.1.1.1]
      simp only [Option.bind_some]
      by_cases ha : k / 10 < S.1
      · rw [if_pos (nI_lt ha (by omega)), mx_states, hB.1.1.1]
        simp only [Option.bind_some]
        by_cases hb : k % 10 < S.1
        · rw [if_pos (nI_lt hb (by omega)), pm_partedIn hw hB.2 ha hb]
          simp only [Option.bind_some]
          have hkk : 10 * (k / 10) + k % 10 = k := by omega
          have uq : ∀ a b, b < S.1 → 10 * a + b = k → a = k / 10 ∧ b = k % 10 := fun a b hb he => by omega
          by_cases hpin : pin S q (k / 10) (k % 10) = some (r + 1)
          · rw [if_pos ((oI_inj hw (by omega)).mpr hpin), if_neg (hn_in hk (by decide)), hn_cl (by omega)]
            have hD := (hd _ _ ha hb) hpin
            obtain ⟨hL, hM⟩ := hD.2 r rfl
            cases hf : fd (LC S q r (k / 10) (k % 10)) 40 with
            | some kk =>
              obtain ⟨hk40, hks⟩ := lead_lt hw ha hf
              have hL' := hL
              unfold MLP at hL'
              rw [hf, hkk] at hL'
              have hL' : m.1 90 k = nI (kk / 10) ∧ m.1 91 k = nI (kk % 10) := hL'
              rw [hL'.1, if_neg (of_eq_false (ne_m (by omega)))]
              refine skip (fun a b ha' hb' he hp r1 hr1 => ?_)
              obtain ⟨rfl, rfl⟩ := uq a b hb' he
              rw [hpin] at hr1
              obtain rfl := Option.some.inj hr1
              exact ⟨hM kk hf, fun r' e => by
                obtain rfl : r' = r := by omega
                exact hL⟩
            | none =>
              have hL' := hL
              unfold MLP at hL'
              rw [hf, hkk] at hL'
              have hL' : m.1 90 k = -1000000 := hL'
              obtain ⟨k2, hk2⟩ := lead_ex hw hq ha hb hpin hf
              have hpin' : pin S q (k % 10) (k / 10) = some (r + 1) := by rw [pin_symm]; exact hpin
              obtain ⟨o1, o2⟩ := (((hd _ _ hb ha) hpin').2 r rfl).2 k2 hk2
              have hfz := FZ_turn hw hq ha hb hpin hf
              have eO : (10 : Int32) * nI (k % 10) + nI (k / 10) = nI (10 * (k % 10) + k / 10) := by rw [l10, hn_mul, hn_add]
              have hne : 10 * (k % 10) + k / 10 ≠ k := fun e => by
                have e1 : k % 10 = k / 10 := by omega
                rw [e1] at hpin
                exact (pin_some hpin).2.1 rfl
              have e89 : ∀ v, (pj_wr m 88 k v).1 89 (10 * (k % 10) + k / 10) = nI (r + 1) := fun v => by rw [hr_wra (by decide), o2]
              -- the write
              have fin : ∀ v : Nat, v = min (FZ S q (k / 10) (k % 10)) 10000 → ∃ m', H_X11_tellsAll_130 K2 z (nI q) (nI (r + 1)) (nI (k + 1)) (pj_wr (pj_wr m 88 k (nI v)) 89 k (nI (r + 1))) = K2 (nI q) (nI (r + 1 + 1)) m' ∧ FT m m' ∧ ∀ a b r', a < S.1 → b < S.1 → r' < r + 1 + 1 → pin S q a b = some r' → TPR m' S q a b := by
                intro v hv
                have hKP : KP m (pj_wr (pj_wr m 88 k (nI v)) 89 k (nI (r + 1))) k := (fk.wp _ (by simp) _).tr (fk.wp _ (by simp) _)
                have hLn : MLP (pj_wr (pj_wr m 88 k (nI v)) 89 k (nI (r + 1))) S q (k / 10) (k % 10) r := hL.keep (by rw [hr_wra (by decide), hr_wra (by decide)]) (by rw [hr_wra (by decide), hr_wra (by decide)])
                have hMn : MTP (pj_wr (pj_wr m 88 k (nI v)) 89 k (nI (r + 1))) S q (k / 10) (k % 10) (r + 1) := by
                  unfold MTP
                  rw [hkk]
                  exact ⟨by rw [hr_wra (by decide), hr_wrs, hv], hr_wrs _ _ _ _⟩
                obtain ⟨m', a1, a2, a3⟩ := ih _ (hB.keep hKP.ft) (fun a b r' ha' hb' hr' hab => (hO a b r' ha' hb' hr' hab).keep hKP (fun e => by
                  obtain ⟨rfl, rfl⟩ := uq a b hb' e
                  rw [hpin] at hab
                  have := Option.some.inj hab
                  omega)) (fun p t hp' ht' => by
                  by_cases he : 10 * p + t = k
                  · obtain ⟨rfl, rfl⟩ := uq p t ht' he
                    exact fun _ => ⟨fun e => by omega, fun r' e => by
                      obtain rfl : r' = r := by omega
                      exact ⟨hLn, fun _ _ => hMn⟩⟩
                  · exact (hd p t hp' ht').keep hKP he) (fun a b ha' hb' hab hp' => by
                  by_cases he : 10 * a + b = k
                  · obtain ⟨rfl, rfl⟩ := uq a b hb' he
                    intro r1 hr1
                    rw [hpin] at hr1
                    obtain rfl := Option.some.inj hr1
                    exact ⟨hMn, fun r' e => by
                      obtain rfl : r' = r := by omega
                      exact hLn⟩
                  · exact (hdn a b ha' hb' (by omega) hp').keep hKP he)
                exact ⟨m', a1, hKP.ft.tr a2, a3⟩
              rw [hL', if_pos rfl, eO, if_neg (hn_in (show 10 * (k % 10) + k / 10 < 100 by omega) (by decide)), hn_cl (by omega), o1, l9998]
              simp only [hn_in' hk (show k < 2 ^ 31 by omega), hn_in' (show 10 * (k % 10) + k / 10 < 100 by omega) (show 10 * (k % 10) + k / 10 < 2 ^ 31 by omega), if_false, e89]
              by_cases hbig : 9998 < min (FZ S q (k % 10) (k / 10)) 10000
              · rw [if_pos (nI_lt hbig (by omega))]
                exact fin 10000 (by omega)
              · rw [if_neg (nI_nlt (by omega) (by omega)), nI_1]
                exact fin _ (by omega)
          · rw [if_neg (fun e => hpin ((oI_inj hw (by omega)).mp e))]
            refine skip (fun a b ha' hb' he hp => ?_)
            obtain ⟨rfl, rfl⟩ := uq a b hb' he
            exact absurd hp hpin
        · rw [if_neg (nI_nlt (by omega) (by omega))]
          exact skip (fun a b ha' hb' he hp => by omega)
      · rw [if_neg (nI_nlt (by omega) (by omega))]
        exact skip (fun a b ha' hb' he hp => by omega)
theorem pm_tellsAll {q : Nat} {S : sy} (hw : wfS S) (hq : q < 2) (m : pj_M) (hB : TB m S q) : ∃ m', F_X11_tellsAll (nI q) m = some m' ∧ FT m m' ∧ MTT m' S q := by
  have w1 := hw.1
  have h9 := rd_le9 hw q
  refine lp0 (P := fun z ρ => ∀ m : pj_M, TB m S q → (∀ a b r, a < S.1 → b < S.1 → r < ρ → pin S q a b = some r → TPR m S q a b) → ∃ m', H_X11_tellsAll_2 z (nI q) (nI ρ) m = some m' ∧ FT m m' ∧ MTT m' S q) (rd S q + 1) (by omega) ?_ ?_ m hB (fun a b r _ _ h => by omega)
  · intro z m hB hO
    refine ⟨m, ?_, fk.rf _ _ _, fun p t r hp ht hr => hO p t r hp ht (by have := (pin_some hr).1; omega) hr r hr⟩
    rw [H_X11_tellsAll_2, hB.2.1, if_pos (nI_lt (by omega) (by omega))]
  · intro z ρ hρ ih m hB hO
    -- pass over all pairs
    have pass : ∃ m1, H_X11_tellsAll_12 (H_X11_tellsAll_2 z) pj_z (nI q) (nI ρ) 0 m = H_X11_tellsAll_130 (H_X11_tellsAll_2 z) pj_z (nI q) (nI ρ) 0 m1 ∧ FT m m1 ∧ (∀ a b r, a < S.1 → b < S.1 → r < ρ → pin S q a b = some r → TPR m1 S q a b) ∧ ∀ p t, p < S.1 → t < S.1 → D1 m1 S q ρ p t := by
      refine lp0 (P := fun z2 p => ∀ m : pj_M, TB m S q → (∀ a b r, a < S.1 → b < S.1 → r < ρ → pin S q a b = some r → TPR m S q a b) → (∀ p' t', p' < p → t' < S.1 → D1 m S q ρ p' t') → ∃ m1, H_X11_tellsAll_12 (H_X11_tellsAll_2 z) z2 (nI q) (nI ρ) (nI p) m = H_X11_tellsAll_130 (H_X11_tellsAll_2 z) pj_z (nI q) (nI ρ) 0 m1 ∧ FT m m1 ∧ (∀ a b r, a < S.1 → b < S.1 → r < ρ → pin S q a b = some r → TPR m1 S q a b) ∧ ∀ p t, p < S.1 → t < S.1 → D1 m1 S q ρ p t) S.1 (by omega) ?_ ?_ m hB hO (fun p' t' h => by omega)
      · intro z2 m hB hO hd
        refine ⟨m, ?_, fk.rf _ _ _, hO, hd⟩
        rw [H_X11_tellsAll_12, mx_states, hB.1.1.1]
        simp only [Option.bind_some]
        rw [if_neg (nI_nlt (Nat.le_refl _) (by omega))]
      · intro z2 p hp ih2 m hB hO hd
        obtain ⟨m1, g1, g2, g3, g4⟩ := hm_pass1 (K2 := H_X11_tellsAll_2 z) (K12 := H_X11_tellsAll_12 (H_X11_tellsAll_2 z) z2) hw hq (show ρ ≤ rd S q by omega) hp m hB hO hd
        obtain ⟨m2, a1, a2, a3, a4⟩ := ih2 m1 (hB.keep g2) g3 g4
        refine ⟨m2, ?_, g2.tr a2, a3, a4⟩
        rw [H_X11_tellsAll_12, mx_states, hB.1.1.1]
        simp only [Option.bind_some]
        rw [if_pos (nI_lt hp (by omega))]
        exact g1.trans a1
    obtain ⟨m1, g1, g2, g3, g4⟩ := pass
    obtain ⟨m2, a1, a2, a3⟩ := hm_pass2 (K2 := H_X11_tellsAll_2 z) hw hq (show ρ ≤ rd S q by omega) m1 (hB.keep g2) g3 g4
    obtain ⟨m', b1, b2, b3⟩ := ih m2 ((hB.keep g2).keep a2) a3
    refine ⟨m', ?_, (g2.tr a2).tr b2, b3⟩
    rw [H_X11_tellsAll_2, hB.2.1, if_neg (nI_nlt (by omega) (by omega))]
    exact g1.trans (a1.trans b1)
