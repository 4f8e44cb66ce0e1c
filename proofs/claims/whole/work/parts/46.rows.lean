/-! PART 46: row, set, copy, drop; status -/
theorem XK.keep {m m' : pj_M} {v : Nat} {S : sy} (h : XK m v S) (e : ∀ a, a = 7 ∨ (20 ≤ a ∧ a ≤ 35) ∨ (64 ≤ a ∧ a ≤ 71) → m'.1 a = m.1 a ∧ m'.2 a = m.2 a) : XK m' v S := by
  obtain ⟨k1, k2, k3, k4⟩ := h
  refine ⟨?_, ?_, fun q hq => ?_, fun q hq => ?_⟩
  · rw [(e 7 (by omega)).1]
    exact k1
  · rw [(e 20 (by omega)).1]
    exact k2.imp (fun h => ⟨h.1.keep (e 21 (by omega)).1, h.2.keep (e 22 (by omega)).1⟩)
  · obtain ⟨a1, a2⟩ := k3 q hq
    have e0 := (e (24 + 3 * q) (by omega)).1
    rw [e0]
    exact ⟨a1, a2.imp (fun h => h.keep e0 (e (24 + 3 * q + 1) (by omega)).1 (e (24 + 3 * q + 2) (by omega)).2)⟩
  · obtain ⟨a1, a2⟩ := k4 q hq
    have e0 := (e (64 + 4 * q) (by omega)).1
    rw [e0]
    exact ⟨a1, a2.imp (fun h => h.keep (e (64 + 4 * q + 1) (by omega)).1 (e (64 + 4 * q + 2) (by omega)).1 (e (64 + 4 * q + 3) (by omega)).2)⟩
theorem XJ.keep {m m' : pj_M} {v : Nat} (h : XJ m v) (e : ∀ a, a = 13 ∨ (37 ≤ a ∧ a ≤ 52) → m'.1 a = m.1 a) : XJ m' v := by
  obtain ⟨k1, k2, k3⟩ := h
  refine ⟨?_, ?_, fun q hq => ?_⟩
  · rw [e 13 (by omega)]
    exact k1
  · rw [e 37 (by omega)]
    exact k2
  · rw [e (41 + 3 * q) (by omega)]
    exact k3 q hq
theorem fk.both {l : List Nat} {p : List (Nat × Nat)} {m m' : pj_M} (h : fk l p m m') (a : Nat) (ha : a ∉ l) (hp : ∀ q ∈ p, q.1 ≠ a) : m'.1 a = m.1 a ∧ m'.2 a = m.2 a := ⟨h.cell a ha hp, h.2 a ha⟩
/-- X: rows and status have changed -/
theorem xR.row {c : Nat} {m m' : pj_M} {σ : sg} {ρ' : sr} {x' : Int32} (h : xR c m σ) (hf : fk [2, 3, 4] [(0, 13)] m m') (hr : XR m' ρ') (hx : m'.1 0 13 = x') : xR (c + 1) m' (ρ', x', σ.2.2) := by
  obtain ⟨⟨h1, h2, h3, h4, h5, h6, h7, h8⟩, ⟨v, hv, hk⟩, w, hw, hj⟩ := h
  have e : ∀ a, 5 ≤ a → m'.1 a = m.1 a ∧ m'.2 a = m.2 a := fun a ha => hf.both a (by simp; omega) (by simp; omega)
  refine ⟨⟨hr, hx, ?_, ?_, h5.keep (e 7 (by omega)).1 (e 8 (by omega)).1 (e 9 (by omega)).1, h6.keep (fun a ha => (e a (by simp at ha; omega)).1), h7.keep (fun a ha => (e a (by simp at ha; omega)).1), ?_⟩, ⟨v, by omega, hk.keep (fun a ha => e a (by omega))⟩, w, by omega, hj.keep (fun a ha => (e a (by omega)).1)⟩
  · unfold XT
    rw [(e 5 (by omega)).1, (e 6 (by omega)).1]
    exact h3
  · rw [hf.1 0 12 (by decide) (by decide)]
    exact h4
  · unfold Xtr
    rw [(e 56 (by omega)).1, (e 57 (by omega)).1]
    exact h8
theorem mR.row {m m' : pj_M} {σ : sg} {ρ' : sr} {x' : Int32} (h : mR m σ) (hf : fk (73 :: 74 :: 75 :: cms) ((72, 4) :: pms) m m') (hr : MR m' ρ') (hx : m'.1 72 4 = x') : mR m' (ρ', x', σ.2.2) := by
  obtain ⟨h1, h2, h3, h4, h5, h6, h7, h8⟩ := h
  have c : ∀ a ∈ [77, 78, 80, 81, 82, 94], m'.1 a = m.1 a := hf.cells _ (by decide)
  have p : ∀ k, k ∈ [6, 7, 16, 32] → m'.1 72 k = m.1 72 k := fun k hk => hf.1 72 k (by decide) (by
    simp only [List.mem_cons, List.not_mem_nil, or_false] at hk
    rcases hk with rfl | rfl | rfl | rfl <;> decide)
  refine ⟨hr, hx, ?_, ?_, h5.keep (c 78 (by decide)), ?_, h7.keep (fun a ha => c a (by simp at ha ⊢; omega)), ?_⟩
  · unfold MT
    rw [p 6 (by decide), c 77 (by decide)]
    exact h3
  · rw [p 7 (by decide)]
    exact h4
  · unfold MA MN
    rw [p 16 (by decide), c 80 (by decide)]
    exact h6
  · unfold Mtr
    rw [p 32 (by decide), c 94 (by decide)]
    exact h8
theorem lo_rw {m m' : pj_M} (h : fk (73 :: 74 :: 75 :: cms) ((72, 4) :: pms) m m') : lo m m' := h.lo (by decide) (by decide)
theorem XR.no {m : pj_M} {ρ : sr} (h : XR m ρ) {r : Nat} (hr : r < 8) (e : ρ r = none) : m.1 2 r = -1 := by
  have h1 := h r hr
  rw [e] at h1
  exact h1
theorem XR.so {m : pj_M} {ρ : sr} (h : XR m ρ) {r : Nat} (hr : r < 8) {l L : Nat} {g : Nat → Int32} (e : ρ r = some (l, L, g)) : l < 3 ∧ L ≤ 40 ∧ m.1 2 r = nI l ∧ m.1 3 r = nI L ∧ ∀ i, i < L → m.1 4 (40 * r + i) = g i := by
  have h1 := h r hr
  rw [e] at h1
  exact h1
theorem MR.no {m : pj_M} {ρ : sr} (h : MR m ρ) {r : Nat} (hr : r < 8) (e : ρ r = none) : m.1 73 r = -1000000 := by
  have h1 := h r hr
  rw [e] at h1
  exact h1
theorem MR.so {m : pj_M} {ρ : sr} (h : MR m ρ) {r : Nat} (hr : r < 8) {l L : Nat} {g : Nat → Int32} (e : ρ r = some (l, L, g)) : l < 3 ∧ L ≤ 40 ∧ m.1 73 r = nI l ∧ m.1 74 r = nI L ∧ ∀ i, i < L → m.1 75 (40 * r + i) = g i := by
  have h1 := h r hr
  rw [e] at h1
  exact h1
/-- a finding of both sides -/
theorem ok_found {fX fM : pj_M → Option (Int32 × pj_M)} {σ : sg} {n : Int32} (hσ : WF σ) (hX : ∀ m, xR0 m σ → fX m = F_X10_found n m) (hM : ∀ m, mR m σ → fM m = F_X11_found n m) : OK1 fX fM σ := by
  refine ⟨-1000010 - n, (σ.1, n, σ.2.2), hσ, fun c m hc h => ?_, fun m h => ?_⟩
  · have hf : fk [2, 3, 4] [(0, 13)] m (pj_wr m 0 13 n) := fk.wp _ (by decide) _
    refine ⟨_, hX m h.1, h.row hf (h.1.1.keep (fun a ha => hr_wra (by simp at ha; omega))) (hr_wrs _ _ _ _), hf.hi (by decide) (by decide)⟩
  · have hf : fk (73 :: 74 :: 75 :: cms) ((72, 4) :: pms) m (pj_wr m 72 4 n) := fk.wp _ (by decide) _
    refine ⟨_, hM m h, h.row hf (h.1.keep (fun a ha => hr_wra (by simp at ha; omega))) (hr_wrs _ _ _ _), lo_rw hf⟩
theorem xmis_n {m : pj_M} {r : Nat} (hr : r < 8) (h : m.1 2 r = -1) : F_X6_isMissing (nI r) m = some (1, m) := by
  unfold F_X6_isMissing
  rw [if_neg (hn_in hr (by decide)), hn_cl (by omega), h, if_pos rfl]
theorem xmis_y {m : pj_M} {r l : Nat} (hr : r < 8) (hl : l < 3) (h : m.1 2 r = nI l) : F_X6_isMissing (nI r) m = some (0, m) := by
  unfold F_X6_isMissing
  rw [if_neg (hn_in hr (by decide)), hn_cl (by omega), h, if_neg (show ¬ nI l = -1 from of_eq_false (ne_1 (by omega)))]
theorem mmis_n {m : pj_M} {r : Nat} (hr : r < 8) (h : m.1 73 r = -1000000) : F_X11_isMissing (nI r) m = some (1, m) := by
  unfold F_X11_isMissing
  rw [if_neg (hn_in hr (by decide)), hn_cl (by omega), h, if_pos rfl]
theorem mmis_y {m : pj_M} {r l : Nat} (hr : r < 8) (hl : l < 3) (h : m.1 73 r = nI l) : F_X11_isMissing (nI r) m = some (0, m) := by
  unfold F_X11_isMissing
  rw [if_neg (hn_in hr (by decide)), hn_cl (by omega), h, if_neg (of_eq_false (ne_m (by omega)))]
theorem bind_id {α β : Type} (o : Option (α × β)) : (o.bind fun q => some (q.1, q.2)) = o := by
  cases o <;> rfl
/-- a row is put in place -/
def ru (ρ : sr) (r : Nat) (v : Option (Nat × Nat × (Nat → Int32))) : sr := fun r' => if r' = r then v else ρ r'
theorem ru_wf {ρ : sr} (h : wfR ρ) (r l L : Nat) (g : Nat → Int32) (hl : l < 3) (hL : L ≤ 40) : wfR (ru ρ r (some (l, L, g))) := by
  intro r' l' L' g' e
  simp only [ru] at e
  split at e
  · have e := Option.some.inj e
    have e1 := (Prod.mk.inj e).1
    have e2 := (Prod.mk.inj (Prod.mk.inj e).2).1
    omega
  · exact h r' l' L' g' e
theorem ru_wf0 {ρ : sr} (h : wfR ρ) (r : Nat) : wfR (ru ρ r none) := by
  intro r' l' L' g' e
  simp only [ru] at e
  split at e
  · cases e
  · exact h r' l' L' g' e
theorem XR.put {m m' : pj_M} {ρ : sr} (h : XR m ρ) {r l L : Nat} {g : Nat → Int32} (hl : l < 3) (hL : L ≤ 40) (e2 : ∀ k, m'.1 2 k = if k = r then nI l else m.1 2 k) (e3 : ∀ k, m'.1 3 k = if k = r then nI L else m.1 3 k) (e4 : ∀ k, (k < 40 * r ∨ 40 * r + 40 ≤ k) → m'.1 4 k = m.1 4 k) (eg : ∀ i, i < L → m'.1 4 (40 * r + i) = g i) : XR m' (ru ρ r (some (l, L, g))) := by
  intro r' hr'
  by_cases hrr : r' = r
  · simp only [ru, hrr, if_true]
    exact ⟨hl, hL, by rw [e2, if_pos rfl], by rw [e3, if_pos rfl], eg⟩
  · have h1 := h r' hr'
    simp only [ru, hrr, if_false]
    cases hρ : ρ r' with
    | none =>
      rw [hρ] at h1
      show m'.1 2 r' = -1
      rw [e2, if_neg hrr]
      exact h1
    | some v =>
      obtain ⟨l', L', g'⟩ := v
      rw [hρ] at h1
      obtain ⟨a1, a2, a3, a4, a5⟩ := h1
      refine ⟨a1, a2, by rw [e2, if_neg hrr]; exact a3, by rw [e3, if_neg hrr]; exact a4, fun i hi => ?_⟩
      rw [e4 _ (by omega)]
      exact a5 i hi
theorem MR.put {m m' : pj_M} {ρ : sr} (h : MR m ρ) {r l L : Nat} {g : Nat → Int32} (hl : l < 3) (hL : L ≤ 40) (e2 : ∀ k, m'.1 73 k = if k = r then nI l else m.1 73 k) (e3 : ∀ k, m'.1 74 k = if k = r then nI L else m.1 74 k) (e4 : ∀ k, (k < 40 * r ∨ 40 * r + 40 ≤ k) → m'.1 75 k = m.1 75 k) (eg : ∀ i, i < L → m'.1 75 (40 * r + i) = g i) : MR m' (ru ρ r (some (l, L, g))) := by
  intro r' hr'
  by_cases hrr : r' = r
  · simp only [ru, hrr, if_true]
    exact ⟨hl, hL, by rw [e2, if_pos rfl], by rw [e3, if_pos rfl], eg⟩
  · have h1 := h r' hr'
    simp only [ru, hrr, if_false]
    cases hρ : ρ r' with
    | none =>
      rw [hρ] at h1
      show m'.1 73 r' = -1000000
      rw [e2, if_neg hrr]
      exact h1
    | some v =>
      obtain ⟨l', L', g'⟩ := v
      rw [hρ] at h1
      obtain ⟨a1, a2, a3, a4, a5⟩ := h1
      refine ⟨a1, a2, by rw [e2, if_neg hrr]; exact a3, by rw [e3, if_neg hrr]; exact a4, fun i hi => ?_⟩
      rw [e4 _ (by omega)]
      exact a5 i hi
theorem i32_41 {x : Int32} (h3 : ¬ (40 : Int32) < x) (h4 : ¬ x < 0) : inb x 41 := by
  refine (inb_iff (by decide)).mpr ?_
  rw [Int32.lt_iff_toInt_lt] at h3 h4
  have e1 : (40 : Int32).toInt = 40 := rfl
  have e2 : (0 : Int32).toInt = 0 := rfl
  omega
theorem ok_row {σ : sg} (hσ : WF σ) (x1 x2 x3 : Int32) : OK1 (F_X10_row x1 x2 x3) (F_X11_row x1 x2 x3) σ := by
  by_cases h1 : inb x1 8
  · by_cases h2 : inb x2 3
    · have X2 : ∀ m, F_X10_within x2 0 2 m = some (1, m) := fun m => px_within_y (by decide) h2
      have M2 : ∀ m, F_X11_in x2 0 2 m = some (1, m) := fun m => pm_in_y (by decide) h2
      by_cases h3 : (40 : Int32) < x3
      · refine ok_same hσ (r := -1000001) (fun m h => ?_) (fun m h => ?_)
        · simp only [F_X10_row, px_exists_y h1, X2, h3, Option.bind_some, ne10, if_false, if_true]
        · simp only [F_X11_row, pm_isRow_y h1, M2, h3, Option.bind_some, ne10, if_false, if_true]
      · by_cases h4 : x3 < 0
        · refine ok_found (n := 4) hσ (fun m h => ?_) (fun m h => ?_)
          · simp only [F_X10_row, px_exists_y h1, X2, h3, h4, Option.bind_some, ne10, if_false, if_true, bind_id]
          · simp only [F_X11_row, pm_isRow_y h1, M2, h3, h4, Option.bind_some, ne10, if_false, if_true, bind_id]
        · obtain ⟨r, hr, rfl⟩ := id h1
          obtain ⟨l, hl, rfl⟩ := id h2
          obtain ⟨L, hL, rfl⟩ := i32_41 h3 h4
          refine ⟨nI L, (ru σ.1 r (some (l, L, fun _ => 0)), 0, σ.2.2), ⟨ru_wf hσ.1 r l L _ hl (by omega), hσ.2⟩, fun c m hc h => ?_, fun m h => ?_⟩
          · obtain ⟨m1, g1, g2, g3⟩ := hx_make hr (show L ≤ 40 by omega) pj_z 0 (pj_wr (pj_wr m 2 r (nI l)) 3 r (nI L)) (by omega) (by have := pj_z_ge; omega)
            have g1 : H_X6_make_17 pj_z (nI r) (nI L) 0 (pj_wr (pj_wr m 2 r (nI l)) 3 r (nI L)) = some m1 := g1
            have hf : fk [2, 3, 4] [(0, 13)] m (pj_wr m1 0 13 0) := (((fk.wr _ (by decide) _ _).tr (fk.wr _ (by decide) _ _)).tr (g2.mono (by decide) (by decide))).tr (fk.wp _ (by decide) _)
            refine ⟨pj_wr m1 0 13 0, ?_, h.row hf (h.1.1.put hl (by omega) (fun k => ?_) (fun k => ?_) (fun k hk => ?_) (fun i hi => ?_)) (hr_wrs _ _ _ _), hf.hi (by decide) (by decide)⟩
            · simp only [F_X10_row, px_exists_y h1, X2, h3, h4, Option.bind_some, ne10, if_false, F_X6_make, hn_cl (show r < 2 ^ 31 by omega), hn_in' hr (show r < 2 ^ 31 by omega), g1, F_X10_fine]
            · rw [hr_wra (by decide), g2.1 2 k (by decide) List.not_mem_nil, hr_wra (by decide), hr_wr]
              simp
            · rw [hr_wra (by decide), g2.1 3 k (by decide) List.not_mem_nil, hr_wr]
              simp [hr_wra]
            · rw [hr_wra (by decide), g3, if_neg (by omega), hr_wra (by decide), hr_wra (by decide)]
            · rw [hr_wra (by decide), g3, if_pos (by omega)]
          · obtain ⟨m2, k1, k2, k3⟩ := hm_row (x3 := nI L) hr pj_z 0 (pj_wr (pj_wr m 73 r (nI l)) 74 r (nI L)) (by omega) (by have := pj_z_ge; omega)
            have hf : fk (73 :: 74 :: 75 :: cms) ((72, 4) :: pms) m (pj_wr m2 72 4 0) := (((fk.wr _ (by decide) _ _).tr (fk.wr _ (by decide) _ _)).tr (k2.mono (by decide) (by decide))).tr (fk.wp _ (by decide) _)
            refine ⟨pj_wr m2 72 4 0, ?_, h.row hf (h.1.put hl (by omega) (fun k => ?_) (fun k => ?_) (fun k hk => ?_) (fun i hi => ?_)) (hr_wrs _ _ _ _), lo_rw hf⟩
            · simp only [F_X11_row, pm_isRow_y h1, M2, h3, h4, Option.bind_some, ne10, if_false, hn_cl (show r < 2 ^ 31 by omega), hn_in' hr (show r < 2 ^ 31 by omega)]
              exact k1
            · rw [hr_wra (by decide), k2.1 73 k (by decide) List.not_mem_nil, hr_wra (by decide), hr_wr]
              simp
            · rw [hr_wra (by decide), k2.1 74 k (by decide) List.not_mem_nil, hr_wr]
              simp [hr_wra]
            · rw [hr_wra (by decide), k3, if_neg (by omega), hr_wra (by decide), hr_wra (by decide)]
            · rw [hr_wra (by decide), k3, if_pos (by omega)]
    · have X2 : ∀ m, F_X10_within x2 0 2 m = some (0, m) := fun m => px_within_n (by decide) h2
      have M2 : ∀ m, F_X11_in x2 0 2 m = some (0, m) := fun m => pm_in_n (by decide) h2
      refine ok_same hσ (r := -1000001) (fun m h => ?_) (fun m h => ?_)
      · simp only [F_X10_row, px_exists_y h1, X2, Option.bind_some, ne10, if_false, if_true]
      · simp only [F_X11_row, pm_isRow_y h1, M2, Option.bind_some, ne10, if_false, if_true]
  · refine ok_same hσ (r := -1000001) (fun m h => ?_) (fun m h => ?_)
    · simp only [F_X10_row, px_exists_n h1, Option.bind_some, if_true]
    · simp only [F_X11_row, pm_isRow_n h1, Option.bind_some, if_true]
theorem px_in1 {m : pj_M} {n : Nat} {x : Int32} (hn : n < 2 ^ 31) : (inb x n → F_X10_within x 0 (nI n - 1) m = some (1, m)) ∧ (¬ inb x n → F_X10_within x 0 (nI n - 1) m = some (0, m)) := pm_in1 (m := m) hn
def cutl (l : Nat) (v : Int32) : Int32 := if l = 0 then v.toInt8.toInt32 else if l = 1 then v.toInt16.toInt32 else v
theorem px_cutl {m : pj_M} {l : Nat} {v : Int32} (hl : l < 3) : F_X6_cutToLane (nI l) v m = some (cutl l v, m) := by
  unfold F_X6_cutToLane cutl
  have : l = 0 ∨ l = 1 ∨ l = 2 := by omega
  rcases this with rfl | rfl | rfl
  · rw [if_pos (show nI 0 = 0 from rfl)]
    rfl
  · rw [if_neg (show ¬ nI 1 = 0 by decide), if_pos (show nI 1 = 1 from rfl)]
    rfl
  · rw [if_neg (show ¬ nI 2 = 0 by decide), if_neg (show ¬ nI 2 = 1 by decide)]
    rfl
theorem pm_cutl {m : pj_M} {l : Nat} {v : Int32} (hl : l < 3) : F_X11_lowest (nI l) v m = some (cutl l v, m) := by
  unfold F_X11_lowest cutl
  rw [sx8, sx16]
  have : l = 0 ∨ l = 1 ∨ l = 2 := by omega
  rcases this with rfl | rfl | rfl
  · rw [if_pos (show nI 0 = 0 from rfl)]
    rfl
  · rw [if_neg (show ¬ nI 1 = 0 by decide), if_pos (show nI 1 = 1 from rfl)]
    rfl
  · rw [if_neg (show ¬ nI 2 = 0 by decide), if_neg (show ¬ nI 2 = 1 by decide)]
    rfl
