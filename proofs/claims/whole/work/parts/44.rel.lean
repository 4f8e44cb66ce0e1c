/-! PART 44: the abstract state and each side's memory: all of it -/
/-- what tells two apart: the least letter and state (10 a + s); how many codes -/
def fdj (p : Nat → Bool) (n : Nat) : Nat → Option Nat
  | 0 => none
  | j + 1 => if p (n - (j + 1)) then some (n - (j + 1)) else fdj p n j
def fd (p : Nat → Bool) (n : Nat) : Option Nat := fdj p n n
def LC (S : sy) (q r p t k : Nat) : Bool := (mv S q (k / 10) p).testBit (k % 10) && !((bo (bl S q r) (mv S q (k / 10) t) S.1).testBit (bl S q r (k % 10)))
def ldI (S : sy) (q p t : Nat) : Int32 := match pin S q p t with
  | some (r + 1) => (match fd (LC S q r p t) 40 with
    | some k => nI k
    | none => -1)
  | _ => if mkb S p then -2 else -3
def sgm (f : Nat → Nat) (set : Nat) : Nat → Nat
  | 0 => 0
  | n + 1 => sgm f set n + (if set.testBit n then f n else 0)
def szr (S : sy) (q : Nat) : Nat → Nat → Nat → Nat
  | 0 => fun _ _ => 0
  | r + 1 => fun p t => if pin S q p t = some r then (if r = 0 then (if mkb S p then 1 else 2) else match fd (LC S q (r - 1) p t) 40 with
    | some k => 2 + sgm (szr S q r (k % 10)) (mv S q (k / 10) t) 10
    | none => (match fd (LC S q (r - 1) t p) 40 with
      | some k => 3 + sgm (szr S q r (k % 10)) (mv S q (k / 10) p) 10
      | none => 0)) else szr S q r p t
def FZ (S : sy) (q : Nat) : Nat → Nat → Nat := szr S q 10
def TT (m : pj_M) (Q : Nat) (S : sy) (q : Nat) : Prop := ∀ p t, p < S.1 → t < S.1 → m.1 (Q + 1) (10 * p + t) = oI (pin S q p t) ∧ m.1 (Q + 2) (10 * p + t) = ldI S q p t ∧ ∀ r, pin S q p t = some r → m.2 (Q + 3) (10 * p + t) = lN (FZ S q p t)
/-- a cache's mark: never, or of an earlier version, or of this one: then it holds -/
def sn (x : Int32) (v : Nat) (V : Prop) : Prop := x = -1 ∨ ∃ w, w ≤ v ∧ x = nI w ∧ (w = v → V)
/-- how the log undoes: newer S, older S' -/
def LG (e : Nat → Int32) (S S' : sy) : Prop :=
  (e 0 = nI 0 ∧ S.1 = S'.1 ∧ S.2.2.1 = S'.2.2.1 + 1 ∧ (∀ s, s < S.1 → S'.2.1 s = S.2.1 s) ∧ ∀ a, a < S'.2.2.1 → ∀ w, w < 3 → S'.2.2.2 a w = S.2.2.2 a w) ∨
  (e 0 = nI 1 ∧ S.1 = S'.1 ∧ S'.2.2.1 = S.2.2.1 + 1 ∧ (∀ s, s < S.1 → S'.2.1 s = S.2.1 s) ∧ ∃ j, j < S'.2.2.1 ∧ e 1 = nI j ∧ e 2 = nI (S'.2.2.2 j 0) ∧ e 3 = nI (S'.2.2.2 j 1) ∧ e 4 = nI (S'.2.2.2 j 2) ∧ (∀ a, a < j → ∀ w, w < 3 → S'.2.2.2 a w = S.2.2.2 a w) ∧ ∀ a, j ≤ a → a < S.2.2.1 → ∀ w, w < 3 → S'.2.2.2 (a + 1) w = S.2.2.2 a w) ∨
  (e 0 = nI 2 ∧ S.1 = S'.1 ∧ S'.2.2.1 = S.2.2.1 ∧ (∀ s, s < S.1 → S'.2.1 s = S.2.1 s) ∧ ∃ j, j < S.2.2.1 ∧ e 1 = nI j ∧ S'.2.2.2 j 0 = S.2.2.2 j 0 ∧ S'.2.2.2 j 1 = S.2.2.2 j 2 ∧ S'.2.2.2 j 2 = S.2.2.2 j 1 ∧ ∀ a, a < S.2.2.1 → a ≠ j → ∀ w, w < 3 → S'.2.2.2 a w = S.2.2.2 a w) ∨
  (e 0 = nI 3 ∧ S.1 = S'.1 ∧ S'.2.2.1 = S.2.2.1 ∧ (∃ s, s < S.1 ∧ e 1 = nI s ∧ e 2 = nI (S'.2.1 s) ∧ ∀ t, t < S.1 → t ≠ s → S'.2.1 t = S.2.1 t) ∧ ∀ a, a < S.2.2.1 → ∀ w, w < 3 → S'.2.2.2 a w = S.2.2.2 a w)
/-- the earlier systems: h i for i < n, then the system itself -/
def hs (n : Nat) (h : Nat → sy) (S : sy) (i : Nat) : sy := if i < n then h i else S
def XA (m : pj_M) (S : sy) (A : Nat × (Nat → sy)) : Prop := m.1 17 1 = nI A.1 ∧ ∀ i, i < A.1 → LG (fun k => m.1 18 (5 * i + k)) (hs A.1 A.2 S (i + 1)) (A.2 i)
def MA (m : pj_M) (A : Nat × (Nat → sy)) : Prop := m.1 72 16 = nI A.1 ∧ ∀ i, i < A.1 → MN m 80 (72 * i) (A.2 i)
def wfI (I : Nat → Option sy) : Prop := ∀ j S, I j = some S → wfS S ∧ 0 < S.1
def WF (σ : sg) : Prop := wfR σ.1 ∧ wfT σ.2.2.1 ∧ wfS σ.2.2.2.2.1 ∧ (σ.2.2.2.2.2.1.1 ≤ 20 ∧ ∀ i, i < σ.2.2.2.2.2.1.1 → wfS (σ.2.2.2.2.2.1.2 i)) ∧ wfI σ.2.2.2.2.2.2.1
/-- X but for its caches -/
def xR0 (m : pj_M) (σ : sg) : Prop := XR m σ.1 ∧ m.1 0 13 = σ.2.1 ∧ XT m σ.2.2.1 ∧ m.1 0 12 = σ.2.2.2.1 ∧ XN m 7 σ.2.2.2.2.1 ∧ XA m σ.2.2.2.2.1 σ.2.2.2.2.2.1 ∧ Xim m σ.2.2.2.2.2.2.1 ∧ Xtr m σ.2.2.2.2.2.2.2
/-- X's caches: over the net -/
def XK (m : pj_M) (v : Nat) (S : sy) : Prop := m.1 7 4 = nI v ∧ sn (m.1 20 2) v (GT m 21 (go S) ∧ GT m 22 (cl S)) ∧ (∀ q, q < 4 → m.1 (24 + 3 * q) 0 = nI q ∧ sn (m.1 (24 + 3 * q) 6) v (PT m (24 + 3 * q) S q)) ∧ ∀ q, q < 2 → m.1 (64 + 4 * q) 0 = nI q ∧ sn (m.1 (64 + 4 * q) 4) v (TT m (64 + 4 * q) S q)
/-- over the trial: marks alone -/
def XJ (m : pj_M) (v : Nat) : Prop := m.1 13 4 = nI v ∧ sn (m.1 37 2) v True ∧ ∀ q, q < 4 → m.1 (41 + 3 * q) 0 = nI q ∧ sn (m.1 (41 + 3 * q) 6) v True
def xR (c : Nat) (m : pj_M) (σ : sg) : Prop := xR0 m σ ∧ (∃ v, v ≤ 100 * c ∧ XK m v σ.2.2.2.2.1) ∧ ∃ v, v ≤ 100 * c ∧ XJ m v
def mR (m : pj_M) (σ : sg) : Prop := MR m σ.1 ∧ m.1 72 4 = σ.2.1 ∧ MT m σ.2.2.1 ∧ m.1 72 7 = σ.2.2.2.1 ∧ MN m 78 0 σ.2.2.2.2.1 ∧ MA m σ.2.2.2.2.2.1 ∧ Mim m σ.2.2.2.2.2.2.1 ∧ Mtr m σ.2.2.2.2.2.2.2
def hi (m m' : pj_M) : Prop := ∀ a, 72 ≤ a → m'.1 a = m.1 a ∧ m'.2 a = m.2 a
def lo (m m' : pj_M) : Prop := ∀ a, a < 72 → m'.1 a = m.1 a ∧ m'.2 a = m.2 a
theorem hi.rf (m : pj_M) : hi m m := fun _ _ => ⟨rfl, rfl⟩
theorem lo.rf (m : pj_M) : lo m m := fun _ _ => ⟨rfl, rfl⟩
theorem hi.tr {m m1 m2 : pj_M} (h1 : hi m m1) (h2 : hi m1 m2) : hi m m2 := fun a ha => ⟨(h2 a ha).1.trans (h1 a ha).1, (h2 a ha).2.trans (h1 a ha).2⟩
theorem lo.tr {m m1 m2 : pj_M} (h1 : lo m m1) (h2 : lo m1 m2) : lo m m2 := fun a ha => ⟨(h2 a ha).1.trans (h1 a ha).1, (h2 a ha).2.trans (h1 a ha).2⟩
theorem fr.hi {l : List Nat} {m m' : pj_M} (h : fr l m m') (hl : (l.all fun a => decide (a < 72)) = true) : hi m m' := fun a ha => h a (fun h2 => by
  have := List.all_eq_true.mp hl a h2
  simp at this
  omega)
theorem fk.hi {l : List Nat} {p : List (Nat × Nat)} {m m' : pj_M} (h : fk l p m m') (hl : (l.all fun a => decide (a < 72)) = true) (hp : (p.all fun a => decide (a.1 < 72)) = true) : hi m m' := fun a ha => ⟨funext fun k => h.1 a k (fun h2 => by
  have := List.all_eq_true.mp hl a h2
  simp at this
  omega) (fun h2 => by
  have := List.all_eq_true.mp hp _ h2
  simp at this
  omega), h.2 a (fun h2 => by
  have := List.all_eq_true.mp hl a h2
  simp at this
  omega)⟩
theorem fk.lo {l : List Nat} {p : List (Nat × Nat)} {m m' : pj_M} (h : fk l p m m') (hl : (l.all fun a => decide (72 ≤ a)) = true) (hp : (p.all fun a => decide (72 ≤ a.1)) = true) : lo m m' := fun a ha => ⟨funext fun k => h.1 a k (fun h2 => by
  have := List.all_eq_true.mp hl a h2
  simp at this
  omega) (fun h2 => by
  have := List.all_eq_true.mp hp _ h2
  simp at this
  omega), h.2 a (fun h2 => by
  have := List.all_eq_true.mp hl a h2
  simp at this
  omega)⟩
theorem fr.fk {l : List Nat} {m m' : pj_M} (h : fr l m m') (p : List (Nat × Nat)) : fk l p m m' := ⟨fun a k ha _ => by rw [(h a ha).1], fun a ha => (h a ha).2⟩
/-- one call of both sides -/
def OK1 (fX fM : pj_M → Option (Int32 × pj_M)) (σ : sg) : Prop := ∃ r σ', WF σ' ∧ (∀ c m, c < 600 → xR c m σ → ∃ m', fX m = some (r, m') ∧ xR (c + 1) m' σ' ∧ hi m m') ∧ ∀ m, mR m σ → ∃ m', fM m = some (r, m') ∧ mR m' σ' ∧ lo m m'
def OK2 (fX fM : pj_M → Option (Int64 × pj_M)) (σ : sg) : Prop := ∃ r σ', WF σ' ∧ (∀ c m, c < 600 → xR c m σ → ∃ m', fX m = some (r, m') ∧ xR (c + 1) m' σ' ∧ hi m m') ∧ ∀ m, mR m σ → ∃ m', fM m = some (r, m') ∧ mR m' σ' ∧ lo m m'
theorem xR.up {c c' : Nat} {m : pj_M} {σ : sg} (h : xR c m σ) (hc : c ≤ c') : xR c' m σ := by
  obtain ⟨h0, ⟨v, hv, h1⟩, w, hw, h2⟩ := h
  exact ⟨h0, ⟨v, by omega, h1⟩, w, by omega, h2⟩
theorem ok_same {fX fM : pj_M → Option (Int32 × pj_M)} {σ : sg} {r : Int32} (hσ : WF σ) (hX : ∀ m, xR0 m σ → fX m = some (r, m)) (hM : ∀ m, mR m σ → fM m = some (r, m)) : OK1 fX fM σ :=
  ⟨r, σ, hσ, fun c m _ h => ⟨m, hX m h.1, h.up (by omega), hi.rf m⟩, fun m h => ⟨m, hM m h, h, lo.rf m⟩⟩
theorem ok_same2 {fX fM : pj_M → Option (Int64 × pj_M)} {σ : sg} {r : Int64} (hσ : WF σ) (hX : ∀ m, xR0 m σ → fX m = some (r, m)) (hM : ∀ m, mR m σ → fM m = some (r, m)) : OK2 fX fM σ :=
  ⟨r, σ, hσ, fun c m _ h => ⟨m, hX m h.1, h.up (by omega), hi.rf m⟩, fun m h => ⟨m, hM m h, h, lo.rf m⟩⟩
/-- frames -/
theorem XR.keep {m m' : pj_M} {ρ : sr} (h : XR m ρ) (e : ∀ a ∈ [2, 3, 4], m'.1 a = m.1 a) : XR m' ρ := by
  unfold XR
  rw [e 2 (by decide), e 3 (by decide), e 4 (by decide)]
  exact h
theorem MR.keep {m m' : pj_M} {ρ : sr} (h : MR m ρ) (e : ∀ a ∈ [73, 74, 75], m'.1 a = m.1 a) : MR m' ρ := by
  unfold MR
  rw [e 73 (by decide), e 74 (by decide), e 75 (by decide)]
  exact h
theorem Xim.keep {m m' : pj_M} {I : Nat → Option sy} (h : Xim m I) (e : ∀ a ∈ [58, 59, 60, 61, 62, 63], m'.1 a = m.1 a) : Xim m' I := by
  intro j hj
  have h1 := h j hj
  have hj' : j = 0 ∨ j = 1 := by omega
  rcases hj' with rfl | rfl
  · unfold XN at h1 ⊢
    rw [e (58 + 3 * 0) (by decide), e (58 + 3 * 0 + 1) (by decide), e (58 + 3 * 0 + 2) (by decide)]
    exact h1
  · unfold XN at h1 ⊢
    rw [e (58 + 3 * 1) (by decide), e (58 + 3 * 1 + 1) (by decide), e (58 + 3 * 1 + 2) (by decide)]
    exact h1
theorem Mim.keep {m m' : pj_M} {I : Nat → Option sy} (h : Mim m I) (e : ∀ a ∈ [81, 82], m'.1 a = m.1 a) : Mim m' I := by
  unfold Mim MN
  rw [e 81 (by decide), e 82 (by decide)]
  exact h
theorem XA.keep {m m' : pj_M} {S : sy} {A : Nat × (Nat → sy)} (h : XA m S A) (e : ∀ a ∈ [17, 18], m'.1 a = m.1 a) : XA m' S A := by
  unfold XA
  rw [e 17 (by decide), e 18 (by decide)]
  exact h
theorem xR0.keep {m m' : pj_M} {σ : sg} (h : xR0 m σ) (e : ∀ a ∈ [0, 2, 3, 4, 5, 6, 7, 8, 9, 17, 18, 56, 57, 58, 59, 60, 61, 62, 63], m'.1 a = m.1 a) : xR0 m' σ := by
  obtain ⟨h1, h2, h3, h4, h5, h6, h7, h8⟩ := h
  refine ⟨h1.keep (fun a ha => e a (by simp at ha ⊢; omega)), ?_, ?_, ?_, h5.keep (e 7 (by decide)) (e 8 (by decide)) (e 9 (by decide)), h6.keep (fun a ha => e a (by simp at ha ⊢; omega)), h7.keep (fun a ha => e a (by simp at ha ⊢; omega)), ?_⟩
  · rw [e 0 (by decide)]
    exact h2
  · unfold XT
    rw [e 5 (by decide), e 6 (by decide)]
    exact h3
  · rw [e 0 (by decide)]
    exact h4
  · unfold Xtr
    rw [e 56 (by decide), e 57 (by decide)]
    exact h8
theorem PT.keep {m m' : pj_M} {P q : Nat} {S : sy} (h : PT m P S q) (e0 : m'.1 P = m.1 P) (e1 : m'.1 (P + 1) = m.1 (P + 1)) (e2 : m'.2 (P + 2) = m.2 (P + 2)) : PT m' P S q := by
  unfold PT
  rw [e0, e1, e2]
  exact h
theorem TT.keep {m m' : pj_M} {Q q : Nat} {S : sy} (h : TT m Q S q) (e1 : m'.1 (Q + 1) = m.1 (Q + 1)) (e2 : m'.1 (Q + 2) = m.1 (Q + 2)) (e3 : m'.2 (Q + 3) = m.2 (Q + 3)) : TT m' Q S q := by
  unfold TT
  rw [e1, e2, e3]
  exact h
theorem sn.imp {x : Int32} {v : Nat} {V V' : Prop} (h : sn x v V) (hV : V → V') : sn x v V' := by
  rcases h with h | ⟨w, h1, h2, h3⟩
  · exact Or.inl h
  · exact Or.inr ⟨w, h1, h2, fun e => hV (h3 e)⟩
theorem sn.old {x : Int32} {v v' : Nat} {V V' : Prop} (h : sn x v V) (hv : v < v') : sn x v' V' := by
  rcases h with h | ⟨w, h1, h2, h3⟩
  · exact Or.inl h
  · exact Or.inr ⟨w, by omega, h2, fun e => by omega⟩
theorem sn.hit {x : Int32} {v : Nat} {V : Prop} (h : sn x v V) (hv : v < 2 ^ 31) (e : x = nI v) : V := by
  rcases h with h | ⟨w, h1, h2, h3⟩
  · rw [h] at e
    exact absurd e.symm (show ¬ nI v = -1 from of_eq_false (ne_1 hv))
  · exact h3 (hn_inj (by omega) hv (h2.symm.trans e))
theorem sn.new {v : Nat} {V : Prop} (h : V) : sn (nI v) v V := Or.inr ⟨v, Nat.le_refl _, rfl, fun _ => h⟩
