/-! PART 32: the abstract state, and what each side's memory says of it -/
/-- states, kinds, arcs, (arc, 0 letter 1 from 2 to) -/
abbrev sy : Type := Nat × (Nat → Nat) × Nat × (Nat → Nat → Nat)
/-- rows: lane, length, items -/
abbrev sr : Type := Nat → Option (Nat × Nat × (Nat → Int32))
/-- rows, status, tape, fault, system, acts, images, trace -/
abbrev sg : Type := sr × Int32 × (Nat × (Nat → Int32)) × Int32 × sy × (Nat × (Nat → sy)) × (Nat → Option sy) × (Nat × (Nat → Int32))
def wfS (S : sy) : Prop := S.1 ≤ 10 ∧ S.2.2.1 ≤ 20 ∧ (∀ s, s < S.1 → 1 ≤ S.2.1 s ∧ S.2.1 s ≤ 5) ∧ ∀ a, a < S.2.2.1 → S.2.2.2 a 0 < 4 ∧ S.2.2.2 a 1 < S.1 ∧ S.2.2.2 a 2 < S.1
def wfR (ρ : sr) : Prop := ∀ r l L f, ρ r = some (l, L, f) → l < 3 ∧ L ≤ 40
/-- X: rows -/
def XR (m : pj_M) (ρ : sr) : Prop := ∀ r, r < 8 → match ρ r with
  | none => m.1 2 r = -1
  | some (l, L, f) => l < 3 ∧ L ≤ 40 ∧ m.1 2 r = nI l ∧ m.1 3 r = nI L ∧ ∀ i, i < L → m.1 4 (40 * r + i) = f i
def MR (m : pj_M) (ρ : sr) : Prop := ∀ r, r < 8 → match ρ r with
  | none => m.1 73 r = -1000000
  | some (l, L, f) => l < 3 ∧ L ≤ 40 ∧ m.1 73 r = nI l ∧ m.1 74 r = nI L ∧ ∀ i, i < L → m.1 75 (40 * r + i) = f i
/-- a net of X at cell b -/
def XN (m : pj_M) (b : Nat) (S : sy) : Prop := m.1 b 2 = nI S.1 ∧ m.1 b 3 = nI S.2.2.1 ∧ (∀ s, s < S.1 → m.1 (b + 1) s = nI (S.2.1 s)) ∧ ∀ a, a < S.2.2.1 → ∀ w, w < 3 → m.1 (b + 2) (20 * w + a) = nI (S.2.2.2 a w)
/-- a system of the reference in cell A from place o on -/
def MN (m : pj_M) (A o : Nat) (S : sy) : Prop := m.1 A o = nI S.1 ∧ m.1 A (o + 1) = nI S.2.2.1 ∧ (∀ s, s < S.1 → m.1 A (o + 2 + s) = nI (S.2.1 s)) ∧ ∀ a, a < S.2.2.1 → ∀ w, w < 3 → m.1 A (o + 12 + 3 * a + w) = nI (S.2.2.2 a w)
/-- X: the tape; the reference's -/
def XT (m : pj_M) (t : Nat × (Nat → Int32)) : Prop := m.1 5 1 = nI t.1 ∧ ∀ i, i < t.1 → m.1 6 i = t.2 i
def MT (m : pj_M) (t : Nat × (Nat → Int32)) : Prop := m.1 72 6 = nI t.1 ∧ ∀ i, i < t.1 → m.1 77 i = t.2 i
def wfT (t : Nat × (Nat → Int32)) : Prop := t.1 ≤ 140 ∧ ∀ i, i < t.1 → ∃ b, b < 256 ∧ t.2 i = nI b
/-- the trace -/
def Xtr (m : pj_M) (t : Nat × (Nat → Int32)) : Prop := t.1 ≤ 16 ∧ m.1 56 1 = nI t.1 ∧ ∀ i, i < t.1 → m.1 57 i = t.2 i
def Mtr (m : pj_M) (t : Nat × (Nat → Int32)) : Prop := t.1 ≤ 16 ∧ m.1 72 32 = nI t.1 ∧ ∀ i, i < t.1 → m.1 94 i = t.2 i
/-- images -/
def Xim (m : pj_M) (im : Nat → Option sy) : Prop := ∀ j, j < 2 → match im j with
  | none => m.1 (58 + 3 * j) 2 = 0
  | some S => 0 < S.1 ∧ wfS S ∧ XN m (58 + 3 * j) S
def Mim (m : pj_M) (im : Nat → Option sy) : Prop := ∀ j, j < 2 → match im j with
  | none => m.1 82 j = 0
  | some S => m.1 82 j = 1 ∧ MN m 81 (72 * j) S
