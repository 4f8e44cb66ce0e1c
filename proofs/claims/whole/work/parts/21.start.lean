/-! PART 21: the two constructors run; the first memory; the law from its entry, over its loop. Written by wip/whole/gen/genstart.py -/
def hs_a : List pc_E := [.inl (10, [.inr none, .inr none, .inr none, .inr none, .inr none, .inr none, .inr none, .inr none, .inr none, .inr none, .inr none, .inr none, .inl 0, .inl 0])]
def hs_m : pc_E := .inl (11, [.inr none, .inr none, .inr none, .inr none, .inl 0, .inr none, .inl 0, .inl 0, .inl 0, .inl 0, .inl 0, .inl 0, .inl 0, .inr none, .inr none, .inr none, .inl 0, .inr none, .inr none, .inr none, .inr none, .inr none, .inr none, .inl 0, .inr none, .inr none, .inr none, .inr none, .inr none, .inr none, .inr none, .inr none, .inl 0])
def hs_r1 : List pc_E × Nat × Nat := (ctor_X10_init [.inr (some 0)] hs_a).getD ([], 0, 0)
theorem hs_some {α : Type} {x : Option α} {d : α} (h : x.isSome = true) : x = some (x.getD d) := by
  cases x with
  | none => cases h
  | some a => rfl
set_option maxRecDepth 100000 in
theorem ev_1 : ctor_X10_init [.inr (some 0)] hs_a = some hs_r1 := hs_some (by decide +kernel)
set_option maxRecDepth 100000 in
theorem ev_1l : hs_r1.1.length = 72 := by decide +kernel
