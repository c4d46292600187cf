/-- only scratch of the class has changed -/
def SC : Nat → Prop := fun x => 28 ≤ x ∧ x < 44
theorem Ex.sc {P : Nat → Nat → Prop} {S S' : St} (h : Ex P S S') (hP : ∀ x j, P x j → SC x) : Ch SC S S' := h.ch hP
