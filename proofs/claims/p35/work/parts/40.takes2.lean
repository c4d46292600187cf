theorem Ex.upa {S S' : St} {a j : Nat} {v : Int32} (h : Ex (fun x _ => x = a) S S') : Ex (fun x _ => x = a) S (upI S' a j v) := h.tr (Ex.up rfl)
/-- a row of numbers behind a frame taken as the fc-th -/
def Tk (w w' : Wf) (R C tc fc : Nat) : Prop := w' 36 = nI (fc + 1) ∧ w' 35 = w 35 + 1 ∧ w' (37 + 162 * fc) = w 33 ∧ w' (38 + 162 * fc) = w 34 ∧ (∀ r, r < R → ∀ c, c < C → w' (39 + 162 * fc + 16 * r + c) = sh w tc r c (w 33 + nI r * w 2)) ∧ ∀ j, j < 867 → j ≠ 35 → j ≠ 36 → (j < 37 + 162 * fc ∨ 199 + 162 * fc ≤ j) → w' j = w j
