/-- whether all rows of all frames fit another row of numbers -/
def afit (w v : Wf) (tc fc R C : Nat) : Bool := allR (fun f => allR (fun r => (fbo w f).testBit r || fit1 w v tc C f r (fv1 w f 0 + nI r * w 2)) R) fc
theorem RNfrb {S : St} {tc fc bl R C : Nat} {w : Wf} {k : Nat} (hn : RN S k w tc fc bl R C) : ∀ f, f < fc → ∃ fb, fb < 1024 ∧ fv1 w f 1 = nI fb := fun f hf => by
  obtain ⟨y1, fb, y2, y3, y4, y5⟩ := hn.2.2.2.2.2.2.2.2.1 f hf
  refine ⟨fb, y2, ?_⟩
  unfold fv1
  rw [show 37 + 162 * f + 1 = 38 + 162 * f by omega]
  exact y3
