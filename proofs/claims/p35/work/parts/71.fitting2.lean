def fitD (w : Wf) (tc C f fb : Nat) (r : Nat) : Bool := !(fb.testBit r) && fit1 w w tc C f r (fv1 w f 0 + nI r * w 2)
