theorem q_andn {a b : Nat} (ha : a < 2147483648) : nI a &&& (nI b ^^^ (-1)) = nI (mk (fun i => a.testBit i && !(b.testBit i)) 31) := by
  apply Int32.toBitVec_inj.1
  show BitVec.ofNat 32 a &&& (BitVec.ofNat 32 b ^^^ BitVec.allOnes 32) = BitVec.ofNat 32 (mk (fun i => a.testBit i && !(b.testBit i)) 31)
  apply BitVec.eq_of_getLsbD_eq
  intro i hi
  simp only [BitVec.getLsbD_and, BitVec.getLsbD_xor, BitVec.getLsbD_ofNat, BitVec.getLsbD_allOnes, mk_bit, hi, decide_true, Bool.true_and]
  by_cases c : i < 31
  · simp [c]
  · have z : a.testBit i = false := Nat.testBit_lt_two_pow (Nat.lt_of_lt_of_le ha (show 2 ^ 31 ≤ 2 ^ i from Nat.pow_le_pow_right (by omega) (by omega)))
    simp [z]
