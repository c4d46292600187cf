theorem q_add (a b : Nat) : nI a + nI b = nI (a + b) := (Int32.ofNat_add a b).symm
theorem q_mul (a b : Nat) : nI a * nI b = nI (a * b) := (Int32.ofNat_mul a b).symm
theorem q_sub {a b : Nat} (h : b ≤ a) : nI a - nI b = nI (a - b) := (Int32.ofNat_sub a b h).symm
theorem q_int {a : Nat} (h : a < 2147483648) : (nI a).toInt = (a : Int) := nI_toInt h
theorem q_cl {a : Nat} (h : a < 2147483648) : (nI a).toNatClampNeg = a := nI_clamp h
theorem q_le {a b : Nat} (ha : a < 2147483648) (hb : b < 2147483648) : nI a ≤ nI b ↔ a ≤ b := by
  rw [Int32.le_iff_toInt_le, q_int ha, q_int hb]; omega
theorem q_lt {a b : Nat} (ha : a < 2147483648) (hb : b < 2147483648) : nI a < nI b ↔ a < b := by
  rw [Int32.lt_iff_toInt_lt, q_int ha, q_int hb]; omega
theorem q_eq {a b : Nat} (ha : a < 2147483648) (hb : b < 2147483648) : nI a = nI b ↔ a = b := by
  rw [← Int32.toInt_inj, q_int ha, q_int hb]; omega
theorem q_ex {x : Int32} {lo hi : Nat} (h1 : nI lo ≤ x) (h2 : x ≤ nI hi) (hh : hi < 2147483648) (hl : lo < 2147483648) : ∃ n : Nat, x = nI n ∧ lo ≤ n ∧ n ≤ hi := by
  rw [Int32.le_iff_toInt_le, q_int hl] at h1
  rw [Int32.le_iff_toInt_le, q_int hh] at h2
  refine ⟨x.toInt.toNat, ?_, by omega, by omega⟩
  rw [← Int32.toInt_inj, q_int (by omega)]
  omega
theorem ck_t {β : Type} {c : Prop} [Decidable c] (h : c) (o : Option β) : chk c o = o := if_pos h
theorem bnd_s {α β : Type} (a : α) (k : α → Option β) : bnd (some a) k = k a := rfl
theorem bnd2_s {α β : Type} (a : α) (S : St) (k : α → St → Option β) : bnd2 (some (a, S)) k = k a S := rfl
theorem vlt_s {α β : Type} (x : α) (k : α → Option β) : vlt x k = k x := rfl
theorem upI_n (S : St) (k j : Nat) (v : Int32) : (upI S k j v).2.2 = S.2.2 := rfl
theorem upR_n (S : St) (k j v : Nat) : (upR S k j v).2.2 = S.2.2 := rfl
theorem upI_r (S : St) (k j : Nat) (v : Int32) : (upI S k j v).2.1 = S.2.1 := rfl
theorem upR_i (S : St) (k j v : Nat) : (upR S k j v).1 = S.1 := rfl
theorem upI_at (S : St) (k j : Nat) (v : Int32) (a b : Nat) : (upI S k j v).1 a b = if a = k ∧ b = j then v else S.1 a b := rfl
theorem upR_at (S : St) (k j v a b : Nat) : (upR S k j v).2.1 a b = if a = k ∧ b = j then v else S.2.1 a b := rfl
theorem q_and (a b : Nat) : nI a &&& nI b = nI (a &&& b) := by
  apply Int32.toBitVec_inj.1
  show BitVec.ofNat 32 a &&& BitVec.ofNat 32 b = BitVec.ofNat 32 (a &&& b)
  apply BitVec.eq_of_getLsbD_eq
  intro i hi
  simp [hi]
theorem q_or (a b : Nat) : nI a ||| nI b = nI (a ||| b) := by
  apply Int32.toBitVec_inj.1
  show BitVec.ofNat 32 a ||| BitVec.ofNat 32 b = BitVec.ofNat 32 (a ||| b)
  apply BitVec.eq_of_getLsbD_eq
  intro i hi
  simp [hi]
theorem q_sl : ∀ n, n < 32 → ((nI n &&& 31).toBitVec.smod 32).toNat = n := by decide +kernel
theorem q_shl (a : Nat) {n : Nat} (hn : n < 32) : nI a <<< (nI n &&& 31) = nI (a <<< n) := by
  apply Int32.toBitVec_inj.1
  rw [Int32.toBitVec_shiftLeft]
  show (BitVec.ofNat 32 a) <<< ((nI n &&& 31).toBitVec.smod 32).toNat = BitVec.ofNat 32 (a <<< n)
  rw [q_sl n hn]
  apply BitVec.eq_of_getLsbD_eq
  intro i hi
  simp only [BitVec.getLsbD_shiftLeft, BitVec.getLsbD_ofNat, Nat.testBit_shiftLeft]
  by_cases h : i < n
  · simp [hi, h, Nat.not_le.mpr h]
  · have : i - n < 32 := by omega
    simp [hi, h, this, Nat.not_lt.mp h]
theorem q_shr {a n : Nat} (ha : a < 2147483648) (hn : n < 32) : nI a >>> (nI n &&& 31) = nI (a >>> n) := by
  apply Int32.toBitVec_inj.1
  rw [Int32.toBitVec_shiftRight]
  show (BitVec.ofNat 32 a).sshiftRight ((nI n &&& 31).toBitVec.smod 32).toNat = BitVec.ofNat 32 (a >>> n)
  rw [q_sl n hn]
  apply BitVec.eq_of_getLsbD_eq
  intro i hi
  have hm : (BitVec.ofNat 32 a).msb = false := by
    rw [BitVec.msb_eq_getLsbD_last, BitVec.getLsbD_ofNat]
    simp only [Nat.testBit_lt_two_pow (show a < 2 ^ 31 by omega), Bool.and_false]
  simp only [BitVec.getLsbD_sshiftRight, BitVec.getLsbD_ofNat, Nat.testBit_shiftRight, hm]
  by_cases h : n + i < 32
  · have h2 : ¬ 32 ≤ i := by omega
    simp [hi, h, h2]
  · have h3 : a.testBit (n + i) = false := Nat.testBit_lt_two_pow (Nat.lt_of_lt_of_le (show a < 2 ^ 32 by omega) (Nat.pow_le_pow_right (by omega) (by omega)))
    simp [hi, h, h3]
/-- a bit of a mask, as the code asks for it -/
theorem q_bit {a n : Nat} (ha : a < 2147483648) (hn : n < 32) : ((nI a >>> (nI n &&& 31)) &&& 1 = 1) = (a.testBit n = true) := by
  rw [q_shr ha hn]
  show (nI (a >>> n) &&& nI 1 = nI 1) = _
  rw [q_and, Nat.and_one_is_mod]
  have h : a >>> n % 2 < 2 := Nat.mod_lt _ (by omega)
  have e := q_eq (a := a >>> n % 2) (b := 1) (by omega) (by omega)
  rw [Nat.testBit_eq_decide_div_mod_eq, ← Nat.shiftRight_eq_div_pow, decide_eq_true_eq]
  exact propext e
/-- the mask of those below n that have P -/
def mk (P : Nat → Bool) : Nat → Nat
  | 0 => 0
  | n + 1 => mk P n ||| (if P n = true then 1 <<< n else 0)
theorem mk_lt (P : Nat → Bool) : ∀ n, mk P n < 2 ^ n
  | 0 => by simp [mk]
  | n + 1 => by
    have h := mk_lt P n
    unfold mk
    refine Nat.or_lt_two_pow (Nat.lt_of_lt_of_le h (Nat.pow_le_pow_right (by omega) (by omega))) ?_
    split
    · rw [Nat.one_shiftLeft]; exact Nat.pow_lt_pow_right (by omega) (by omega)
    · exact Nat.two_pow_pos _
theorem mk_bit (P : Nat → Bool) : ∀ n i, (mk P n).testBit i = (decide (i < n) && P i)
  | 0, i => by simp [mk]
  | n + 1, i => by
    unfold mk
    rw [Nat.testBit_or, mk_bit P n i]
    by_cases hi : i = n
    · subst hi
      by_cases hp : P i = true
      · rw [if_pos hp, hp, Nat.one_shiftLeft, Nat.testBit_two_pow_self]; simp
      · rw [if_neg hp, Nat.zero_testBit]
        have : P i = false := by simpa using hp
        simp [this]
    · have h2 : (if P n = true then 1 <<< n else 0).testBit i = false := by
        split
        · rw [Nat.one_shiftLeft, Nat.testBit_two_pow_of_ne (Ne.symm hi)]
        · exact Nat.zero_testBit _
      rw [h2, Bool.or_false]
      have : (i < n + 1) = (i < n) := by
        apply propext; omega
      simp only [this]
theorem mk_ext {P Q : Nat → Bool} {n : Nat} (h : ∀ i, i < n → P i = Q i) : mk P n = mk Q n := by
  apply Nat.eq_of_testBit_eq
  intro i
  rw [mk_bit, mk_bit]
  by_cases hi : i < n
  · rw [h i hi]
  · simp [hi]
