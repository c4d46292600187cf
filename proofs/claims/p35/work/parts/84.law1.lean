/-! THE LAW'S SMALL METHODS -/
theorem q_mod {a b : Nat} (ha : a < 2147483648) (hb : b < 2147483648) (h0 : 0 < b) : nI a - nI a / nI b * nI b = nI (a % b) := by
  have h1 : a / b * b ≤ a := Nat.div_mul_le_self a b
  rw [q_div ha hb, q_mul, q_sub h1]
  congr 1
  have h2 := Nat.div_add_mod a b
  rw [Nat.mul_comm b (a / b)] at h2
  omega
theorem e_Lhas {a n : Nat} (ha : a < 2147483648) (hn : n < 32) : f_L_has (nI a) (nI n) = some (if a.testBit n = true then 1 else 0) := by
  unfold f_L_has
  simp only [q_bit ha hn]
  by_cases h : a.testBit n = true
  · rw [if_pos h, if_pos h]
  · rw [if_neg h, if_neg h]
theorem e_Lbits {a : Nat} (ha : a < 2147483648) : f_L_bits (nI a) = some (nI (pc a 17)) := by
  unfold f_L_bits
  refine wl2_eq (kx := fun y => some y) (n := 17) (fun i => nI (pc a i)) 0 rfl rfl (by omega) (by omega) (fun i kk _ hi => ?_) (fun kk => ?_)
  · unfold f_L_bits_B4
    rw [if_neg (by rw [L17, q_le (by omega) (by omega)]; omega), q_bitv ha (by omega)]
    have e : nI (pc a i) + (if a.testBit i = true then (1 : Int32) else 0) = nI (pc a (i + 1)) := by
      show _ = nI (pc a i + if a.testBit i = true then 1 else 0)
      by_cases h : a.testBit i = true
      · rw [if_pos h, if_pos h, L1, q_add]
      · rw [if_neg h, if_neg h, L0, q_add]
    rw [e, L1, q_add]
  · unfold f_L_bits_B4
    rw [if_pos (by rw [L17]; exact Int32.le_refl _)]
theorem mk_id {a n : Nat} (h : a < 2 ^ n) : mk (fun i => a.testBit i) n = a := by
  apply Nat.eq_of_testBit_eq
  intro i
  rw [mk_bit]
  by_cases c : i < n
  · simp [c]
  · have : a.testBit i = false := Nat.testBit_lt_two_pow (Nat.lt_of_lt_of_le h (Nat.pow_le_pow_right (by omega) (by omega)))
    simp [c, this]
theorem pc_flip (a i : Nat) : ∀ n, pc (a ^^^ (1 <<< i)) n + (if i < n ∧ a.testBit i = true then 1 else 0) = pc a n + (if i < n ∧ a.testBit i = false then 1 else 0)
  | 0 => by
    rw [if_neg (by omega), if_neg (by omega)]
    rfl
  | n + 1 => by
    have ih := pc_flip a i n
    show pc (a ^^^ (1 <<< i)) n + (if (a ^^^ (1 <<< i)).testBit n = true then 1 else 0) + _ = pc a n + (if a.testBit n = true then 1 else 0) + _
    have e : (a ^^^ (1 <<< i)).testBit n = (a.testBit n ^^ decide (i = n)) := by
      rw [Nat.testBit_xor, Nat.one_shiftLeft, Nat.testBit_two_pow]
    rw [e]
    by_cases c : i = n
    · subst c
      rw [if_neg (by omega), if_neg (by omega)] at ih
      cases hb : a.testBit i <;> simp <;> omega
    · have e2 : (i < n + 1) = (i < n) := by
        apply propext
        omega
      simp only [e2]
      have e3 : decide (i = n) = false := by simp [c]
      rw [e3, Bool.xor_false]
      omega
section KC
variable {S : St} {w : Wf} {st : Nat} {h : Nat → Wf}
theorem e_Lblinded (k : Kc S w st h) : f_L_blinded S 4 = some (nI (blw w)) := by
  have hs := k.cs
  have hb := k.rn.2.2.2.2.2.1.2.2
  unfold f_L_blinded
  have e := wl2_eq (F := f_L_blinded_B4 S 4 (fun (y1_2 : Int32) => (some y1_2))) (kx := fun y => some y) (n := 10) (a0 := 0) (x0 := 0) (fun i => nI (mk (fun i => (blw w).testBit i) i)) 0 rfl rfl (by omega) (by omega) (fun i kk _ hi => by
    unfold f_L_blinded_B4
    rw [if_neg (by rw [L10, q_le (by omega) (by omega)]; omega), ck7 hs, k_rowOf k hi, bnd_s]
    have e : nI (mk (fun i => (blw w).testBit i) i) ||| ((if (blw w).testBit i = true then (1 : Int32) else 0) <<< (nI i &&& 31)) = nI (mk (fun i => (blw w).testBit i) (i + 1)) := by
      show _ = nI (mk (fun i => (blw w).testBit i) i ||| (if (blw w).testBit i = true then 1 <<< i else 0))
      by_cases h : (blw w).testBit i = true
      · rw [if_pos h, if_pos h, L1, q_shl 1 (by omega), q_or]
      · rw [if_neg h, if_neg h, L0, q_shl 0 (by omega), q_or, Nat.zero_shiftLeft]
    rw [e, L1, q_add]) (fun kk => by
    unfold f_L_blinded_B4
    rw [if_pos (by rw [L10]; exact Int32.le_refl _)])
  rw [e, mk_id (n := 10) (by omega)]
/-! turns -/
theorem wtur_8 {q : Nat} {b : Int32} (hq : q < 4) : tcw (wtur w q b) = tcw w := by
  unfold tcw wtur
  rw [if_neg (by omega), if_neg (by omega)]
theorem wtur_33 {q : Nat} {b : Int32} (hq : q < 4) : wtur w q b 33 = w 33 := by
  unfold wtur
  rw [if_neg (by omega), if_neg (by omega)]
theorem l_turns (k : Kc S w st h) {q : Nat} {b : Int32} (hq : q < tcw w) (hb : -200 ≤ b ∧ b ≤ 200) : ∃ S2, f_L_turns S 4 (nI q) b = some (1, S2) ∧ Kc S2 (wtur w q b) (hst st) (hps st h w) := by
  have hs := k.cs
  have t4 := k.rn.1.2.1
  obtain ⟨S2, g1, k2⟩ := k_turn k hq hb
  have s2 := k2.cs
  have hq2 : q < tcw (wtur w q b) := by rw [wtur_8 (by omega)]; exact hq
  refine ⟨S2, ?_, k2⟩
  have e1 : pl (wtur w q b) q (wtur w q b 33) = pl w q (w 33) := by
    rw [wtur_33 (by omega)]
    show wtur w q b (9 + 6 * q + 2) + wtur w q b (9 + 6 * q + 3) * w 33 = _
    unfold wtur
    rw [if_pos rfl, if_neg (by omega), if_pos rfl, Int32.sub_add_cancel]
  have e2 : wtur w q b (9 + 6 * q + 3) = b := by
    unfold wtur
    rw [if_neg (by omega), if_pos rfl]
  have e3 : wtur w q b (9 + 6 * q + 2) = pl w q (w 33) - b * wtur w q b 33 := by
    rw [wtur_33 (by omega)]
    unfold wtur
    rw [if_pos rfl]
  unfold f_L_turns
  rw [ck7 hs, k_thingOf6 k hq, bnd_s, ck7 hs, k_thingOf3 k hq, bnd_s, ck7 hs, k_thingOf2 k hq, bnd_s, ck7 hs, k_count2 k, bnd_s, if_pos (show pl w q (w 33) = w (9 + 6 * q + 2) + w (9 + 6 * q + 3) * w 33 from rfl), ck7 hs, g1, bnd2_s, if_pos rfl]
  unfold f_L_turns_J51
  rw [if_neg (by decide), ck7 s2, k_thingOf6 k2 hq2, bnd_s, if_pos e1, ck7 s2, k_thingOf3 k2 hq2, bnd_s, if_pos e2, ck7 s2, k_thingOf2 k2 hq2, bnd_s, ck7 s2, k_count2 k2, bnd_s, if_pos e3]
/-! blinds -/
theorem upw_34 {x : Nat} (hx : x < 2147483648) : blw (upw w 34 (nI x)) = x := by
  unfold blw upw
  rw [if_pos rfl, q_cl hx]
theorem l_blinds (k : Kc S w st h) {r : Nat} (hr : r < 10) : ∃ S2, f_L_blinds S 4 (nI r) = some (1, S2) ∧ Kc S2 (upw w 34 (nI (blw w ^^^ (1 <<< r)))) (hst st) (hps st h w) := by
  have hs := k.cs
  have hb := k.rn.2.2.2.2.2.1.2.2
  have hx : blw w ^^^ (1 <<< r) < 1024 := by
    refine Nat.xor_lt_two_pow (n := 10) hb ?_
    rw [Nat.one_shiftLeft]
    exact Nat.pow_lt_pow_right (by omega) (by omega)
  have pf := pc_flip (blw w) r 17
  have ple := pc_le (blw w) 17
  have tail : ∀ (S2 : St) (is : Int32), Kc S2 (upw w 34 (nI (blw w ^^^ (1 <<< r)))) (hst st) (hps st h w) → (if (blw w ^^^ (1 <<< r)).testBit r = true then (1 : Int32) else 0) = 1 - is → f_L_blinds_J47 S2 4 (nI r) is 1 = some (1, S2) := by
    intro S2 is k2 hbit
    have s2 := k2.cs
    have e2 := upw_34 (w := w) (show blw w ^^^ (1 <<< r) < 2147483648 by omega)
    unfold f_L_blinds_J47
    rw [if_neg (by decide), ck7 s2, k_rowOf k2 hr, bnd_s, e2, if_pos hbit, ck7 s2, k_count3 k2, bnd_s, e_Lblinded k2, bnd_s, e2, e_Lbits (by omega), bnd_s, if_pos rfl]
  have etb : (blw w ^^^ (1 <<< r)).testBit r = !((blw w).testBit r) := by
    rw [Nat.testBit_xor, Nat.one_shiftLeft, Nat.testBit_two_pow]
    simp
  unfold f_L_blinds
  by_cases z : (blw w).testBit r = true
  · have n1 := k_blindNo k hr (n := 1) (by omega) (by rw [if_pos z]; rfl)
    obtain ⟨S2, g1, k2⟩ := k_blind k hr (n := 0) (by omega) (by rw [if_pos z]; decide)
    have n1' : f_X7_blind S 4 (nI r) 1 = some (-10000002, S) := n1
    have g1' : f_X7_blind S 4 (nI r) (1 - 1) = some (nI (pc (blw w ^^^ (1 <<< r)) 17), S2) := g1
    refine ⟨S2, ?_, k2⟩
    rw [if_pos ⟨by omega, z⟩, if_neg (by rw [z]; simp)] at pf
    rw [ck7 hs, k_rowOf k hr, bnd_s, if_pos z, ck7 hs, k_count3 k, bnd_s, ck7 hs, n1', bnd2_s, if_pos rfl, ck7 hs, g1', bnd2_s, if_pos (by
      rw [show (2 : Int32) * 1 = nI 2 from rfl, L1, q_add, q_sub (by omega)]
      congr 1
      omega)]
    exact tail S2 1 k2 (by rw [etb, z]; rfl)
  · have n1 := k_blindNo k hr (n := 0) (by omega) (by rw [if_neg z]; rfl)
    obtain ⟨S2, g1, k2⟩ := k_blind k hr (n := 1) (by omega) (by rw [if_neg z]; decide)
    have n1' : f_X7_blind S 4 (nI r) 0 = some (-10000002, S) := n1
    have g1' : f_X7_blind S 4 (nI r) (1 - 0) = some (nI (pc (blw w ^^^ (1 <<< r)) 17), S2) := g1
    have z' : (blw w).testBit r = false := by simpa using z
    refine ⟨S2, ?_, k2⟩
    rw [if_neg (fun q => z q.2), if_pos ⟨by omega, z'⟩] at pf
    rw [ck7 hs, k_rowOf k hr, bnd_s, if_neg z, ck7 hs, k_count3 k, bnd_s, ck7 hs, n1', bnd2_s, if_pos rfl, ck7 hs, g1', bnd2_s, if_pos (by
      rw [show (2 : Int32) * 0 = nI 0 from rfl, L1, q_add, q_sub (by omega)]
      congr 1)]
    exact tail S2 0 k2 (by rw [etb, z']; rfl)
end KC
/-! the script -/
theorem q_pos31 (x : Int32) : ∃ c, c < 2147483648 ∧ x &&& 2147483647 = nI c := by
  have e1 : ∀ v : BitVec 32, (0 ≤ v.toInt) ↔ v.msb = false := by
    intro v
    rw [BitVec.msb_eq_toInt]
    simp
  have h0 : (0 : Int32) ≤ x &&& 2147483647 := by
    rw [Int32.le_iff_toInt_le]
    show (0 : Int) ≤ (x &&& 2147483647).toBitVec.toInt
    rw [e1, Int32.toBitVec_and, BitVec.msb_and]
    have e3 : (2147483647 : Int32).toBitVec.msb = false := by decide
    rw [e3, Bool.and_false]
  have h1 : x &&& 2147483647 ≤ nI 2147483647 := by
    rw [Int32.le_iff_toInt_le, q_int (by omega)]
    have := Int32.toInt_lt (x &&& 2147483647)
    omega
  obtain ⟨n, a, b, c⟩ := q_ex (lo := 0) (hi := 2147483647) h0 h1 (by decide) (by decide)
  exact ⟨n, by omega, a⟩
theorem e_Lcell (g : GG) (S : St) (hL : gl g ≤ 260) {j : Nat} (hj : j < 1000) : ∃ c, c < 2147483648 ∧ f_L_cell g S (nI j) = some (nI c) := by
  unfold f_L_cell
  by_cases h : gl g ≤ j
  · obtain ⟨c, h1, h2⟩ := q_pos31 (16807 * (nI j + 13))
    refine ⟨c, h1, ?_⟩
    rw [if_pos (show Int32.ofNat (gl g) ≤ nI j by show nI (gl g) ≤ nI j; rw [q_le (by omega) (by omega)]; exact h), h2]
  · obtain ⟨c, h1, h2⟩ := q_pos31 (gx g (nI j).toNatClampNeg)
    refine ⟨c, h1, ?_⟩
    rw [if_neg (show ¬ Int32.ofNat (gl g) ≤ nI j by show ¬ nI (gl g) ≤ nI j; rw [q_le (by omega) (by omega)]; exact h), ck_t ⟨by rw [L0, q_le (by omega) (by omega)]; omega, by rw [q_cl (by omega)]; omega⟩, h2]
