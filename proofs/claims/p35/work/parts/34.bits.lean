theorem q_ushr {k j : Nat} (hk : k < 2147483648) (hj : j < 32) : ((nI k).toUInt32 >>> ((nI j).toUInt32 &&& Int32.toUInt32 31)).toInt32 = nI (k >>> j) := by
  have hs : k >>> j ≤ k := by
    rw [Nat.shiftRight_eq_div_pow]
    exact Nat.div_le_self _ _
  have hc : ∀ j : Fin 32, (UInt32.ofNat j.val &&& Int32.toUInt32 31).toNat % 32 = j.val := by decide +kernel
  have e2 : UInt32.ofNat k >>> (UInt32.ofNat j &&& Int32.toUInt32 31) = UInt32.ofNat (k >>> j) := by
    apply UInt32.toNat_inj.1
    have h1 : (UInt32.ofNat k).toNat = k := Nat.mod_eq_of_lt (by omega)
    have h2 : (UInt32.ofNat (k >>> j)).toNat = k >>> j := Nat.mod_eq_of_lt (by omega)
    rw [UInt32.toNat_shiftRight, hc ⟨j, hj⟩, h1, h2]
  show (UInt32.ofNat k >>> (UInt32.ofNat j &&& Int32.toUInt32 31)).toInt32 = _
  rw [e2]
  rfl
/-- Integer.bitCount over Nat -/
def swA (a : Nat) : Nat := a - ((a >>> 1) &&& 1431655765)
def swB (a : Nat) : Nat := (a &&& 858993459) + ((a >>> 2) &&& 858993459)
def swC (a : Nat) : Nat := (a + (a >>> 4)) &&& 252645135
def swD (a : Nat) : Nat := a + (a >>> 8)
def swE (a : Nat) : Nat := (a + (a >>> 16)) &&& 63
def sw (a : Nat) : Nat := swE (swD (swC (swB (swA a))))
def sum16 (a : Nat) : Nat := a % 2 + a / 2 % 2 + a / 4 % 2 + a / 8 % 2 + a / 16 % 2 + a / 32 % 2 + a / 64 % 2 + a / 128 % 2 + a / 256 % 2 + a / 512 % 2 + a / 1024 % 2 + a / 2048 % 2 + a / 4096 % 2 + a / 8192 % 2 + a / 16384 % 2 + a / 32768 % 2
def allB (p : Nat → Bool) : Nat → Bool
  | 0 => true
  | n + 1 => p n && allB p n
theorem allB_at {p : Nat → Bool} : ∀ {n : Nat}, allB p n = true → ∀ i, i < n → p i = true
  | 0, _, i, hi => by omega
  | n + 1, h, i, hi => by
    have h' : (p n && allB p n) = true := h
    simp only [Bool.and_eq_true] at h'
    by_cases e : i = n
    · rw [e]; exact h'.1
    · exact allB_at h'.2 i (by omega)
theorem sw_all : allB (fun x => allB (fun y => Nat.beq (sw (256 * x + y)) (sum16 (256 * x + y))) 256) 256 = true := by decide +kernel
theorem sw_sum {a : Nat} (h : a < 65536) : sw a = sum16 a := by
  have h1 := allB_at (allB_at sw_all (a / 256) (by omega)) (a % 256) (by omega)
  have e : 256 * (a / 256) + a % 256 = a := by omega
  simp only [e] at h1
  exact Nat.eq_of_beq_eq_true h1
theorem bit_mod (a i : Nat) : (if a.testBit i = true then 1 else 0) = a / 2 ^ i % 2 := by
  rw [Nat.testBit_eq_decide_div_mod_eq]
  rcases Nat.mod_two_eq_zero_or_one (a / 2 ^ i) with h | h <;> simp [h]
theorem pc_sum {a : Nat} (h : a < 65536) : pc a 17 = sum16 a := by
  have e16 : a / 2 ^ 16 = 0 := Nat.div_eq_of_lt (by omega)
  unfold sum16
  simp only [pc, bit_mod, e16]
  simp
theorem e_bitCount {a : Nat} (h : a < 65536) : f_J6_bitCount_0f7a4 (nI a) = some (nI (pc a 17)) := by
  rw [pc_sum h, ← sw_sum h]
  have hA : swA a ≤ a := Nat.sub_le _ _
  have hB : swB (swA a) ≤ 1717986918 := by
    unfold swB
    have h1 : swA a &&& 858993459 ≤ 858993459 := Nat.and_le_right
    have h2 : (swA a >>> 2) &&& 858993459 ≤ 858993459 := Nat.and_le_right
    omega
  have hC : swC (swB (swA a)) ≤ 252645135 := Nat.and_le_right
  have hC8 : swC (swB (swA a)) >>> 8 ≤ swC (swB (swA a)) := by rw [Nat.shiftRight_eq_div_pow]; exact Nat.div_le_self _ _
  have hD : swD (swC (swB (swA a))) ≤ 505290270 := by unfold swD; omega
  have s1 : (a >>> 1) &&& 1431655765 ≤ a := Nat.le_trans Nat.and_le_left (by rw [Nat.shiftRight_eq_div_pow]; exact Nat.div_le_self _ _)
  unfold f_J6_bitCount_0f7a4
  simp only [vlt_s]
  have a1 : nI a - (((nI a).toUInt32 >>> ((1 : Int32).toUInt32 &&& Int32.toUInt32 31)).toInt32 &&& 1431655765) = nI (swA a) := by
    show nI a - (((nI a).toUInt32 >>> ((nI 1).toUInt32 &&& Int32.toUInt32 31)).toInt32 &&& nI 1431655765) = nI (swA a)
    rw [q_ushr (by omega) (by omega), q_and, q_sub s1]
    rfl
  rw [a1]
  have a2 : (nI (swA a) &&& 858993459) + (((nI (swA a)).toUInt32 >>> ((2 : Int32).toUInt32 &&& Int32.toUInt32 31)).toInt32 &&& 858993459) = nI (swB (swA a)) := by
    show (nI (swA a) &&& nI 858993459) + (((nI (swA a)).toUInt32 >>> ((nI 2).toUInt32 &&& Int32.toUInt32 31)).toInt32 &&& nI 858993459) = nI (swB (swA a))
    rw [q_ushr (by omega) (by omega), q_and, q_and, q_add]
    rfl
  rw [a2]
  have a3 : (nI (swB (swA a)) + ((nI (swB (swA a))).toUInt32 >>> ((4 : Int32).toUInt32 &&& Int32.toUInt32 31)).toInt32) &&& 252645135 = nI (swC (swB (swA a))) := by
    show (nI (swB (swA a)) + ((nI (swB (swA a))).toUInt32 >>> ((nI 4).toUInt32 &&& Int32.toUInt32 31)).toInt32) &&& nI 252645135 = nI (swC (swB (swA a)))
    rw [q_ushr (by omega) (by omega), q_add, q_and]
    rfl
  rw [a3]
  have a4 : nI (swC (swB (swA a))) + ((nI (swC (swB (swA a)))).toUInt32 >>> ((8 : Int32).toUInt32 &&& Int32.toUInt32 31)).toInt32 = nI (swD (swC (swB (swA a)))) := by
    show nI (swC (swB (swA a))) + ((nI (swC (swB (swA a)))).toUInt32 >>> ((nI 8).toUInt32 &&& Int32.toUInt32 31)).toInt32 = nI (swD (swC (swB (swA a))))
    rw [q_ushr (by omega) (by omega), q_add]
    rfl
  rw [a4]
  have a5 : (nI (swD (swC (swB (swA a)))) + ((nI (swD (swC (swB (swA a))))).toUInt32 >>> ((16 : Int32).toUInt32 &&& Int32.toUInt32 31)).toInt32) &&& 63 = nI (sw a) := by
    show (nI (swD (swC (swB (swA a)))) + ((nI (swD (swC (swB (swA a))))).toUInt32 >>> ((nI 16).toUInt32 &&& Int32.toUInt32 31)).toInt32) &&& nI 63 = nI (sw a)
    rw [q_ushr (by omega) (by omega), q_add, q_and]
    rfl
  rw [a5]

