theorem b01 {p : Prop} [Decidable p] : ((if p then (1 : Int32) else 0) = 0) = ¬ p := by
  by_cases h : p <;> simp [h]
theorem b01' {p : Prop} [Decidable p] : ((if p then (1 : Int32) else 0) = 1) = p := by
  by_cases h : p <;> simp [h]
theorem z01 {p : Prop} [Decidable p] : ((if p then (1 : Int32) else 0) = 0 ∨ (if p then (1 : Int32) else 0) = 1) = True := by
  by_cases h : p <;> simp [h]
theorem q_xor (a b : Nat) : nI a ^^^ nI b = nI (a ^^^ b) := by
  apply Int32.toBitVec_inj.1
  show BitVec.ofNat 32 a ^^^ BitVec.ofNat 32 b = BitVec.ofNat 32 (a ^^^ b)
  apply BitVec.eq_of_getLsbD_eq
  intro i hi
  simp [hi]
theorem q_bitv {a n : Nat} (ha : a < 2147483648) (hn : n < 32) : (nI a >>> (nI n &&& 31)) &&& 1 = if a.testBit n = true then 1 else 0 := by
  rw [q_shr ha hn]
  show nI (a >>> n) &&& nI 1 = _
  rw [q_and, Nat.and_one_is_mod, Nat.testBit_eq_decide_div_mod_eq, ← Nat.shiftRight_eq_div_pow]
  rcases Nat.mod_two_eq_zero_or_one (a >>> n) with h | h <;> rw [h] <;> rfl
theorem FU_ge {n : Nat} (h : n ≤ 1000000) : ∃ k, FU = n + k := ⟨1000000 - n, by show 1000000 = _; omega⟩

theorem L8 : (8 : Int32) = nI 8 := rfl
theorem L9 : (9 : Int32) = nI 9 := rfl
theorem L10 : (10 : Int32) = nI 10 := rfl
theorem L11 : (11 : Int32) = nI 11 := rfl
theorem L12 : (12 : Int32) = nI 12 := rfl
theorem L13 : (13 : Int32) = nI 13 := rfl
theorem L14 : (14 : Int32) = nI 14 := rfl
theorem L15 : (15 : Int32) = nI 15 := rfl
theorem L17 : (17 : Int32) = nI 17 := rfl
theorem L19 : (19 : Int32) = nI 19 := rfl
theorem L21 : (21 : Int32) = nI 21 := rfl
theorem L31 : (31 : Int32) = nI 31 := rfl
theorem L32 : (32 : Int32) = nI 32 := rfl
theorem L34 : (34 : Int32) = nI 34 := rfl
theorem L35 : (35 : Int32) = nI 35 := rfl
theorem L36 : (36 : Int32) = nI 36 := rfl
theorem L37 : (37 : Int32) = nI 37 := rfl
theorem L40 : (40 : Int32) = nI 40 := rfl
theorem L41 : (41 : Int32) = nI 41 := rfl
theorem L44 : (44 : Int32) = nI 44 := rfl
theorem L45 : (45 : Int32) = nI 45 := rfl
theorem L47 : (47 : Int32) = nI 47 := rfl
theorem L48 : (48 : Int32) = nI 48 := rfl
theorem L49 : (49 : Int32) = nI 49 := rfl
theorem L50 : (50 : Int32) = nI 50 := rfl
theorem L57 : (57 : Int32) = nI 57 := rfl
theorem L59 : (59 : Int32) = nI 59 := rfl
theorem L80 : (80 : Int32) = nI 80 := rfl
theorem L98 : (98 : Int32) = nI 98 := rfl
theorem L101 : (101 : Int32) = nI 101 := rfl
theorem L103 : (103 : Int32) = nI 103 := rfl
theorem L115 : (115 : Int32) = nI 115 := rfl
theorem L116 : (116 : Int32) = nI 116 := rfl
theorem L117 : (117 : Int32) = nI 117 := rfl
theorem L126 : (126 : Int32) = nI 126 := rfl
theorem L162 : (162 : Int32) = nI 162 := rfl
theorem L200 : (200 : Int32) = nI 200 := rfl
theorem L255 : (255 : Int32) = nI 255 := rfl
theorem L867 : (867 : Int32) = nI 867 := rfl
theorem L1600 : (1600 : Int32) = nI 1600 := rfl
theorem L2400 : (2400 : Int32) = nI 2400 := rfl
theorem L2401 : (2401 : Int32) = nI 2401 := rfl
theorem L2601 : (2601 : Int32) = nI 2601 := rfl
theorem C0 : (0 : Int32).toNatClampNeg = 0 := rfl
theorem C1 : (1 : Int32).toNatClampNeg = 1 := rfl
theorem C2 : (2 : Int32).toNatClampNeg = 2 := rfl
theorem C3 : (3 : Int32).toNatClampNeg = 3 := rfl
theorem C4 : (4 : Int32).toNatClampNeg = 4 := rfl
theorem C5 : (5 : Int32).toNatClampNeg = 5 := rfl
theorem C6 : (6 : Int32).toNatClampNeg = 6 := rfl
theorem C7 : (7 : Int32).toNatClampNeg = 7 := rfl
theorem C8 : (8 : Int32).toNatClampNeg = 8 := rfl
theorem C9 : (9 : Int32).toNatClampNeg = 9 := rfl
theorem C10 : (10 : Int32).toNatClampNeg = 10 := rfl
theorem C15 : (15 : Int32).toNatClampNeg = 15 := rfl
theorem C33 : (33 : Int32).toNatClampNeg = 33 := rfl
theorem C34 : (34 : Int32).toNatClampNeg = 34 := rfl
theorem C35 : (35 : Int32).toNatClampNeg = 35 := rfl
theorem C36 : (36 : Int32).toNatClampNeg = 36 := rfl
theorem C37 : (37 : Int32).toNatClampNeg = 37 := rfl
theorem C847 : (847 : Int32).toNatClampNeg = 847 := rfl
theorem C857 : (857 : Int32).toNatClampNeg = 857 := rfl
/-- a loop that counts up to n, with P i at its i-th head, and no other way out -/
theorem wl1_inv {β : Type} {F : (Int32 → Option β) → Int32 → Option β} {r : Option β} {n : Nat} (hin : ∀ i k, i < n → F k (nI i) = k (nI (i + 1))) (hout : ∀ k, F k (nI n) = r) : ∀ m i fuel, i + m = n → m < fuel → wl1 F fuel (nI i) = r
  | 0, i, 0, _, h => by omega
  | 0, i, fuel + 1, e, _ => by
    have : i = n := by omega
    subst this
    exact hout _
  | m + 1, i, 0, _, h => by omega
  | m + 1, i, fuel + 1, e, h => by
    show F (wl1 F fuel) (nI i) = r
    rw [hin i _ (by omega)]
    exact wl1_inv hin hout m (i + 1) fuel (by omega) (by omega)
theorem q_rng {a lo hi : Nat} (ha : a < 2147483648) (hl : lo < 2147483648) (hh : hi < 2147483648) : (nI lo ≤ nI a ∧ nI a ≤ nI hi) ↔ (lo ≤ a ∧ a ≤ hi) := by
  rw [q_le hl ha, q_le ha hh]
theorem not_holds {a n : Nat} : ((if a.testBit n = true then (1 : Int32) else 0) = 0) = (a.testBit n = false) := by
  by_cases h : a.testBit n = true
  · simp [h]
  · simp only [Bool.not_eq_true] at h; simp [h]
theorem iI_le {a b : Int} (h1 : -2147483648 ≤ a) (h2 : a < 2147483648) (h3 : -2147483648 ≤ b) (h4 : b < 2147483648) : iI a ≤ iI b ↔ a ≤ b := by
  rw [Int32.le_iff_toInt_le, iI_int h1 h2, iI_int h3 h4]
theorem pc_add {a b c : Nat} : ∀ {n : Nat}, (∀ i, i < n → a.testBit i = (b.testBit i || c.testBit i) ∧ ¬ (b.testBit i = true ∧ c.testBit i = true)) → pc a n = pc b n + pc c n
  | 0, _ => rfl
  | n + 1, h => by
    obtain ⟨h1, h2⟩ := h n (by omega)
    have ih := pc_add (a := a) (b := b) (c := c) (n := n) (fun i hi => h i (by omega))
    show pc a n + (if a.testBit n = true then 1 else 0) = pc b n + (if b.testBit n = true then 1 else 0) + (pc c n + (if c.testBit n = true then 1 else 0))
    rw [ih, h1]
    cases hb : b.testBit n with
    | true =>
      cases hc : c.testBit n with
      | true => exact absurd ⟨hb, hc⟩ h2
      | false => simp; omega
    | false =>
      cases hc : c.testBit n with
      | true => simp; omega
      | false => simp
theorem mk_lt31 (P : Nat → Bool) : mk P 21 < 2147483648 := Nat.lt_of_lt_of_le (mk_lt P 21) (by decide)
