/-! VOTES: counting, the best shift, what is told -/
def ct (P : Nat → Bool) : Nat → Nat
  | 0 => 0
  | n + 1 => ct P n + if P n = true then 1 else 0
theorem ct_le (P : Nat → Bool) : ∀ n, ct P n ≤ n
  | 0 => Nat.le_refl _
  | n + 1 => by
    have := ct_le P n
    show ct P n + (if P n = true then 1 else 0) ≤ n + 1
    by_cases h : P n = true
    · rw [if_pos h]; omega
    · rw [if_neg h]; omega
theorem ct_pc (a : Nat) : ∀ n, pc a n = ct (fun i => a.testBit i) n
  | 0 => rfl
  | n + 1 => by
    show pc a n + _ = ct _ n + _
    rw [ct_pc a n]
theorem ct_ext {P Q : Nat → Bool} : ∀ {n : Nat}, (∀ i, i < n → P i = Q i) → ct P n = ct Q n
  | 0, _ => rfl
  | n + 1, h => by
    show ct P n + _ = ct Q n + _
    rw [ct_ext (fun i hi => h i (by omega)), h n (by omega)]
theorem ct_zero {P : Nat → Bool} : ∀ {n : Nat}, (∀ i, i < n → P i = false) → ct P n = 0
  | 0, _ => rfl
  | n + 1, h => by
    show ct P n + _ = 0
    rw [ct_zero (fun i hi => h i (by omega)), h n (by omega)]
    rfl
theorem ct_shift (P : Nat → Bool) (s : Nat) : ∀ n, ct P (s + n) = ct P s + ct (fun i => P (s + i)) n
  | 0 => rfl
  | n + 1 => by
    show ct P (s + n) + _ = ct P s + (ct _ n + _)
    rw [ct_shift P s n, Nat.add_assoc]
    rfl
theorem ct_cut {P : Nat → Bool} {n m : Nat} (h : n ≤ m) (hP : ∀ i, n ≤ i → i < m → P i = false) : ct P m = ct P n := by
  obtain ⟨d, rfl⟩ : ∃ d, m = n + d := ⟨m - n, by omega⟩
  rw [ct_shift, ct_zero (fun i hi => hP (n + i) (by omega) (by omega))]
  rfl
/-- how many edges of a have one of b, s further right, s further left -/
def cR (a b s : Nat) : Nat := pc ((a <<< s) &&& b) 17
def cL (a b s : Nat) : Nat := pc ((a >>> s) &&& b) 17
/-- an edge mask: columns 1 to 15 -/
def Em (a : Nat) : Prop := a < 65536 ∧ a.testBit 0 = false
theorem Em.out {a i : Nat} (h : Em a) (hi : 16 ≤ i ∨ i = 0) : a.testBit i = false := by
  rcases hi with hi | hi
  · exact Nat.testBit_lt_two_pow (Nat.lt_of_lt_of_le h.1 (show (2 : Nat) ^ 16 ≤ 2 ^ i from Nat.pow_le_pow_right (by omega) hi))
  · rw [hi]; exact h.2
theorem cR_ct {a b s : Nat} (ha : Em a) (hb : Em b) : cR a b s = ct (fun c => a.testBit c && b.testBit (c + s)) 16 := by
  unfold cR
  rw [ct_pc]
  have e1 : ct (fun i => ((a <<< s) &&& b).testBit i) 17 = ct (fun i => ((a <<< s) &&& b).testBit i) 16 := ct_cut (by omega) (fun i h1 h2 => by simp only [Nat.testBit_and, hb.out (Or.inl h1), Bool.and_false])
  have e2 : ct (fun i => ((a <<< s) &&& b).testBit i) (s + 16) = ct (fun i => ((a <<< s) &&& b).testBit i) 16 := ct_cut (by omega) (fun i h1 h2 => by simp only [Nat.testBit_and, hb.out (Or.inl h1), Bool.and_false])
  rw [e1, ← e2, ct_shift, ct_zero (fun i hi => by simp only [Nat.testBit_and, Nat.testBit_shiftLeft]; simp [Nat.not_le.mpr hi])]
  rw [Nat.zero_add]
  exact ct_ext (fun i _ => by simp [Nat.testBit_and, Nat.testBit_shiftLeft, Nat.add_comm])
theorem cL_ct {a b s : Nat} (ha : Em a) (hb : Em b) : cL a b s = ct (fun c => a.testBit c && (decide (s ≤ c) && b.testBit (c - s))) 16 := by
  unfold cL
  rw [ct_pc]
  have e2 : ct (fun c => a.testBit c && (decide (s ≤ c) && b.testBit (c - s))) (s + 17) = ct (fun c => a.testBit c && (decide (s ≤ c) && b.testBit (c - s))) 16 := ct_cut (by omega) (fun i h1 h2 => by simp only [ha.out (Or.inl h1), Bool.false_and])
  have z : ct (fun c => a.testBit c && (decide (s ≤ c) && b.testBit (c - s))) s = 0 := ct_zero (fun i hi => by simp [Nat.not_le.mpr hi])
  rw [← e2, ct_shift, z, Nat.zero_add]
  exact ct_ext (fun i _ => by simp [Nat.testBit_and, Nat.testBit_shiftRight])
/-- how many edges agree by a shift -/
def cnt (a b : Nat) (k : Int) : Nat := if 0 ≤ k then cR a b k.toNat else cL a b (-k).toNat
theorem cnt_le (a b : Nat) (k : Int) : cnt a b k ≤ 17 := by
  unfold cnt cR cL
  split <;> exact pc_le _ _
/-! the best of several -/
/-- a is before b: smaller, or as small and below 0 -/
def bf (a b : Int) : Prop := a.natAbs < b.natAbs ∨ (a.natAbs = b.natAbs ∧ a ≤ b)
/-- k is the best of those in U -/
def Bst (f : Int → Nat) (U : Int → Prop) (k : Int) : Prop := U k ∧ 0 < f k ∧ ∀ j, U j → f j < f k ∨ (f j = f k ∧ bf k j)
theorem Bst.uniq {f : Int → Nat} {U : Int → Prop} {a b : Int} (ha : Bst f U a) (hb : Bst f U b) : a = b := by
  have h1 := ha.2.2 b hb.1
  have h2 := hb.2.2 a ha.1
  unfold bf at h1 h2
  omega
/-- what the class's order of trying comes to: the best one and its number -/
def vf (f : Int → Nat) : Nat → Option Int × Nat
  | 0 => (none, 0)
  | s + 1 =>
    let p := vf f s
    let q := if p.2 < f (-(s : Int)) then (some (-(s : Int)), f (-(s : Int))) else p
    if q.2 < f (s : Int) then (some (s : Int), f (s : Int)) else q
/-- the shift that a row votes for -/
def vt (a b : Nat) : Option Int := (vf (cnt a b) 9).1
def VfI (f : Int → Nat) (n : Nat) (p : Option Int × Nat) : Prop := match p.1 with
  | none => p.2 = 0 ∧ ∀ j : Int, j.natAbs < n → f j = 0
  | some k => p.2 = f k ∧ Bst f (fun j => j.natAbs < n) k
theorem vf_inv (f : Int → Nat) : ∀ n, VfI f n (vf f n)
  | 0 => ⟨rfl, fun j h => by omega⟩
  | s + 1 => by
    have ih := vf_inv f s
    generalize hp : vf f s = p at ih
    obtain ⟨o, m⟩ := p
    have hstep : vf f (s + 1) = (let q := if m < f (-(s : Int)) then (some (-(s : Int)), f (-(s : Int))) else (o, m); if q.2 < f (s : Int) then (some (s : Int), f (s : Int)) else q) := by
      show (let p := vf f s; let q := if p.2 < f (-(s : Int)) then (some (-(s : Int)), f (-(s : Int))) else p; if q.2 < f (s : Int) then (some (s : Int), f (s : Int)) else q) = _
      rw [hp]
    rw [hstep]
    have hall : ∀ j : Int, j.natAbs < s → f j ≤ m := by
      intro j hj
      cases o with
      | none => have := ih.2 j hj; omega
      | some k => have := ih.2.2.2 j hj; have e := ih.1; simp only at e; omega
    have hnew : ∀ j : Int, j.natAbs < s + 1 → j.natAbs < s ∨ j = (s : Int) ∨ j = -(s : Int) := fun j hj => by omega
    by_cases h1 : m < f (-(s : Int))
    · simp only [if_pos h1]
      by_cases h2 : f (-(s : Int)) < f (s : Int)
      · simp only [if_pos h2]
        refine ⟨rfl, ?_, by omega, fun j hj => ?_⟩
        · show (s : Int).natAbs < s + 1; omega
        · rcases hnew j hj with h | h | h
          · have := hall j h; left; omega
          · right; rw [h]; exact ⟨rfl, Or.inr ⟨rfl, by omega⟩⟩
          · left; rw [h]; exact h2
      · simp only [if_neg h2]
        refine ⟨rfl, ?_, by omega, fun j hj => ?_⟩
        · show (-(s : Int)).natAbs < s + 1; omega
        · rcases hnew j hj with h | h | h
          · have := hall j h; left; omega
          · rw [h]
            by_cases e : f (s : Int) = f (-(s : Int))
            · right; exact ⟨e, Or.inr ⟨by omega, by omega⟩⟩
            · left; omega
          · right; rw [h]; exact ⟨rfl, Or.inr ⟨rfl, by omega⟩⟩
    · simp only [if_neg h1]
      by_cases h2 : m < f (s : Int)
      · simp only [if_pos h2]
        refine ⟨rfl, ?_, by omega, fun j hj => ?_⟩
        · show (s : Int).natAbs < s + 1; omega
        · rcases hnew j hj with h | h | h
          · have := hall j h; left; omega
          · right; rw [h]; exact ⟨rfl, Or.inr ⟨rfl, by omega⟩⟩
          · left; rw [h]; omega
      · simp only [if_neg h2]
        cases o with
        | none =>
          refine ⟨ih.1, fun j hj => ?_⟩
          have hm : m = 0 := ih.1
          rcases hnew j hj with h | h | h
          · exact ih.2 j h
          · rw [h]; omega
          · rw [h]; omega
        | some k =>
          have e : m = f k := ih.1
          have hk : k.natAbs < s := ih.2.1
          refine ⟨e, ?_, ih.2.2.1, fun j hj => ?_⟩
          · show k.natAbs < s + 1; omega
          · rcases hnew j hj with h | h | h
            · exact ih.2.2.2 j h
            · by_cases q : f j = f k
              · right; exact ⟨q, Or.inl (by omega)⟩
              · left; rw [h] at q ⊢; omega
            · by_cases q : f j = f k
              · right; exact ⟨q, Or.inl (by omega)⟩
              · left; rw [h] at q ⊢; omega
/-! whole numbers with signs -/
def iI (z : Int) : Int32 := Int32.ofInt z
theorem iI_add (a b : Int) : iI a + iI b = iI (a + b) := (Int32.ofInt_add a b).symm
theorem iI_sub (a b : Int) : iI a - iI b = iI (a - b) := (Int32.ofInt_sub a b).symm
theorem iI_mul (a b : Int) : iI a * iI b = iI (a * b) := (Int32.ofInt_mul a b).symm
theorem iI_neg (a : Int) : -iI a = iI (-a) := (Int32.ofInt_neg a).symm
theorem iI_nat (n : Nat) : nI n = iI (n : Int) := (Int32.ofInt_eq_ofNat).symm
theorem iI_int {z : Int} (h1 : -2147483648 ≤ z) (h2 : z < 2147483648) : (iI z).toInt = z := Int32.toInt_ofInt_of_le h1 h2
theorem iI_of (x : Int32) : x = iI x.toInt := (Int32.ofInt_toInt x).symm
theorem iI_le {a b : Int} (h1 : -2147483648 ≤ a) (h2 : a < 2147483648) (h3 : -2147483648 ≤ b) (h4 : b < 2147483648) : iI a ≤ iI b ↔ a ≤ b := by
  rw [Int32.le_iff_toInt_le, iI_int h1 h2, iI_int h3 h4]
theorem iI_lt {a b : Int} (h1 : -2147483648 ≤ a) (h2 : a < 2147483648) (h3 : -2147483648 ≤ b) (h4 : b < 2147483648) : iI a < iI b ↔ a < b := by
  rw [Int32.lt_iff_toInt_lt, iI_int h1 h2, iI_int h3 h4]
theorem iI_eq {a b : Int} (h1 : -2147483648 ≤ a) (h2 : a < 2147483648) (h3 : -2147483648 ≤ b) (h4 : b < 2147483648) : iI a = iI b ↔ a = b := by
  rw [← Int32.toInt_inj, iI_int h1 h2, iI_int h3 h4]
