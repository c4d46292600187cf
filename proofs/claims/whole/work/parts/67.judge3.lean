/-- the masks of a judgement -/
theorem jud_bits {V : Nat → Option Int} {k : Int} {R : Nat} (hR : R ≤ 10) (hVn : ∀ x, ¬ x < R → V x = none) (i : Nat) : (mk (fun i => (1 <<< 10 - 1).testBit i && !((mk (fun x => (V x).isNone) 10).testBit i)) 31).testBit i = ((mk (fun x => decide (V x = some k)) R).testBit i || (mk (fun x => !(V x).isNone && !(decide (V x = some k))) R).testBit i) ∧ ¬ ((mk (fun x => decide (V x = some k)) R).testBit i = true ∧ (mk (fun x => !(V x).isNone && !(decide (V x = some k))) R).testBit i = true) := by
  simp only [mk_bit]
  rw [Nat.one_shiftLeft, Nat.testBit_two_pow_sub_one]
  by_cases ci : i < 10
  · by_cases cR : i < R
    · cases hv : V i with
      | none => simp [ci, cR, show i < 31 by omega]
      | some j =>
        by_cases cj : j = k
        · simp [ci, cR, cj, show i < 31 by omega]
        · simp [ci, cR, cj, show i < 31 by omega]
    · simp [ci, cR, hVn i cR]
  · simp [ci, show ¬ i < R by omega]
theorem jud_masks {V : Nat → Option Int} {k : Int} {R : Nat} (hR : R ≤ 10) (hVn : ∀ x, ¬ x < R → V x = none) : ∃ A D T, mk (fun x => decide (V x = some k)) R = A ∧ mk (fun x => !(V x).isNone && !(decide (V x = some k))) R = D ∧ mk (fun i => (1 <<< 10 - 1).testBit i && !((mk (fun x => (V x).isNone) 10).testBit i)) 31 = T ∧ mk (fun x => decide (V x = some k)) 10 = A ∧ A < 1024 ∧ D < 1024 ∧ T < 65536 ∧ pc T 17 = pc A 17 + pc D 17 ∧ ∀ r, (!(A.testBit r) && T.testBit r) = D.testBit r := by
  have hTb := jud_bits (V := V) (k := k) hR hVn
  have hA10 : mk (fun x => decide (V x = some k)) 10 = mk (fun x => decide (V x = some k)) R := by
    apply Nat.eq_of_testBit_eq
    intro i
    rw [mk_bit, mk_bit]
    by_cases ci : i < R
    · simp [ci, show i < 10 by omega]
    · simp [ci, hVn i ci]
  have hp : 2 ^ R ≤ 1024 := Nat.le_trans (Nat.pow_le_pow_right (by omega) hR) (show 2 ^ 10 ≤ 1024 by decide)
  have hAl : mk (fun x => decide (V x = some k)) R < 1024 := Nat.lt_of_lt_of_le (mk_lt _ R) hp
  have hDl : mk (fun x => !(V x).isNone && !(decide (V x = some k))) R < 1024 := Nat.lt_of_lt_of_le (mk_lt _ R) hp
  refine ⟨_, _, _, rfl, rfl, rfl, hA10, hAl, hDl, ?_, pc_add (fun i _ => hTb i), fun r => ?_⟩
  · generalize mk (fun x => decide (V x = some k)) R = A at *
    generalize mk (fun x => !(V x).isNone && !(decide (V x = some k))) R = D at *
    generalize mk (fun i => (1 <<< 10 - 1).testBit i && !((mk (fun x => (V x).isNone) 10).testBit i)) 31 = T at *
    have e : T = A ||| D := by
      apply Nat.eq_of_testBit_eq
      intro i
      rw [(hTb i).1, Nat.testBit_or]
    rw [e]
    exact Nat.lt_of_lt_of_le (Nat.or_lt_two_pow (n := 10) hAl hDl) (show 2 ^ 10 ≤ 65536 by decide)
  · obtain ⟨z1, z2⟩ := hTb r
    rw [z1]
    generalize (mk (fun x => decide (V x = some k)) R).testBit r = p at *
    generalize (mk (fun x => !(V x).isNone && !(decide (V x = some k))) R).testBit r = q at *
    cases p <;> cases q <;> simp at *
