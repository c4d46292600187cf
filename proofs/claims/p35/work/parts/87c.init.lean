/-! THE CONSTRUCTORS: what they make, by computing it -/
def iS1 : St := (f_X7_init (newS S00) 4).getD S00
/-- the row at the start -/
def iW : Wf := fun j => ([6, 12, 1, 40, 20, 0, 0, 50] : List Int32).getD j 0
theorem getD_some {o : Option St} {d : St} (h : o.isSome = true) : o = some (o.getD d) := by
  cases o with
  | none => cases h
  | some s => rfl
set_option maxRecDepth 100000 in
theorem i_1 : f_X7_init (newS S00) 4 = some iS1 := getD_some (by decide +kernel)
set_option maxRecDepth 100000 in
theorem i_n1 : iS1.2.2 = 124 := by decide +kernel
set_option maxRecDepth 100000 in
theorem i_c : (iS1.2.1 4 0 = 5 ∧ iS1.2.1 4 1 = 25 ∧ iS1.2.1 4 3 = 26 ∧ iS1.2.1 4 4 = 30 ∧ iS1.2.1 4 5 = 35 ∧ iS1.2.1 4 6 = 41 ∧ iS1.2.1 4 7 = 43) ∧ (iS1.2.1 26 0 = 27 ∧ iS1.2.1 26 2 = 28 ∧ iS1.2.1 28 1 = 29) ∧ (iS1.2.1 30 0 = 31 ∧ iS1.2.1 30 1 = 32 ∧ iS1.2.1 30 2 = 33 ∧ iS1.2.1 30 3 = 34) ∧ (iS1.2.1 35 0 = 36 ∧ iS1.2.1 35 1 = 37 ∧ iS1.2.1 35 2 = 38 ∧ iS1.2.1 35 4 = 39 ∧ iS1.2.1 35 5 = 40) ∧ iS1.2.1 41 2 = 42 := by decide +kernel
set_option maxRecDepth 100000 in
theorem i_sc : ∀ k, k ∈ [5, 44, 64, 84, 104] → (iS1.2.1 k 0 = k + 1 ∧ iS1.2.1 k 1 = k + 2 ∧ iS1.2.1 k 3 = k + 3 ∧ iS1.2.1 k 8 = k + 4 ∧ iS1.2.1 k 9 = k + 5) ∧ (∀ q, q < 4 → iS1.2.1 (k + 2) q = k + 6 + q) ∧ (∀ i, i < 5 → iS1.2.1 (k + 10 + 2 * i) 2 = k + 10 + 2 * i + 1) ∧ ∀ f, f < 5 → iS1.2.1 (k + 3) f = k + 10 + 2 * f := by decide +kernel
set_option maxRecDepth 100000 in
theorem i_h : ∀ i, i < 4 → iS1.2.1 25 i = 44 + 20 * i := by decide +kernel
set_option maxRecDepth 100000 in
theorem i_st : ∀ j, j < 8 → iS1.1 1 j = S00.1 1 j ∧ iS1.1 2 j = S00.1 2 j := by decide +kernel
set_option maxRecDepth 100000 in
theorem i_i : (∀ j, j < 8 → iS1.1 6 j = iW j) ∧ iS1.1 5 2 = 0 ∧ iS1.1 5 4 = 0 ∧ iS1.1 5 5 = 0 ∧ iS1.1 5 6 = 0 ∧ iS1.1 5 7 = 0 ∧ (∀ r, r < 10 → iS1.1 9 r = 0 ∧ iS1.1 10 r = 0) ∧ iS1.1 4 2 = 0 ∧ iS1.1 26 1 = 0 := by decide +kernel
theorem iW_0 {j : Nat} (hj : 8 ≤ j) : iW j = 0 := by
  obtain ⟨d, rfl⟩ : ∃ d, j = d + 8 := ⟨j - 8, by omega⟩
  rfl
theorem Kc.start : Kc iS1 iW 0 (fun _ => iW) := by
  obtain ⟨c1, c2, c3, c4, c5⟩ := i_c
  obtain ⟨a1, a2, a3, a4, a5, a6, a7, a8, a9⟩ := i_i
  have hsc := i_sc
  have hh := i_h
  have hst := i_st
  have hn := i_n1
  generalize iS1 = S at *
  have sc : ∀ k, Sc k → ScSh S k := fun k hk => by
    have hmem : k ∈ [5, 44, 64, 84, 104] := by
      rcases hk with rfl | rfl | rfl | rfl | rfl <;> simp
    obtain ⟨r1, r2, r3, r4⟩ := hsc k hmem
    refine ⟨r1, r2, fun F hF => ?_, fun f hf => ⟨f, hf, r4 f hf⟩, fun f g hf hg e => ?_⟩
    · obtain ⟨i, hi, rfl⟩ := hF
      exact r3 i hi
    · rw [r4 f hf, r4 g hg] at e
      omega
  have cs : CSh S := by
    refine ⟨hn, c1, c2, c3, c4, c5, sc, fun i hi => ?_, fun i j hi hj e => ?_⟩
    · rw [hh i hi]
      have h4 : i = 0 ∨ i = 1 ∨ i = 2 ∨ i = 3 := by omega
      unfold Sc
      omega
    · rw [hh i hi, hh j hj] at e
      omega
  have z : ∀ j, 8 ≤ j → iW j = 0 := fun j hj => iW_0 hj
  have rn : RN S 5 iW 0 0 0 6 12 := by
    refine ⟨⟨a1, by omega, a2, fun q hq => by omega⟩, z 8 (by omega), ⟨rfl, by omega, by omega⟩, ⟨rfl, by omega, by omega⟩, a5.trans (z 33 (by omega)).symm, ⟨a6, z 34 (by omega), by omega⟩, a4.trans (z 35 (by omega)).symm, ⟨a3, z 36 (by omega), by omega⟩, fun f hf => by omega, fun r hr => ?_, fun r hr => ?_⟩
    · exact (a7 r hr).1.trans (z _ (by omega)).symm
    · exact (a7 r hr).2.trans (z _ (by omega)).symm
  have ok : OKw 0 iW := by
    refine ⟨0, 0, 0, ⟨z 8 (by omega), by omega⟩, ⟨z 36 (by omega), by omega⟩, ⟨z 33 (by omega), by omega⟩, ⟨⟨1, rfl, by omega, by omega⟩, ⟨40, rfl, by omega, by omega⟩, ⟨20, rfl, by omega, by omega⟩, ⟨0, rfl, by omega, by omega⟩, ⟨0, rfl, by omega, by omega⟩, ⟨50, rfl, by omega, by omega⟩⟩, fun q hq => by omega, fun f hf => by omega, fun r hr => ⟨0, z _ (by omega), by omega, by omega⟩, fun r hr => ⟨0, z _ (by omega), by omega, by omega⟩⟩
  exact ⟨⟨0, fun _ => 0, cs, hst, ⟨0, 0, 0, 6, 12, rn⟩, ⟨by omega, a8, fun i hi => by omega⟩, by omega, a9, fun j hj => by omega⟩, ok, fun i hi => by omega⟩
