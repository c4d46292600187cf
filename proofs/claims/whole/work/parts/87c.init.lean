/-! THE CONSTRUCTORS: what they make, by computing it -/
def iS1 : St := (f_X7_init (newS S00) 4).getD S00
def iS2 : St := (f_X8_init (newS iS1) 124).getD S00
theorem getD_some {o : Option St} {d : St} (h : o.isSome = true) : o = some (o.getD d) := by
  cases o with
  | none => cases h
  | some s => rfl
set_option maxRecDepth 100000 in
theorem i_1 : f_X7_init (newS S00) 4 = some iS1 := getD_some (by decide +kernel)
set_option maxRecDepth 100000 in
theorem i_2 : f_X8_init (newS iS1) 124 = some iS2 := getD_some (by decide +kernel)
set_option maxRecDepth 100000 in
theorem i_n1 : iS1.2.2 = 124 := by decide +kernel
set_option maxRecDepth 100000 in
theorem i_n2 : iS2.2.2 = 131 := by decide +kernel
set_option maxRecDepth 100000 in
theorem i_c : (iS2.2.1 4 0 = 5 ∧ iS2.2.1 4 1 = 25 ∧ iS2.2.1 4 3 = 26 ∧ iS2.2.1 4 4 = 30 ∧ iS2.2.1 4 5 = 35 ∧ iS2.2.1 4 6 = 41 ∧ iS2.2.1 4 7 = 43) ∧ (iS2.2.1 26 0 = 27 ∧ iS2.2.1 26 2 = 28 ∧ iS2.2.1 28 1 = 29) ∧ (iS2.2.1 30 0 = 31 ∧ iS2.2.1 30 1 = 32 ∧ iS2.2.1 30 2 = 33 ∧ iS2.2.1 30 3 = 34) ∧ (iS2.2.1 35 0 = 36 ∧ iS2.2.1 35 1 = 37 ∧ iS2.2.1 35 2 = 38 ∧ iS2.2.1 35 4 = 39 ∧ iS2.2.1 35 5 = 40) ∧ iS2.2.1 41 2 = 42 := by decide +kernel
set_option maxRecDepth 100000 in
theorem i_m : iS2.2.2 = 131 ∧ iS2.2.1 124 0 = 125 ∧ iS2.2.1 124 1 = 126 ∧ iS2.2.1 124 3 = 127 ∧ iS2.2.1 124 4 = 128 ∧ iS2.2.1 124 6 = 129 ∧ iS2.2.1 124 13 = 130 := by decide +kernel
set_option maxRecDepth 100000 in
theorem i_sc : ∀ k, k ∈ [5, 44, 64, 84, 104] → (iS2.2.1 k 0 = k + 1 ∧ iS2.2.1 k 1 = k + 2 ∧ iS2.2.1 k 3 = k + 3 ∧ iS2.2.1 k 8 = k + 4 ∧ iS2.2.1 k 9 = k + 5) ∧ (∀ q, q < 4 → iS2.2.1 (k + 2) q = k + 6 + q) ∧ (∀ i, i < 5 → iS2.2.1 (k + 10 + 2 * i) 2 = k + 10 + 2 * i + 1) ∧ ∀ f, f < 5 → iS2.2.1 (k + 3) f = k + 10 + 2 * f := by decide +kernel
set_option maxRecDepth 100000 in
theorem i_h : ∀ i, i < 4 → iS2.2.1 25 i = 44 + 20 * i := by decide +kernel
set_option maxRecDepth 100000 in
theorem i_st : ∀ j, j < 8 → iS2.1 1 j = S00.1 1 j ∧ iS2.1 2 j = S00.1 2 j := by decide +kernel
set_option maxRecDepth 100000 in
theorem i_i : (∀ j, j < 8 → iS2.1 6 j = iS2.1 125 j) ∧ iS2.1 5 2 = 0 ∧ iS2.1 5 4 = 0 ∧ iS2.1 5 5 = 0 ∧ iS2.1 5 6 = 0 ∧ iS2.1 5 7 = 0 ∧ (∀ r, r < 10 → iS2.1 9 r = 0 ∧ iS2.1 10 r = 0 ∧ iS2.1 125 (847 + r) = 0 ∧ iS2.1 125 (857 + r) = 0) ∧ iS2.1 125 8 = 0 ∧ iS2.1 125 33 = 0 ∧ iS2.1 125 34 = 0 ∧ iS2.1 125 35 = 0 ∧ iS2.1 125 36 = 0 ∧ iS2.1 4 2 = 0 ∧ iS2.1 26 1 = 0 ∧ iS2.1 124 2 = 0 ∧ iS2.1 124 5 = 0 := by decide +kernel
set_option maxRecDepth 100000 in
theorem i_w : iS2.1 125 0 = 6 ∧ iS2.1 125 1 = 12 ∧ iS2.1 125 2 = 1 ∧ iS2.1 125 3 = 40 ∧ iS2.1 125 4 = 20 ∧ iS2.1 125 5 = 0 ∧ iS2.1 125 6 = 0 ∧ iS2.1 125 7 = 50 := by decide +kernel
theorem INV.start : INV 0 iS2 := by
  obtain ⟨c1, c2, c3, c4, c5⟩ := i_c
  obtain ⟨a1, a2, a3, a4, a5, a6, a7, a8, a9, a10, a11, a12, a13, a14, a15, a16⟩ := i_i
  obtain ⟨w0, w1, w2, w3, w4, w5, w6, w7⟩ := i_w
  have hsc := i_sc
  have hh := i_h
  have hst := i_st
  have hm := i_m
  generalize iS2 = S at *
  have sc : ∀ k, Sc k → ScSh S k := fun k hk => by
    have hmem : k ∈ [5, 44, 64, 84, 104] := by
      rcases hk with rfl | rfl | rfl | rfl | rfl <;> simp
    obtain ⟨r1, r2, r3, r4⟩ := hsc k hmem
    refine ⟨r1, r2, fun F hF => ?_, fun f hf => ⟨f, hf, r4 f hf⟩, fun f g hf hg e => ?_⟩
    · obtain ⟨i, hi, rfl⟩ := hF
      exact r3 i hi
    · rw [r4 f hf, r4 g hg] at e
      omega
  have cs : CSh S := by
    refine ⟨hm.1, c1, c2, c3, c4, c5, sc, fun i hi => ?_, fun i j hi hj e => ?_⟩
    · rw [hh i hi]
      have h4 : i = 0 ∨ i = 1 ∨ i = 2 ∨ i = 3 := by omega
      unfold Sc
      omega
    · rw [hh i hi, hh j hj] at e
      omega
  have rn : RN S 5 (S.1 125) 0 0 0 6 12 := by
    refine ⟨⟨a1, by omega, a2, fun q hq => by omega⟩, a8, ⟨w0, by omega, by omega⟩, ⟨w1, by omega, by omega⟩, a5.trans a9.symm, ⟨a6, a10, by omega⟩, a4.trans a11.symm, ⟨a3, a12, by omega⟩, fun f hf => by omega, fun r hr => ?_, fun r hr => ?_⟩
    · exact (a7 r hr).1.trans (a7 r hr).2.2.1.symm
    · exact (a7 r hr).2.1.trans (a7 r hr).2.2.2.symm
  have ok : OKw 0 (S.1 125) := by
    refine ⟨0, 0, 0, ⟨a8, by omega⟩, ⟨a12, by omega⟩, ⟨a9, by omega⟩, ⟨⟨1, w2, by omega, by omega⟩, ⟨40, w3, by omega, by omega⟩, ⟨20, w4, by omega, by omega⟩, ⟨0, w5, by omega, by omega⟩, ⟨0, w6, by omega, by omega⟩, ⟨50, w7, by omega, by omega⟩⟩, fun q hq => by omega, fun f hf => by omega, fun r hr => ⟨0, (a7 r hr).2.2.1, by omega, by omega⟩, fun r hr => ⟨0, (a7 r hr).2.2.2, by omega, by omega⟩⟩
  exact ⟨0, 0, ⟨cs, hst, ⟨0, 0, 0, 6, 12, rn⟩, ⟨by omega, a13, fun i hi => by omega⟩, by omega, a14, fun j hj => by omega⟩, hm, a15, a16, ok, fun i hi => by omega, fun j hj => by omega⟩
