/-! THE LAW ANSWERS 1 -/
set_option maxRecDepth 100000 in
theorem law_c1 : (kd S00.2.2 = 7 ∧ nok 4 600000 7302250 S00.2.2 8) ∧ okc (newS S00) 7 S00.2.2 ∧ rok2 4 600000 7302250 119 4957 (newS S00).2.2 := by decide +kernel
set_option maxRecDepth 100000 in
theorem law_c2 : (124 = (newS S00).2.2 + 119 ∧ slT 124 = slT (newS S00).2.2 + 4957) ∧ (kd 124 = 8 ∧ nok 4 600000 7302250 124 18) ∧ rok2 4 600000 7302250 6 5305 125 ∧ (131 = 125 + 6 ∧ slT 131 = slT 125 + 5305) := by decide +kernel
theorem law_one (xs : Nat → Int32) (L : Nat) (hL : L ≤ 3584) : f_L_law xs L S00 = some 1 := by
  obtain ⟨a1, a2, a3⟩ := law_c1
  obtain ⟨b1, b2, b3, b4⟩ := law_c2
  have e4 : S00.2.2 = 4 := rfl
  have e1 : f_X7_init (newS S00) S00.2.2 = some iS1 := i_1
  have n1 := i_n1
  have n2 := i_n2
  have e2 := i_2
  have hI := INV.start
  generalize iS1 = T1 at *
  generalize iS2 = T2 at *
  have n3 : (newS T1).2.2 = 125 := by
    show T1.2.2 + 1 = 125
    rw [n1]
  unfold f_L_law
  rw [ck_t a1, vlt_s, ck_t a2, ck_t a3, e1, bnd_s, n1, ck_t b1, ck_t b2, vlt_s, ck_t (show okc (newS T1) 8 124 from ⟨rfl, by rw [n3]; decide⟩), ck_t (show rok2 4 600000 7302250 6 5305 (newS T1).2.2 by rw [n3]; exact b3), e2, bnd_s, ck_t (show T2.2.2 = (newS T1).2.2 + 6 ∧ slT T2.2.2 = slT (newS T1).2.2 + 5305 by rw [n2, n3]; exact b4), ck_t n2, e4]
  exact law_loop hL hI
