theorem c_isPlace {S : St} (hs : CSh S) {tc fc bl R C : Nat} {w : Wf} (h : RN S 5 w tc fc bl R C) (a b : Int32) : f_X7_isPlace S 4 a b = some (if (0 ≤ a ∧ a ≤ nI R - 1) ∧ (0 ≤ b ∧ b ≤ nI C - 1) then 1 else 0) := by
  unfold f_X7_isPlace
  have e0 : S.2.1 4 0 = 5 := hs.2.1.1
  have x0 : S.1 (5 + 1) 0 = nI R := (h.1.1 0 (by omega)).trans h.2.2.1.1
  have x1 : S.1 (5 + 1) 1 = nI C := (h.1.1 1 (by omega)).trans h.2.2.2.1.1
  have g0 : f_X3_setting S 5 0 = some (nI R) := by rw [L0, c_setting hs sc5 (by omega), x0]
  have g1 : f_X3_setting S 5 1 = some (nI C) := by rw [L1, c_setting hs sc5 (by omega), x1]
  rw [ck7 hs, e0, ck5 hs, g0, bnd_s, e_within, bnd_s]
  by_cases ha : 0 ≤ a ∧ a ≤ nI R - 1
  · rw [if_pos ha, if_neg (by decide), ck7 hs, ck5 hs, g1, bnd_s, e_within, bnd_s]
    by_cases hb : 0 ≤ b ∧ b ≤ nI C - 1
    · rw [if_pos hb, if_neg (by decide), if_pos ⟨ha, hb⟩]
    · rw [if_neg hb, if_pos rfl, if_neg (fun q => hb q.2)]
  · rw [if_neg ha, if_pos rfl, if_neg (fun q => ha q.1)]
theorem c_isDark (p q t : Int32) (w : Wf) (h5 : w 5 = p) (h6 : w 6 = q) : f_X7_isDark t p q = some (if dkb w t = true then 1 else 0) := by
  subst h5
  subst h6
  unfold f_X7_isDark dkb
  by_cases h5 : w 5 = 0
  · rw [if_pos h5]
    simp [h5]
  · rw [if_neg h5, ck_t h5]
    by_cases h6 : w 6 ≤ t - t / w 5 * w 5
    · rw [if_pos h6]
      simp [h5, Int32.not_lt.mpr h6]
    · rw [if_neg h6]
      simp [h5, Int32.not_le.mp h6]
