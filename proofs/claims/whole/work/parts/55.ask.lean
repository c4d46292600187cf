/-! ASKING -/
theorem c_isPlace {S : St} (hs : CSh S) {tc fc bl R C : Nat} {w : Wf} (h : RN S 5 w tc fc bl R C) (a b : Int32) : f_X7_isPlace S 4 a b = some (if (0 ≤ a ∧ a ≤ nI R - 1) ∧ (0 ≤ b ∧ b ≤ nI C - 1) then 1 else 0) := by
  unfold f_X7_isPlace
  have e0 : S.2.1 4 0 = 5 := hs.2.1.1
  have x0 : S.1 (5 + 1) 0 = nI R := (h.1.1 0 (by omega)).trans h.2.2.1.1
  have x1 : S.1 (5 + 1) 1 = nI C := (h.1.1 1 (by omega)).trans h.2.2.2.1.1
  have g0 : f_X3_setting S 5 0 = some (nI R) := by rw [L0, c_setting hs sc5 (by omega), x0]
  have g1 : f_X3_setting S 5 1 = some (nI C) := by rw [L1, c_setting hs sc5 (by omega), x1]
  rw [ck7 hs, e0, ck5 hs, g0, bnd_s, e_within, bnd_s]
  by_cases ha : 0 ≤ a ∧ a ≤ nI R - 1
  · rw [if_pos ha, if_neg (by decide), ck7 hs, ck5 hs, g1, bnd_s, e_within, bnd_s]
    by_cases hb : 0 ≤ b ∧ b ≤ nI C - 1
    · rw [if_pos hb, if_neg (by decide), if_pos ⟨ha, hb⟩]
    · rw [if_neg hb, if_pos rfl, if_neg (fun q => hb q.2)]
  · rw [if_neg ha, if_pos rfl, if_neg (fun q => ha q.1)]
theorem oq_thingOf {N : Nat} {S : St} (h : INV N S) (a b : Int32) : Oq S (fun S => f_X7_thingOf S 4 a b) (fun S => f_X8_thingOf S 124 a b) := by
  obtain ⟨st, len, i1, i2, i3, i4, i5, i6, i7⟩ := h
  have hs := i1.1
  have e0 : S.2.1 4 0 = 5 := hs.2.1.1
  obtain ⟨tc, fc, bl, R, C, hn⟩ := i1.2.2.1
  have t2 := hn.1.2.2.1
  have t4 := hn.1.2.1
  have w8 := hn.2.1
  show ∃ v, f_X7_thingOf S 4 a b = some v ∧ f_X8_thingOf S 124 a b = some v
  unfold f_X7_thingOf f_X8_thingOf
  by_cases ha : 0 ≤ a ∧ a ≤ nI tc - 1
  · obtain ⟨q, rfl, hq⟩ := idx_ex (by omega) ha
    by_cases hb : 0 ≤ b ∧ b ≤ 6
    · obtain ⟨d, rfl, -, hd⟩ := q_ex (lo := 0) (hi := 6) hb.1 hb.2 (by decide) (by decide)
      have okq : ∀ {β : Type} (o : Option β), chk (okc S 5 (5 + 6 + q)) o = o := fun o => ck_t (okS hs.n (sc5.thing (by omega)) (by omega)) o
      have x2 := hn.1.2.2.2 q hq 2 (by omega)
      have x3 := hn.1.2.2.2 q hq 3 (by omega)
      by_cases h6 : d = 6
      · subst h6
        have c33 : (33 : Int32).toNatClampNeg = 33 := rfl
        refine ⟨pl (S.1 125) q (S.1 125 33), ?_, ?_⟩
        · rw [ck7 hs, e0, ck5 hs, c_thingAt_t hs sc5 t2 t4 hq, bnd_s, if_neg (by omega), e_within, if_pos hb, bnd_s, if_neg (by decide), if_pos (show nI 6 = (6 : Int32) from rfl), ck7 hs, ck5 hs, okq]
          unfold f_X5_positionAt
          rw [okq, okq, bnd_s, x2, x3, hn.2.2.2.2.1]
          rfl
        · rw [ck8 i2, e_isThing i2, w8, if_pos ha, bnd_s, if_neg (by decide), e_in, if_pos hb, bnd_s, if_neg (by decide), if_pos (show nI 6 = (6 : Int32) from rfl), ck8 i2, ck8 i2, i2.2.1, ck_t (show ina S 10 125 33 from inaN i2.1 rfl rfl (by decide) (by decide) (show 33 < 867 by omega)), c33, e_placeAt i2.1 (Or.inl rfl) (by omega), bnd_s]
      · have n6 : ¬ nI d = (6 : Int32) := by rw [L6, q_eq (by omega) (by omega)]; exact h6
        have hx := hn.1.2.2.2 q hq d (by omega)
        have hg : f_X5_numberOf S (5 + 6 + q) (nI d) = some (S.1 (5 + 6 + q) d) := by
          unfold f_X5_numberOf
          have hd6 : d = 0 ∨ d = 1 ∨ d = 2 ∨ d = 3 ∨ d = 4 ∨ d = 5 := by omega
          rcases hd6 with rfl | rfl | rfl | rfl | rfl | rfl
          · rw [if_pos (by decide), okq]
          · rw [if_neg (by decide), if_pos (by decide), okq]
          · rw [if_neg (by decide), if_neg (by decide), if_pos (by decide), okq]
          · rw [if_neg (by decide), if_neg (by decide), if_neg (by decide), if_pos (by decide), okq]
          · rw [if_neg (by decide), if_neg (by decide), if_neg (by decide), if_neg (by decide), if_pos (by decide), okq]
          · rw [if_neg (by decide), if_neg (by decide), if_neg (by decide), if_neg (by decide), if_neg (by decide), okq]
        have e9 : (9 : Int32) + 6 * nI q + nI d = nI (9 + 6 * q + d) := by rw [L9, L6, q_mul, q_add, q_add]
        refine ⟨S.1 125 (9 + 6 * q + d), ?_, ?_⟩
        · rw [ck7 hs, e0, ck5 hs, c_thingAt_t hs sc5 t2 t4 hq, bnd_s, if_neg (by omega), e_within, if_pos hb, bnd_s, if_neg (by decide), if_neg n6, okq, hg, bnd_s, hx]
        · simp only [e9]
          rw [ck8 i2, e_isThing i2, w8, if_pos ha, bnd_s, if_neg (by decide), e_in, if_pos hb, bnd_s, if_neg (by decide), if_neg n6, ck8 i2, i2.2.1, ckM i2 (by omega), q_cl (by omega)]
    · refine ⟨-10000001, ?_, ?_⟩
      · rw [ck7 hs, e0, ck5 hs, c_thingAt_t hs sc5 t2 t4 hq, bnd_s, if_neg (by omega), e_within, if_neg hb, bnd_s, if_pos rfl]
      · rw [ck8 i2, e_isThing i2, w8, if_pos ha, bnd_s, if_neg (by decide), e_in, if_neg hb, bnd_s, if_pos rfl]
  · refine ⟨-10000001, ?_, ?_⟩
    · rw [ck7 hs, e0, ck5 hs, c_thingAt_f hs sc5 t2 a ha t4, bnd_s, if_pos rfl]
    · rw [ck8 i2, e_isThing i2, w8, if_neg ha, bnd_s, if_pos rfl]
theorem c_isDark (p q t : Int32) (w : Wf) (h5 : w 5 = p) (h6 : w 6 = q) : f_X7_isDark t p q = some (if dkb w t = true then 1 else 0) := by
  subst h5
  subst h6
  unfold f_X7_isDark dkb
  by_cases h5 : w 5 = 0
  · rw [if_pos h5]
    simp [h5]
  · rw [if_neg h5, ck_t h5]
    by_cases h6 : w 6 ≤ t - t / w 5 * w 5
    · rw [if_pos h6]
      simp [h5, Int32.not_lt.mpr h6]
    · rw [if_neg h6]
      simp [h5, Int32.not_le.mp h6]
theorem oq_count {N : Nat} {S : St} (h : INV N S) (a : Int32) : Oq S (fun S => f_X7_count S 4 a) (fun S => f_X8_count S 124 a) := by
  obtain ⟨st, len, i1, i2, i3, i4, i5, i6, i7⟩ := h
  have hs := i1.1
  have e0 : S.2.1 4 0 = 5 := hs.2.1.1
  have e3 : S.2.1 4 3 = 26 := hs.2.1.2.2.1
  obtain ⟨tc, fc, bl, R, C, hn⟩ := i1.2.2.1
  have hbl := hn.2.2.2.2.2.1.2.2
  have cl : ∀ j : Nat, j < 100 → (nI j).toNatClampNeg = j := fun j hj => q_cl (by omega)
  show ∃ v, f_X7_count S 4 a = some v ∧ f_X8_count S 124 a = some v
  unfold f_X7_count f_X8_count
  by_cases ha : 10 ≤ a ∧ a ≤ 17
  · obtain ⟨i, rfl, h1, h2⟩ := q_ex (lo := 10) (hi := 17) ha.1 ha.2 (by decide) (by decide)
    have ne : ∀ j : Nat, j < 8 → ¬ nI i = nI j := fun j hj => by rw [q_eq (by omega) (by omega)]; omega
    have es : nI i - 10 = nI (i - 10) := by rw [L10, q_sub (by omega)]
    simp only [es]
    refine ⟨S.1 125 (i - 10), ?_, ?_⟩
    · rw [e_within, if_pos ha, bnd_s, if_neg (by decide), ck7 hs, e0, ck5 hs, c_setting hs sc5 (by omega), bnd_s, hn.1.1 _ (by omega)]
    · rw [if_neg (show ¬ nI i = (0 : Int32) from ne 0 (by omega)), if_neg (show ¬ nI i = (1 : Int32) from ne 1 (by omega)), if_neg (show ¬ nI i = (2 : Int32) from ne 2 (by omega)), if_neg (show ¬ nI i = (3 : Int32) from ne 3 (by omega)), if_neg (show ¬ nI i = (4 : Int32) from ne 4 (by omega)), if_neg (show ¬ nI i = (5 : Int32) from ne 5 (by omega)), if_neg (show ¬ nI i = (6 : Int32) from ne 6 (by omega)), if_neg (show ¬ nI i = (7 : Int32) from ne 7 (by omega)), e_in, if_pos ha, bnd_s, if_neg (by decide), ck8 i2, i2.2.1, ckM i2 (by omega), q_cl (by omega)]
  · by_cases a0 : a = 0
    · refine ⟨S.1 125 8, ?_, ?_⟩
      · rw [e_within, if_neg ha, bnd_s, if_pos rfl, if_pos a0, ck7 hs, e0, ck5 hs, hn.1.2.2.1, hn.2.1]
      · simp only [L8, cl 8 (by omega)]
        rw [if_pos a0, ck8 i2, i2.2.1, ckM i2 (by omega)]
    by_cases a1 : a = 1
    · refine ⟨S.1 125 36, ?_, ?_⟩
      · rw [e_within, if_neg ha, bnd_s, if_pos rfl, if_neg a0, if_pos a1, ck7 hs, e0, ck5 hs, hn.2.2.2.2.2.2.2.1.1, hn.2.2.2.2.2.2.2.1.2.1]
      · simp only [L36, cl 36 (by omega)]
        rw [if_neg a0, if_pos a1, ck8 i2, i2.2.1, ckM i2 (by omega)]
    by_cases a2 : a = 2
    · refine ⟨S.1 125 33, ?_, ?_⟩
      · rw [e_within, if_neg ha, bnd_s, if_pos rfl, if_neg a0, if_neg a1, if_pos a2, ck7 hs, e0, ck5 hs, hn.2.2.2.2.1]
      · simp only [L33, cl 33 (by omega)]
        rw [if_neg a0, if_neg a1, if_pos a2, ck8 i2, i2.2.1, ckM i2 (by omega)]
    by_cases a3 : a = 3
    · refine ⟨nI (pc bl 17), ?_, ?_⟩
      · rw [e_within, if_neg ha, bnd_s, if_pos rfl, if_neg a0, if_neg a1, if_neg a2, if_pos a3, ck7 hs, e0, ck5 hs, hn.2.2.2.2.2.1.1, e_bitCount (by omega), bnd_s]
      · simp only [L34, cl 34 (by omega)]
        rw [if_neg a0, if_neg a1, if_neg a2, if_pos a3, ck8 i2, i2.2.1, ckM i2 (by omega), hn.2.2.2.2.2.1.2.1, e_bits (by omega), bnd_s]
    by_cases a4 : a = 4
    · refine ⟨S.1 125 35, ?_, ?_⟩
      · rw [e_within, if_neg ha, bnd_s, if_pos rfl, if_neg a0, if_neg a1, if_neg a2, if_neg a3, if_pos a4, ck7 hs, e0, ck5 hs, hn.2.2.2.2.2.2.1]
      · simp only [L35, cl 35 (by omega)]
        rw [if_neg a0, if_neg a1, if_neg a2, if_neg a3, if_pos a4, ck8 i2, i2.2.1, ckM i2 (by omega)]
    by_cases a5 : a = 5
    · refine ⟨if dkb (S.1 125) (S.1 125 33) = true then 1 else 0, ?_, ?_⟩
      · rw [e_within, if_neg ha, bnd_s, if_pos rfl, if_neg a0, if_neg a1, if_neg a2, if_neg a3, if_neg a4, if_pos a5, ck7 hs, e0, ck5 hs, ck7 hs, ck5 hs, L5, c_setting hs sc5 (by omega), bnd_s, ck7 hs, ck5 hs, L6, c_setting hs sc5 (by omega), bnd_s, hn.2.2.2.2.1, c_isDark _ _ _ (S.1 125) (hn.1.1 5 (by omega)).symm (hn.1.1 6 (by omega)).symm, bnd_s]
        by_cases hd : dkb (S.1 125) (S.1 125 33) = true
        · rw [if_pos hd, if_neg (by decide)]
        · rw [if_neg hd, if_pos rfl]
      · simp only [L33, cl 33 (by omega)]
        rw [if_neg a0, if_neg a1, if_neg a2, if_neg a3, if_neg a4, if_pos a5, ck8 i2, ck8 i2, i2.2.1, ckM i2 (by omega), e_isDark i2.1 (Or.inl rfl), bnd_s]
        by_cases hd : dkb (S.1 125) (S.1 125 33) = true
        · rw [if_pos hd, if_neg (by decide)]
        · rw [if_neg hd, if_pos rfl]
    by_cases a6 : a = 6
    · refine ⟨nI st, ?_, ?_⟩
      · rw [e_within, if_neg ha, bnd_s, if_pos rfl, if_neg a0, if_neg a1, if_neg a2, if_neg a3, if_neg a4, if_neg a5, if_pos a6, ck7 hs, i1.2.2.2.1.2.1]
      · rw [if_neg a0, if_neg a1, if_neg a2, if_neg a3, if_neg a4, if_neg a5, if_pos a6, ck8 i2, i3]
    by_cases a7 : a = 7
    · refine ⟨nI len, ?_, ?_⟩
      · rw [e_within, if_neg ha, bnd_s, if_pos rfl, if_neg a0, if_neg a1, if_neg a2, if_neg a3, if_neg a4, if_neg a5, if_neg a6, if_pos a7, ck7 hs, e3, ck26 hs, i1.2.2.2.2.2.1]
      · rw [if_neg a0, if_neg a1, if_neg a2, if_neg a3, if_neg a4, if_neg a5, if_neg a6, if_pos a7, ck8 i2, i4]
    refine ⟨-10000001, ?_, ?_⟩
    · rw [e_within, if_neg ha, bnd_s, if_pos rfl, if_neg a0, if_neg a1, if_neg a2, if_neg a3, if_neg a4, if_neg a5, if_neg a6, if_neg a7]
    · rw [if_neg a0, if_neg a1, if_neg a2, if_neg a3, if_neg a4, if_neg a5, if_neg a6, if_neg a7, e_in, if_neg ha, bnd_s, if_pos rfl]
theorem oq_edges {N : Nat} {S : St} (h : INV N S) (a b : Int32) : Oq S (fun S => f_X7_edges S 4 a b) (fun S => f_X8_edges S 124 a b) := by
  obtain ⟨st, len, i1, i2, i3, i4, i5, i6, i7⟩ := h
  have hs := i1.1
  have e0 : S.2.1 4 0 = 5 := hs.2.1.1
  obtain ⟨tc, fc, bl, R, C, hn⟩ := i1.2.2.1
  obtain ⟨tm, hok⟩ := i5.of hn.2.1 hn.1.2.1 hn.2.2.2.2.2.2.2.1.2.1 hn.2.2.2.2.2.2.2.1.2.2
  obtain ⟨f4, w36, f5⟩ := hn.2.2.2.2.2.2.2.1
  show ∃ v, f_X7_edges S 4 a b = some v ∧ f_X8_edges S 124 a b = some v
  unfold f_X7_edges f_X8_edges
  by_cases ha : 0 ≤ a ∧ a ≤ nI fc - 1
  · obtain ⟨f, rfl, hf⟩ := idx_ex (by omega) ha
    have hFb := ((hs.sc sc5).2.2.2.1 f (by omega)).rg
    have hc0 : (0 : Int32) ≤ 0 ∧ (0 : Int32) ≤ nI C - 1 := ⟨by decide, by
      have := hn.2.2.2.1.2
      rw [L1, q_sub (by omega), L0, q_le (by omega) (by omega)]; omega⟩
    by_cases hb : 0 ≤ b ∧ b ≤ nI R - 1
    · have hR := hn.2.2.1.2
      obtain ⟨r, rfl, hr⟩ := idx_ex (by omega) hb
      obtain ⟨fb, g1, g2, g3, g4, g5⟩ := c_edges hs sc5 hn hok.2.2.2.1.2.1 hf hr
      have hF := ((hs.sc sc5).2.2.2.1 f (by omega)).fr hs sc5
      have hm : fb &&& (1 <<< R - 1) < 1024 := Nat.lt_of_le_of_lt Nat.and_le_left g1
      by_cases hbit : fb.testBit r = true
      · refine ⟨-10000004, ?_, ?_⟩
        · rw [ck7 hs, e0, ck5 hs, c_frameAt_t hs sc5 f4 f5 hf, bnd_s, if_neg (by omega), ck7 hs, c_isPlace hs hn, if_pos ⟨hb, hc0⟩, bnd_s, if_neg (by decide), ck_t (okS hs.n hF.1 hF.2.2.1), g4, e_holds (by omega) (by omega), g3 r hr, bnd_s, if_pos hbit, if_neg (by decide)]
        · rw [ck8 i2, e_isFrame i2, w36, if_pos ha, bnd_s, if_neg (by decide), ck8 i2, e_isRow i2, hn.2.2.1.1, if_pos hb, bnd_s, if_neg (by decide), ck8 i2, e_isSeen i2 (by omega) (by omega) g2 g1, if_pos hbit, bnd_s, if_pos rfl]
      · refine ⟨nI (edf (S.1 125) C f r fb), ?_, ?_⟩
        · rw [ck7 hs, e0, ck5 hs, c_frameAt_t hs sc5 f4 f5 hf, bnd_s, if_neg (by omega), ck7 hs, c_isPlace hs hn, if_pos ⟨hb, hc0⟩, bnd_s, if_neg (by decide), ck_t (okS hs.n hF.1 hF.2.2.1), g4, e_holds (by omega) (by omega), g3 r hr, bnd_s, if_neg hbit, if_pos rfl, ck7 hs, ck5 hs, g5, bnd_s]
        · rw [ck8 i2, e_isFrame i2, w36, if_pos ha, bnd_s, if_neg (by decide), ck8 i2, e_isRow i2, hn.2.2.1.1, if_pos hb, bnd_s, if_neg (by decide), ck8 i2, e_isSeen i2 (by omega) (by omega) g2 g1, if_neg hbit, bnd_s, if_neg (by decide), ck8 i2, e_edgesIn i2 (by omega) (by omega) hn.2.2.2.1.1 (by have := hn.2.2.2.1.2; omega) hn.2.2.2.1.2.2 g2 g1, bnd_s]
    · refine ⟨-10000001, ?_, ?_⟩
      · rw [ck7 hs, e0, ck5 hs, c_frameAt_t hs sc5 f4 f5 hf, bnd_s, if_neg (by omega), ck7 hs, c_isPlace hs hn, if_neg (fun q => hb q.1), bnd_s, if_pos rfl]
      · rw [ck8 i2, e_isFrame i2, w36, if_pos ha, bnd_s, if_neg (by decide), ck8 i2, e_isRow i2, hn.2.2.1.1, if_neg hb, bnd_s, if_pos rfl]
  · refine ⟨-10000001, ?_, ?_⟩
    · rw [ck7 hs, e0, ck5 hs, c_frameAt_f hs sc5 f4 a ha f5, bnd_s, if_pos rfl]
    · rw [ck8 i2, e_isFrame i2, w36, if_neg ha, bnd_s, if_pos rfl]
theorem oq_pixel {N : Nat} {S : St} (h : INV N S) (a b c : Int32) : Oq S (fun S => f_X7_pixel S 4 a b c) (fun S => f_X8_pixel S 124 a b c) := by
  obtain ⟨st, len, i1, i2, i3, i4, i5, i6, i7⟩ := h
  have hs := i1.1
  have e0 : S.2.1 4 0 = 5 := hs.2.1.1
  obtain ⟨tc, fc, bl, R, C, hn⟩ := i1.2.2.1
  obtain ⟨tm, hok⟩ := i5.of hn.2.1 hn.1.2.1 hn.2.2.2.2.2.2.2.1.2.1 hn.2.2.2.2.2.2.2.1.2.2
  obtain ⟨f4, w36, f5⟩ := hn.2.2.2.2.2.2.2.1
  show ∃ v, f_X7_pixel S 4 a b c = some v ∧ f_X8_pixel S 124 a b c = some v
  unfold f_X7_pixel f_X8_pixel
  by_cases ha : 0 ≤ a ∧ a ≤ nI fc - 1
  · obtain ⟨f, rfl, hf⟩ := idx_ex (by omega) ha
    have hFb := ((hs.sc sc5).2.2.2.1 f (by omega)).rg
    by_cases hb : 0 ≤ b ∧ b ≤ nI R - 1
    · by_cases hc : 0 ≤ c ∧ c ≤ nI C - 1
      · have hR := hn.2.2.1.2
        have hC := hn.2.2.2.1.2
        obtain ⟨r, rfl, hr⟩ := idx_ex (by omega) hb
        obtain ⟨d, rfl, hd⟩ := idx_ex (by omega) hc
        obtain ⟨fb, g1, g2, g3, g4, g5⟩ := c_edges hs sc5 hn hok.2.2.2.1.2.1 hf hr
        have hF := ((hs.sc sc5).2.2.2.1 f (by omega)).fr hs sc5
        obtain ⟨y1, fb', y2, y3, y4, y5⟩ := hn.2.2.2.2.2.2.2.2.1 f hf
        have hfb : fb' = fb := by
          rw [← q_eq (by omega) (by omega), ← y3, ← g2]
          unfold fv1
          rw [show 37 + 162 * f + 1 = 38 + 162 * f by omega]
        subst hfb
        have hm : fb' &&& (1 <<< R - 1) < 1024 := Nat.lt_of_le_of_lt Nat.and_le_left g1
        by_cases hbit : fb'.testBit r = true
        · refine ⟨-10000004, ?_, ?_⟩
          · rw [ck7 hs, e0, ck5 hs, c_frameAt_t hs sc5 f4 f5 hf, bnd_s, if_neg (by omega), ck7 hs, c_isPlace hs hn, if_pos ⟨hb, hc⟩, bnd_s, if_neg (by decide), ck_t (okS hs.n hF.1 hF.2.2.1), g4, e_holds (by omega) (by omega), g3 r hr, bnd_s, if_pos hbit, if_neg (by decide)]
          · rw [ck8 i2, e_isFrame i2, w36, if_pos ha, bnd_s, if_neg (by decide), ck8 i2, e_isRow i2, hn.2.2.1.1, if_pos hb, bnd_s, if_neg (by decide), ck8 i2, e_isColumn i2, hn.2.2.2.1.1, if_pos hc, bnd_s, if_neg (by decide), ck8 i2, e_isSeen i2 (by omega) (by omega) g2 g1, if_pos hbit, bnd_s, if_pos rfl]
        · have hbit' : fb'.testBit r = false := by simpa using hbit
          refine ⟨S.1 125 (39 + 162 * f + 16 * r + d), ?_, ?_⟩
          · rw [ck7 hs, e0, ck5 hs, c_frameAt_t hs sc5 f4 f5 hf, bnd_s, if_neg (by omega), ck7 hs, c_isPlace hs hn, if_pos ⟨hb, hc⟩, bnd_s, if_neg (by decide), ck_t (okS hs.n hF.1 hF.2.2.1), g4, e_holds (by omega) (by omega), g3 r hr, bnd_s, if_neg hbit, if_pos rfl, ck_t (okS hs.n hF.1 hF.2.2.1), c_pixelAt hs.n hF (by omega) (by omega), bnd_s, y5 r hr hbit' d hd]
          · rw [ck8 i2, e_isFrame i2, w36, if_pos ha, bnd_s, if_neg (by decide), ck8 i2, e_isRow i2, hn.2.2.1.1, if_pos hb, bnd_s, if_neg (by decide), ck8 i2, e_isColumn i2, hn.2.2.2.1.1, if_pos hc, bnd_s, if_neg (by decide), ck8 i2, e_isSeen i2 (by omega) (by omega) g2 g1, if_neg hbit, bnd_s, if_neg (by decide), ck8 i2, e_pixelOf i2 (by omega) (by omega) (by omega), bnd_s]
            unfold fv1
            rw [show 37 + 162 * f + (2 + 16 * r + d) = 39 + 162 * f + 16 * r + d by omega]
      · refine ⟨-10000001, ?_, ?_⟩
        · rw [ck7 hs, e0, ck5 hs, c_frameAt_t hs sc5 f4 f5 hf, bnd_s, if_neg (by omega), ck7 hs, c_isPlace hs hn, if_neg (fun q => hc q.2), bnd_s, if_pos rfl]
        · rw [ck8 i2, e_isFrame i2, w36, if_pos ha, bnd_s, if_neg (by decide), ck8 i2, e_isRow i2, hn.2.2.1.1, if_pos hb, bnd_s, if_neg (by decide), ck8 i2, e_isColumn i2, hn.2.2.2.1.1, if_neg hc, bnd_s, if_pos rfl]
    · refine ⟨-10000001, ?_, ?_⟩
      · rw [ck7 hs, e0, ck5 hs, c_frameAt_t hs sc5 f4 f5 hf, bnd_s, if_neg (by omega), ck7 hs, c_isPlace hs hn, if_neg (fun q => hb q.1), bnd_s, if_pos rfl]
      · rw [ck8 i2, e_isFrame i2, w36, if_pos ha, bnd_s, if_neg (by decide), ck8 i2, e_isRow i2, hn.2.2.1.1, if_neg hb, bnd_s, if_pos rfl]
  · refine ⟨-10000001, ?_, ?_⟩
    · rw [ck7 hs, e0, ck5 hs, c_frameAt_f hs sc5 f4 a ha f5, bnd_s, if_pos rfl]
    · rw [ck8 i2, e_isFrame i2, w36, if_neg ha, bnd_s, if_pos rfl]
