/-! SET -/
theorem zz {p : Prop} [Decidable p] : (if p then (1 : Int32) else 0) = 0 ∨ (if p then (1 : Int32) else 0) = 1 := by
  by_cases h : p <;> simp [h]
theorem e_isSetting {i : Nat} (hi : i < 8) (b : Int32) : f_X8_isSetting (nI i) b = some (if S00.1 1 i ≤ b ∧ b ≤ S00.1 2 i then 1 else 0) := by
  unfold f_X8_isSetting
  have : i = 0 ∨ i = 1 ∨ i = 2 ∨ i = 3 ∨ i = 4 ∨ i = 5 ∨ i = 6 ∨ i = 7 := by omega
  rcases this with rfl | rfl | rfl | rfl | rfl | rfl | rfl | rfl
  · rw [if_pos (show nI 0 = (0 : Int32) from rfl), e_in, bnd_s, ck_t zz]
    rfl
  · rw [if_neg (show ¬ nI 1 = (0 : Int32) by decide), if_pos (show nI 1 = (1 : Int32) from rfl), e_in, bnd_s, ck_t zz]
    rfl
  · rw [if_neg (show ¬ nI 2 = (0 : Int32) by decide), if_neg (show ¬ nI 2 = (1 : Int32) by decide), if_pos (show nI 2 = (2 : Int32) from rfl), e_in, bnd_s, ck_t zz]
    rfl
  · rw [if_neg (show ¬ nI 3 = (0 : Int32) by decide), if_neg (show ¬ nI 3 = (1 : Int32) by decide), if_neg (show ¬ nI 3 = (2 : Int32) by decide), if_pos (show nI 3 = (3 : Int32) from rfl), e_in, bnd_s, ck_t zz]
    rfl
  · rw [if_neg (show ¬ nI 4 = (0 : Int32) by decide), if_neg (show ¬ nI 4 = (1 : Int32) by decide), if_neg (show ¬ nI 4 = (2 : Int32) by decide), if_neg (show ¬ nI 4 = (3 : Int32) by decide), if_pos (show nI 4 = (4 : Int32) from rfl), e_in, bnd_s, ck_t zz]
    rfl
  · rw [if_neg (show ¬ nI 5 = (0 : Int32) by decide), if_neg (show ¬ nI 5 = (1 : Int32) by decide), if_neg (show ¬ nI 5 = (2 : Int32) by decide), if_neg (show ¬ nI 5 = (3 : Int32) by decide), if_neg (show ¬ nI 5 = (4 : Int32) by decide), if_pos (show nI 5 = (5 : Int32) from rfl), e_in, bnd_s, ck_t zz]
    rfl
  · rw [if_neg (show ¬ nI 6 = (0 : Int32) by decide), if_neg (show ¬ nI 6 = (1 : Int32) by decide), if_neg (show ¬ nI 6 = (2 : Int32) by decide), if_neg (show ¬ nI 6 = (3 : Int32) by decide), if_neg (show ¬ nI 6 = (4 : Int32) by decide), if_neg (show ¬ nI 6 = (5 : Int32) by decide), if_pos (show nI 6 = (6 : Int32) from rfl), e_in, bnd_s, ck_t zz]
    rfl
  · rw [if_neg (show ¬ nI 7 = (0 : Int32) by decide), if_neg (show ¬ nI 7 = (1 : Int32) by decide), if_neg (show ¬ nI 7 = (2 : Int32) by decide), if_neg (show ¬ nI 7 = (3 : Int32) by decide), if_neg (show ¬ nI 7 = (4 : Int32) by decide), if_neg (show ¬ nI 7 = (5 : Int32) by decide), if_neg (show ¬ nI 7 = (6 : Int32) by decide), if_pos (show nI 7 = (7 : Int32) from rfl), e_in, bnd_s, ck_t zz]
    rfl
theorem e_isSetting_no {a : Int32} (ha : ¬ (0 ≤ a ∧ a ≤ 7)) (b : Int32) : f_X8_isSetting a b = some 0 := by
  unfold f_X8_isSetting
  rw [if_neg (fun e => ha (by rw [e]; decide)), if_neg (fun e => ha (by rw [e]; decide)), if_neg (fun e => ha (by rw [e]; decide)), if_neg (fun e => ha (by rw [e]; decide)), if_neg (fun e => ha (by rw [e]; decide)), if_neg (fun e => ha (by rw [e]; decide)), if_neg (fun e => ha (by rw [e]; decide)), if_neg (fun e => ha (by rw [e]; decide))]
theorem Rg.of {x : Int32} {lo hi : Nat} (h1 : nI lo ≤ x) (h2 : x ≤ nI hi) (hh : hi < 2147483648) (hl : lo < 2147483648) : Rg x lo hi := q_ex h1 h2 hh hl
theorem RN.set {S S' : St} {k tc fc bl R C i : Nat} {w : Wf} {b : Int32} (h : RN S k w tc fc bl R C) (hs : CSh S) (hk : Sc k) (hi : i < 8) (e : S' = upI S (k + 1) i b) (h0 : i = 0 → fc = 0 ∧ Rg b 1 10) (h1 : i = 1 → fc = 0 ∧ Rg b 4 16) : RNe S' k (fun j => if j = i then b else w j) := by
  obtain ⟨a1, a2, a3, a4, a5, a6, a7, a8, a9, a10, a11⟩ := h
  have hb := hk.rg
  have hne : ∀ x, x ≠ k + 1 → ∀ j, S'.1 x j = S.1 x j := fun x hx j => by rw [e, upI_at, if_neg (fun q => hx q.1)]
  have r' : S'.2.1 = S.2.1 := by rw [e]; rfl
  have f5 := a8.2.2
  have t4 := a1.2.1
  have hR : ∃ R', (if 0 = i then b else w 0) = nI R' ∧ (1 ≤ R' ∧ R' ≤ 10) ∧ (fc ≠ 0 → R' = R) := by
    by_cases c : 0 = i
    · obtain ⟨z, R', e1, e2, e3⟩ := h0 c.symm
      rw [if_pos c]
      exact ⟨R', e1, ⟨e2, e3⟩, fun q => absurd z q⟩
    · rw [if_neg c]
      exact ⟨R, a3.1, a3.2, fun _ => rfl⟩
  have hC : ∃ C', (if 1 = i then b else w 1) = nI C' ∧ (4 ≤ C' ∧ C' ≤ 16) ∧ (fc ≠ 0 → C' = C) := by
    by_cases c : 1 = i
    · obtain ⟨z, R', e1, e2, e3⟩ := h1 c.symm
      rw [if_pos c]
      exact ⟨R', e1, ⟨e2, e3⟩, fun q => absurd z q⟩
    · rw [if_neg c]
      exact ⟨C, a4.1, a4.2, fun _ => rfl⟩
  obtain ⟨R', r1, r2, r3⟩ := hR
  obtain ⟨C', c1, c2, c3⟩ := hC
  refine ⟨tc, fc, bl, R', C', ⟨fun j hj => ?_, t4, ?_, fun q hq j hj => ?_⟩, ?_, ⟨r1, r2⟩, ⟨c1, c2⟩, ?_, ?_, ?_, ?_, fun f hf => ?_, fun r hr => ?_, fun r hr => ?_⟩
  · rw [e, upI_at]
    by_cases c : j = i
    · rw [if_pos ⟨rfl, c⟩]
      show b = if j = i then b else w j
      rw [if_pos c]
    · rw [if_neg (fun q => c q.2)]
      show _ = if j = i then b else w j
      rw [if_neg c]
      exact a1.1 j hj
  · rw [hne k (by omega)]; exact a1.2.2.1
  · rw [hne _ (by omega)]
    show _ = if _ = i then b else _
    rw [if_neg (by omega)]
    exact a1.2.2.2 q hq j hj
  · show (if 8 = i then b else w 8) = _
    rw [if_neg (by omega)]; exact a2
  · show _ = if 33 = i then b else w 33
    rw [if_neg (by omega), hne k (by omega)]; exact a5
  · show _ ∧ (if 34 = i then b else w 34) = _ ∧ _
    rw [if_neg (by omega), hne k (by omega)]; exact a6
  · show _ = if 35 = i then b else w 35
    rw [if_neg (by omega), hne k (by omega)]; exact a7
  · show _ ∧ (if 36 = i then b else w 36) = _ ∧ _
    rw [if_neg (by omega), hne k (by omega)]; exact a8
  · have z1 := r3 (by omega)
    have z2 := c3 (by omega)
    subst z1
    subst z2
    rw [r']
    have hFb := ((hs.sc hk).2.2.2.1 f (by omega)).rg
    have hch : Ch (fun x => x = k + 1) S S' := by
      rw [e]
      exact Ch.up (A := fun x => x = k + 1) Ch.rf rfl
    refine ((a9 f hf).ch hch (by omega) (by omega)).w (fun j hj => ?_) r2.2 c2.2
    show (if _ = i then b else _) = _
    rw [if_neg (by omega)]
  · rw [hne _ (by omega)]
    show _ = if _ = i then b else _
    rw [if_neg (by omega)]; exact a10 r hr
  · rw [hne _ (by omega)]
    show _ = if _ = i then b else _
    rw [if_neg (by omega)]; exact a11 r hr
theorem OKw.set {N : Nat} {w : Wf} {i : Nat} {b : Int32} (h : OKw N w) (hi : i < 8) (hb : S00.1 1 i ≤ b ∧ b ≤ S00.1 2 i) : OKw N (fun j => if j = i then b else w j) := by
  obtain ⟨tc, fc, tm, a1, a2, a3, ⟨b2, b3, b4, b5, b6, b7⟩, a5, a6, a7, a8⟩ := h
  have t4 := a1.2
  have f5 := a2.2
  have z : ∀ j, 8 ≤ j → (if j = i then b else w j) = w j := fun j hj => if_neg (by omega)
  refine ⟨tc, fc, tm, ?_, ?_, ?_, ⟨?_, ?_, ?_, ?_, ?_, ?_⟩, fun q hq => ?_, fun f hf => ?_, fun r hr => ?_, fun r hr => ?_⟩
  · simp only [z 8 (by omega)]; exact a1
  · simp only [z 36 (by omega)]; exact a2
  · simp only [z 33 (by omega)]; exact a3
  · by_cases c : i = 2
    · subst c; exact Rg.of (lo := 0) (hi := 9) hb.1 hb.2 (by decide) (by decide)
    · simp only [if_neg (show ¬ 2 = i by omega)]; exact b2
  · by_cases c : i = 3
    · subst c; exact Rg.of (lo := 1) (hi := 255) hb.1 hb.2 (by decide) (by decide)
    · simp only [if_neg (show ¬ 3 = i by omega)]; exact b3
  · by_cases c : i = 4
    · subst c; exact Rg.of (lo := 0) (hi := 255) hb.1 hb.2 (by decide) (by decide)
    · simp only [if_neg (show ¬ 4 = i by omega)]; exact b4
  · by_cases c : i = 5
    · subst c; exact Rg.of (lo := 0) (hi := 20) hb.1 hb.2 (by decide) (by decide)
    · simp only [if_neg (show ¬ 5 = i by omega)]; exact b5
  · by_cases c : i = 6
    · subst c; exact Rg.of (lo := 0) (hi := 20) hb.1 hb.2 (by decide) (by decide)
    · simp only [if_neg (show ¬ 6 = i by omega)]; exact b6
  · by_cases c : i = 7
    · subst c; exact Rg.of (lo := 0) (hi := 100) hb.1 hb.2 (by decide) (by decide)
    · simp only [if_neg (show ¬ 7 = i by omega)]; exact b7
  · have := a5 q hq
    unfold TOk at *
    simp only [z _ (show 8 ≤ 9 + 6 * q by omega), z _ (show 8 ≤ 9 + 6 * q + 1 by omega), z _ (show 8 ≤ 9 + 6 * q + 2 by omega), z _ (show 8 ≤ 9 + 6 * q + 3 by omega), z _ (show 8 ≤ 9 + 6 * q + 4 by omega), z _ (show 8 ≤ 9 + 6 * q + 5 by omega)]
    exact this
  · simp only [z _ (show 8 ≤ 37 + 162 * f by omega)]; exact a6 f hf
  · simp only [z _ (show 8 ≤ 847 + r by omega)]; exact a7 r hr
  · simp only [z _ (show 8 ≤ 857 + r by omega)]; exact a8 r hr
theorem op_set {N : Nat} {S : St} (h : INV N S) (a b : Int32) : Op N S (fun S => f_X7_set S 4 a b) (fun S => f_X8_set S 124 a b) := by
  have h0 := h
  obtain ⟨st, len, i1, i2, i3, i4, i5, i6, i7⟩ := h
  by_cases ha : 0 ≤ a ∧ a ≤ 7
  · obtain ⟨i, rfl, -, hi⟩ := q_ex (lo := 0) (hi := 7) ha.1 ha.2 (by decide) (by decide)
    have hs := i1.1
    have hst := i1.2.1 i (by omega)
    have n1 : f_X7_numberIn S 1 (nI i) = some (S00.1 1 i) := by
      rw [c_numberIn hs.n (n := 8) rfl (by decide) rfl (by decide) (by omega), if_pos (by omega), hst.1]
    have n2 : f_X7_numberIn S 2 (nI i) = some (S00.1 2 i) := by
      rw [c_numberIn hs.n (n := 8) rfl (by decide) rfl (by decide) (by omega), if_pos (by omega), hst.2]
    obtain ⟨tc, fc, bl, R, C, hn⟩ := i1.2.2.1
    have f4 := hn.2.2.2.2.2.2.2.1
    by_cases hb : S00.1 1 i ≤ b ∧ b ≤ S00.1 2 i
    · by_cases hgo : 2 < i ∨ fc = 0
      · refine Op.keep h0 (fun j => if j = i then b else S.1 125 j) (S.1 125 i) (fun S1 s1 r1 q1 => ?_) (fun S1 S2 m1 e1 n1 m2 e2 => ?_) ((i5.set (by omega) hb).mono (by omega))
        · obtain ⟨tc', fc', bl', R', C', q1⟩ := q1
          have hfc : fc' = fc := by
            have := q1.2.2.2.2.2.2.2.1
            rw [← q_eq (by omega) (by omega), ← this.2.1, f4.2.1]
          subst hfc
          show ∃ S2, f_X7_set S 4 (nI i) b = _ ∧ _
          have e0 : S.2.1 4 0 = 5 := hs.2.1.1
          have e0' : S1.2.1 4 0 = 5 := s1.2.1.1
          have hd := sc5.kds
          have hj : f_X7_set_J55 S 4 (nI i) b = some (S.1 125 i, upI S1 6 i b) := by
            unfold f_X7_set_J55
            rw [ck7 hs, r1, bnd_s, ck7 s1, e0', ck5 s1, c_setting s1 sc5 (by omega), bnd_s, ck7 s1, ck5 s1]
            unfold f_X3_changeSetting
            have e5 : S1.2.1 5 0 = 6 := (s1.sc sc5).1.1
            have a6 : Ar 6 8 := ⟨rfl, rfl, by decide, by decide, by decide⟩
            simp only [e5, lnA a6]
            rw [if_neg (by rw [L0, q_lt (by omega) (by omega)]; omega), ck5 s1, ck_t (okA s1.n a6), if_neg (by rw [q_le (by omega) (by omega)]; omega), ck5 s1, cwA s1.n a6 (by omega)]
            simp only [q_cl (show i < 2147483648 by omega)]
            rw [vlt_s, bnd_s, q1.1.1 i (by omega)]
          refine ⟨upI S1 6 i b, ?_, s1.rf rfl rfl, Ch.up (A := AN) Ch.rf (by unfold AN; omega), ?_⟩
          · unfold f_X7_set
            rw [e_within, if_pos ha, bnd_s, if_neg (by decide), n1, bnd_s, n2, bnd_s, e_within, if_pos hb, bnd_s, if_neg (by decide)]
            by_cases c : 2 < i
            · rw [if_pos (by rw [L2, q_lt (by omega) (by omega)]; exact c)]
              exact hj
            · rw [if_neg (by rw [L2, q_lt (by omega) (by omega)]; exact c), ck7 hs, e0, ck5 hs, if_pos (by rw [f4.1, L0, q_le (by omega) (by omega)]; omega)]
              exact hj
          · refine q1.set s1 sc5 (by omega) rfl (fun z => ⟨by omega, ?_⟩) (fun z => ⟨by omega, ?_⟩)
            · subst z
              exact Rg.of (lo := 1) (hi := 10) hb.1 hb.2 (by decide) (by decide)
            · subst z
              exact Rg.of (lo := 4) (hi := 16) hb.1 hb.2 (by decide) (by decide)
        · show ∃ S3, f_X8_set S1 124 (nI i) b = _ ∧ _
          have hj : f_X8_set_J29 S1 124 (nI i) b = some (S.1 125 i, upI S2 125 i b) := by
            unfold f_X8_set_J29
            rw [ck8 m1, n1, bnd_s, ck8 m2, m2.2.1, ckA m2.1 ar125 (by omega), ck8 m2, cwA m2.1 ar125 (by omega)]
            simp only [q_cl (show i < 2147483648 by omega)]
            rw [vlt_s, e2]
          refine ⟨upI S2 125 i b, ?_, Ex.rf.upp (Or.inl rfl), fun j hj => ?_⟩
          · unfold f_X8_set
            rw [e_isSetting (by omega), if_pos hb, bnd_s, if_neg (by decide)]
            by_cases c : 2 < i
            · rw [if_pos (by rw [L2, q_lt (by omega) (by omega)]; exact c)]
              exact hj
            · rw [if_neg (by rw [L2, q_lt (by omega) (by omega)]; exact c), ck8 m1, m1.2.1, L36, ckA m1.1 ar125 (by omega)]
              simp only [q_cl (show 36 < 2147483648 by omega)]
              rw [e1, if_pos (by rw [f4.2.1, L0, q_le (by omega) (by omega)]; omega)]
              exact hj
          · rw [upI_at, e2]
            by_cases c : j = i
            · rw [if_pos ⟨rfl, c⟩, if_pos c]
            · rw [if_neg (fun q => c q.2), if_neg c]
      · have c2 : ¬ 2 < i := fun z => hgo (Or.inl z)
        have c3 : fc ≠ 0 := fun z => hgo (Or.inr z)
        have e0 : S.2.1 4 0 = 5 := hs.2.1.1
        refine Op.no h0 (-10000002) ?_ ?_
        · show f_X7_set S 4 (nI i) b = _
          unfold f_X7_set
          rw [e_within, if_pos ha, bnd_s, if_neg (by decide), n1, bnd_s, n2, bnd_s, e_within, if_pos hb, bnd_s, if_neg (by decide), if_neg (by rw [L2, q_lt (by omega) (by omega)]; exact c2), ck7 hs, e0, ck5 hs, if_neg (by rw [f4.1, L0, q_le (by omega) (by omega)]; omega)]
        · show f_X8_set S 124 (nI i) b = _
          unfold f_X8_set
          rw [e_isSetting (by omega), if_pos hb, bnd_s, if_neg (by decide), if_neg (by rw [L2, q_lt (by omega) (by omega)]; exact c2), ck8 i2, i2.2.1, L36, ckA i2.1 ar125 (by omega)]
          simp only [q_cl (show 36 < 2147483648 by omega)]
          rw [if_neg (by rw [f4.2.1, L0, q_le (by omega) (by omega)]; omega)]
    · refine Op.no h0 (-10000001) ?_ ?_
      · show f_X7_set S 4 (nI i) b = _
        unfold f_X7_set
        rw [e_within, if_pos ha, bnd_s, if_neg (by decide), n1, bnd_s, n2, bnd_s, e_within, if_neg hb, bnd_s, if_pos rfl]
      · show f_X8_set S 124 (nI i) b = _
        unfold f_X8_set
        rw [e_isSetting (by omega), if_neg hb, bnd_s, if_pos rfl]
  · refine Op.no h0 (-10000001) ?_ ?_
    · show f_X7_set S 4 a b = _
      unfold f_X7_set
      rw [e_within, if_neg ha, bnd_s, if_pos rfl]
    · show f_X8_set S 124 a b = _
      unfold f_X8_set
      rw [e_isSetting_no ha, bnd_s, if_pos rfl]
