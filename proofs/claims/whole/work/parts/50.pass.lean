/-! PASS, BLIND -/
theorem RN.sc {S S' : St} {k tc fc bl R C bl' : Nat} {w w' : Wf} {t : Int32} (h : RN S k w tc fc bl R C) (hs : CSh S) (hk : Sc k) (r' : S'.2 = S.2) (e : ∀ x j, S'.1 x j = if x = k ∧ j = 6 then t else if x = k ∧ j = 7 then nI bl' else S.1 x j) (hw : ∀ j, j < 867 → w' j = if j = 33 then t else if j = 34 then nI bl' else w j) (hb : bl' < 1024) : RN S' k w' tc fc bl' R C := by
  obtain ⟨a1, a2, a3, a4, a5, a6, a7, a8, a9, a10, a11⟩ := h
  have hbk := hk.rg
  have hne : ∀ x, x ≠ k → ∀ j, S'.1 x j = S.1 x j := fun x hx j => by rw [e, if_neg (fun q => hx q.1), if_neg (fun q => hx q.1)]
  have hk' : ∀ j, j ≠ 6 → j ≠ 7 → S'.1 k j = S.1 k j := fun j h1 h2 => by rw [e, if_neg (fun q => h1 q.2), if_neg (fun q => h2 q.2)]
  have ww : ∀ j, j < 867 → j ≠ 33 → j ≠ 34 → w' j = w j := fun j h0 h1 h2 => by rw [hw j h0, if_neg h1, if_neg h2]
  have f5 := a8.2.2
  have t4 := a1.2.1
  refine ⟨⟨fun j hj => by rw [hne _ (by omega), ww j (by omega) (by omega) (by omega)]; exact a1.1 j hj, t4, by rw [hk' 2 (by omega) (by omega)]; exact a1.2.2.1, fun q hq j hj => by rw [hne _ (by omega), ww _ (by omega) (by omega) (by omega)]; exact a1.2.2.2 q hq j hj⟩, by rw [ww 8 (by omega) (by omega) (by omega)]; exact a2, by rw [ww 0 (by omega) (by omega) (by omega)]; exact a3, by rw [ww 1 (by omega) (by omega) (by omega)]; exact a4, by rw [e, if_pos ⟨rfl, rfl⟩, hw 33 (by omega), if_pos rfl], ⟨by rw [e, if_neg (by omega), if_pos ⟨rfl, rfl⟩], by rw [hw 34 (by omega), if_neg (by omega), if_pos rfl], hb⟩, by rw [hk' 5 (by omega) (by omega), ww 35 (by omega) (by omega) (by omega)]; exact a7, by rw [hk' 4 (by omega) (by omega), ww 36 (by omega) (by omega) (by omega)]; exact a8, fun f hf => ?_, fun r hr => by rw [hne _ (by omega), ww _ (by omega) (by omega) (by omega)]; exact a10 r hr, fun r hr => by rw [hne _ (by omega), ww _ (by omega) (by omega) (by omega)]; exact a11 r hr⟩
  have er : S'.2.1 = S.2.1 := by rw [r']
  rw [er]
  have hFb := ((hs.sc hk).2.2.2.1 f (by omega)).rg
  have hch : Ch (fun x => x = k) S S' := ⟨by rw [r'], fun x hx => ⟨by
    funext j
    exact hne x hx j, by rw [er]⟩⟩
  exact ((a9 f hf).ch hch (by omega) (by omega)).w (fun j hj => ww _ (by omega) (by omega) (by omega)) a3.2.2 a4.2.2
theorem OKn.cong {N : Nat} {w w' : Wf} {tc fc tm : Nat} (h : OKn N w tc fc tm) (hw : ∀ j, j < 867 → j ≠ 0 → j ≠ 1 → j ≠ 34 → j ≠ 35 → w' j = w j) : OKn N w' tc fc tm := by
  obtain ⟨a1, a2, a3, a4, a5, a6, a7, a8⟩ := h
  have t4 := a1.2
  have f5 := a2.2
  have e : ∀ j, 2 ≤ j → j < 34 → w' j = w j := fun j h1 h2 => hw j (by omega) (by omega) (by omega) (by omega) (by omega)
  have e2 : ∀ j, 36 ≤ j → j < 867 → w' j = w j := fun j h1 h2 => hw j (by omega) (by omega) (by omega) (by omega) (by omega)
  refine ⟨by rw [e 8 (by omega) (by omega)]; exact a1, by rw [e2 36 (by omega) (by omega)]; exact a2, by rw [e 33 (by omega) (by omega)]; exact a3, by rw [e 2 (by omega) (by omega), e 3 (by omega) (by omega), e 4 (by omega) (by omega), e 5 (by omega) (by omega), e 6 (by omega) (by omega), e 7 (by omega) (by omega)]; exact a4, fun q hq => ?_, fun f hf => by rw [e2 _ (by omega) (by omega)]; exact a6 f hf, fun r hr => by rw [e2 _ (by omega) (by omega)]; exact a7 r hr, fun r hr => by rw [e2 _ (by omega) (by omega)]; exact a8 r hr⟩
  have := a5 q hq
  unfold TOk at *
  rw [e _ (by omega) (by omega), e _ (by omega) (by omega), e _ (by omega) (by omega), e _ (by omega) (by omega), e _ (by omega) (by omega), e _ (by omega) (by omega)]
  exact this
/-- time goes on -/
theorem OKn.later {N : Nat} {w w' : Wf} {tc fc tm d : Nat} (h : OKn N w tc fc tm) (hd : tm + d ≤ 20000) (hw : ∀ j, j < 867 → w' j = if j = 33 then nI (tm + d) else w j) : OKn N w' tc fc (tm + d) := by
  obtain ⟨a1, a2, a3, a4, a5, a6, a7, a8⟩ := h
  have t4 := a1.2
  have f5 := a2.2
  have e : ∀ j, j < 867 → j ≠ 33 → w' j = w j := fun j h1 h2 => by rw [hw j h1, if_neg h2]
  refine ⟨by rw [e 8 (by omega) (by omega)]; exact a1, by rw [e 36 (by omega) (by omega)]; exact a2, ⟨by rw [hw 33 (by omega), if_pos rfl], hd⟩, by rw [e 2 (by omega) (by omega), e 3 (by omega) (by omega), e 4 (by omega) (by omega), e 5 (by omega) (by omega), e 6 (by omega) (by omega), e 7 (by omega) (by omega)]; exact a4, fun q hq => ?_, fun f hf => by rw [e _ (by omega) (by omega)]; exact a6 f hf, fun r hr => by rw [e _ (by omega) (by omega)]; exact a7 r hr, fun r hr => by rw [e _ (by omega) (by omega)]; exact a8 r hr⟩
  obtain ⟨a, b, wd, br, P, V, h1, h2, ⟨h3, h4, h5⟩, ⟨h6, h7, h8⟩, h9, h12⟩ := a5 q hq
  have m := vmul (t := d) h7 h8
  have ed : V * ((tm + d : Nat) : Int) = V * tm + V * d := by
    rw [Int.natCast_add, Int.mul_add]
  refine ⟨a, b, wd, br, P, V, by rw [e _ (by omega) (by omega)]; exact h1, by rw [e _ (by omega) (by omega)]; exact h2, ⟨by rw [e _ (by omega) (by omega)]; exact h3, by rw [ed]; omega, by rw [ed]; omega⟩, ⟨by rw [e _ (by omega) (by omega)]; exact h6, h7, h8⟩, by rw [e _ (by omega) (by omega)]; exact h9, by rw [e _ (by omega) (by omega)]; exact h12⟩
theorem op_pass {N : Nat} {S : St} (h : INV N S) (a : Int32) : Op N S (fun S => f_X7_pass S 4 a) (fun S => f_X8_pass S 124 a) := by
  have h0 := h
  obtain ⟨st, len, i1, i2, i3, i4, i5, i6, i7⟩ := h
  have hs := i1.1
  have e0 : S.2.1 4 0 = 5 := hs.2.1.1
  by_cases ha : 1 ≤ a ∧ a ≤ 200
  · obtain ⟨d, rfl, hd1, hd2⟩ := q_ex (lo := 1) (hi := 200) ha.1 ha.2 (by decide) (by decide)
    obtain ⟨tc, fc, bl, R, C, hn⟩ := i1.2.2.1
    obtain ⟨tm, hok⟩ := i5.of hn.2.1 hn.1.2.1 hn.2.2.2.2.2.2.2.1.2.1 hn.2.2.2.2.2.2.2.1.2.2
    have w33 := hok.2.2.1.1
    have tm2 := hok.2.2.1.2
    have t6 : S.1 5 6 = nI tm := hn.2.2.2.2.1.trans w33
    by_cases hb : tm + d ≤ 20000
    · refine Op.keep h0 (fun j => if j = 33 then nI (tm + d) else S.1 125 j) (nI (tm + d)) (fun S1 s1 r1 q1 => ?_) (fun S1 S2 m1 e1 n1 m2 e2 => ?_) (OKw.mono ⟨tc, fc, tm + d, hok.later hb (fun _ _ => rfl)⟩ (by omega))
      · obtain ⟨tc', fc', bl', R', C', q1⟩ := q1
        have e0' : S1.2.1 4 0 = 5 := s1.2.1.1
        have t6' : S1.1 5 6 = nI tm := q1.2.2.2.2.1.trans w33
        refine ⟨upI S1 5 6 (nI (tm + d)), ?_, s1.rf rfl rfl, Ch.up (A := AN) Ch.rf (by unfold AN; omega), tc', fc', bl', R', C', q1.sc (S' := upI S1 5 6 (nI (tm + d))) (bl' := bl') (t := nI (tm + d)) s1 sc5 rfl (fun x j => ?_) (fun j hj => ?_) q1.2.2.2.2.2.1.2.2⟩
        · show f_X7_pass S 4 (nI d) = _
          unfold f_X7_pass
          have e0'' : (upI S1 5 6 (nI (tm + d))).2.1 4 0 = 5 := e0'
          have s2 : CSh (upI S1 5 6 (nI (tm + d))) := s1.rf rfl rfl
          rw [e_within, if_pos ha, bnd_s, if_neg (by decide), ck7 hs, e0, ck5 hs, t6, q_add, if_pos (by rw [L20000, q_le (by omega) (by omega)]; exact hb), ck7 hs, r1, bnd_s, ck7 s1, e0', ck5 s1, ck5 s1, vlt_s, t6', q_add, ck7 s2, e0'', ck5 s2, upI_at, if_pos ⟨rfl, rfl⟩]
        · rw [upI_at]
          by_cases c : x = 5 ∧ j = 6
          · rw [if_pos c, if_pos c]
          · rw [if_neg c, if_neg c]
            by_cases c2 : x = 5 ∧ j = 7
            · rw [if_pos c2, c2.1, c2.2]; exact q1.2.2.2.2.2.1.1
            · rw [if_neg c2]
        · show (if j = 33 then nI (tm + d) else S.1 125 j) = _
          by_cases c : j = 33
          · rw [if_pos c, if_pos c]
          · rw [if_neg c, if_neg c]
            by_cases c2 : j = 34
            · rw [if_pos c2, c2]; exact q1.2.2.2.2.2.1.2.1
            · rw [if_neg c2]
      · refine ⟨upI S2 125 33 (nI (tm + d)), ?_, Ex.rf.upp (Or.inl rfl), fun j hj => ?_⟩
        · show f_X8_pass S1 124 (nI d) = _
          unfold f_X8_pass
          rw [e_in, if_pos ha, bnd_s, if_neg (by decide), ck8 m1, m1.2.1, L33, ckM m1 (by omega)]
          simp only [q_cl (show 33 < 2147483648 by omega)]
          have m3 : MSh (upI S2 125 33 (nI (tm + d))) := m2
          have e3 : (upI S2 125 33 (nI (tm + d))).2.1 124 0 = 125 := m2.2.1
          rw [e1, w33, q_add, if_pos (by rw [L20000, q_le (by omega) (by omega)]; exact hb), ck8 m1, n1, bnd_s, ck8 m2, m2.2.1, ckM m2 (by omega), cwM m2 (by omega), vlt_s, e2, w33, q_add, ck8 m3, e3, ckM m3 (by omega), upI_at, if_pos ⟨rfl, rfl⟩]
        · rw [upI_at, e2]
          by_cases c : j = 33
          · rw [if_pos ⟨rfl, c⟩, if_pos c]
          · rw [if_neg (fun q => c q.2), if_neg c]
    · refine Op.no h0 (-10000003) ?_ ?_
      · show f_X7_pass S 4 (nI d) = _
        unfold f_X7_pass
        rw [e_within, if_pos ha, bnd_s, if_neg (by decide), ck7 hs, e0, ck5 hs, t6, q_add, if_neg (by rw [L20000, q_le (by omega) (by omega)]; exact hb)]
      · show f_X8_pass S 124 (nI d) = _
        unfold f_X8_pass
        rw [e_in, if_pos ha, bnd_s, if_neg (by decide), ck8 i2, i2.2.1, L33, ckM i2 (by omega)]
        simp only [q_cl (show 33 < 2147483648 by omega)]
        rw [w33, q_add, if_neg (by rw [L20000, q_le (by omega) (by omega)]; exact hb)]
  · refine Op.no h0 (-10000001) ?_ ?_
    · show f_X7_pass S 4 a = _
      unfold f_X7_pass
      rw [e_within, if_neg ha, bnd_s, if_pos rfl]
    · show f_X8_pass S 124 a = _
      unfold f_X8_pass
      rw [e_in, if_neg ha, bnd_s, if_pos rfl]
theorem op_blind {N : Nat} {S : St} (h : INV N S) (a b : Int32) : Op N S (fun S => f_X7_blind S 4 a b) (fun S => f_X8_blind S 124 a b) := by
  have h0 := h
  obtain ⟨st, len, i1, i2, i3, i4, i5, i6, i7⟩ := h
  have hs := i1.1
  have e0 : S.2.1 4 0 = 5 := hs.2.1.1
  by_cases ha : 0 ≤ a ∧ a ≤ 9
  · by_cases hb : 0 ≤ b ∧ b ≤ 1
    · obtain ⟨i, rfl, -, hi⟩ := q_ex (lo := 0) (hi := 9) ha.1 ha.2 (by decide) (by decide)
      obtain ⟨n, rfl, -, hn1⟩ := q_ex (lo := 0) (hi := 1) hb.1 hb.2 (by decide) (by decide)
      obtain ⟨tc, fc, bl, R, C, hn⟩ := i1.2.2.1
      obtain ⟨b7, b34, bb⟩ := hn.2.2.2.2.2.1
      have hJ : f_X7_blind S 4 (nI i) (nI n) = f_X7_blind_J43 S 4 (nI i) (nI n) (if bl.testBit i = true then 1 else 0) := by
        unfold f_X7_blind
        rw [e_within, if_pos ha, bnd_s, if_neg (by decide), e_within, if_pos hb, bnd_s, if_neg (by decide), ck7 hs, e0, ck5 hs, b7, e_holds (by omega) (by omega), bnd_s]
        have hn01 : n = 0 ∨ n = 1 := by omega
        rcases hn01 with rfl | rfl
        · rw [if_neg (show ¬ nI 0 = (1 : Int32) by decide)]; rfl
        · rw [if_pos (show nI 1 = (1 : Int32) from rfl)]; rfl
      have hM : ∀ S1 : St, MSh S1 → S1.1 125 = S.1 125 → f_X8_blind S1 124 (nI i) (nI n) = (if (if bl.testBit i = true then (1 : Int32) else 0) = nI n then (some ((-10000002 : Int32), S1) : Option (Int32 × St)) else (chk (okc S1 8 124) (bnd (f_X8_notes S1 124) fun S_3 => (chk (okc S_3 8 124) (chk (ina S_3 10 (S_3.2.1 124 0) 34) (chk (inw S_3 10 (S_3.2.1 124 0) 34) (vlt (upI S_3 (S_3.2.1 124 0) (34 : Int32).toNatClampNeg ((S_3.1 (S_3.2.1 124 0) (34 : Int32).toNatClampNeg) ^^^ (1 <<< (nI i &&& 31)))) fun S_4 => (chk (okc S_4 8 124) (chk (ina S_4 10 (S_4.2.1 124 0) 34) (bnd (f_X8_bits (S_4.1 (S_4.2.1 124 0) (34 : Int32).toNatClampNeg)) fun r5 => (some (r5, S_4)))))))))))) := by
        intro S1 m1 e1
        unfold f_X8_blind
        have c34 : (34 : Int32).toNatClampNeg = 34 := rfl
        rw [e_in, if_pos ha, bnd_s, if_neg (by decide), e_in, if_pos hb, bnd_s, if_neg (by decide), ck8 m1, m1.2.1, ck_t (show ina S1 10 125 34 from inaN m1.1 rfl rfl (by decide) (by decide) (show 34 < 867 by omega))]
        simp only [c34, e1, b34, q_bitv (show bl < 2147483648 by omega) (show i < 32 by omega)]
      by_cases hbit : (if bl.testBit i = true then (1 : Int32) else 0) = nI n
      · refine Op.no h0 (-10000002) ?_ ?_
        · show f_X7_blind S 4 (nI i) (nI n) = _
          rw [hJ]
          unfold f_X7_blind_J43
          rw [if_pos hbit]
        · show f_X8_blind S 124 (nI i) (nI n) = _
          rw [hM S i2 rfl, if_pos hbit]
      · have hx : bl ^^^ (1 <<< i) < 1024 := by
          refine Nat.xor_lt_two_pow (n := 10) bb ?_
          rw [Nat.one_shiftLeft]
          exact Nat.pow_lt_pow_right (by omega) (by omega)
        refine Op.keep h0 (fun j => if j = 34 then nI (bl ^^^ (1 <<< i)) else S.1 125 j) (nI (pc (bl ^^^ (1 <<< i)) 17)) (fun S1 s1 r1 q1 => ?_) (fun S1 S2 m1 e1 n1 m2 e2 => ?_) ?_
        · obtain ⟨tc', fc', bl', R', C', q1⟩ := q1
          have e0' : S1.2.1 4 0 = 5 := s1.2.1.1
          have b7' : S1.1 5 7 = nI bl := q1.2.2.2.2.2.1.1.trans (q1.2.2.2.2.2.1.2.1.symm.trans b34)
          refine ⟨upI S1 5 7 (nI (bl ^^^ (1 <<< i))), ?_, s1.rf rfl rfl, Ch.up (A := AN) Ch.rf (by unfold AN; omega), tc', fc', bl ^^^ (1 <<< i), R', C', q1.sc (S' := upI S1 5 7 (nI (bl ^^^ (1 <<< i)))) (bl' := bl ^^^ (1 <<< i)) (t := S.1 125 33) s1 sc5 rfl (fun x j => ?_) (fun j hj => ?_) hx⟩
          · show f_X7_blind S 4 (nI i) (nI n) = _
            rw [hJ]
            unfold f_X7_blind_J43
            have e0'' : (upI S1 5 7 (nI (bl ^^^ (1 <<< i)))).2.1 4 0 = 5 := e0'
            have s2 : CSh (upI S1 5 7 (nI (bl ^^^ (1 <<< i)))) := s1.rf rfl rfl
            have hsh : (1 : Int32) <<< (nI i &&& 31) = nI (1 <<< i) := q_shl 1 (by omega)
            rw [if_neg hbit, ck7 hs, r1, bnd_s, ck7 s1, e0', ck5 s1, ck5 s1, vlt_s, b7', hsh, q_xor, ck7 s2, e0'', ck5 s2, upI_at, if_pos ⟨rfl, rfl⟩, e_bitCount (by omega), bnd_s]
          · rw [upI_at]
            by_cases c : x = 5 ∧ j = 7
            · rw [if_pos c, if_neg (by omega)]
            · rw [if_neg c]
              by_cases c2 : x = 5 ∧ j = 6
              · rw [if_pos c2, c2.1, c2.2]; exact q1.2.2.2.2.1
              · rw [if_neg c2]
          · show (if j = 34 then nI (bl ^^^ (1 <<< i)) else S.1 125 j) = _
            by_cases c : j = 34
            · rw [if_pos c, if_neg (by omega)]
            · rw [if_neg c]
              by_cases c2 : j = 33
              · rw [if_pos c2, c2]
              · rw [if_neg c2]
        · refine ⟨upI S2 125 34 (nI (bl ^^^ (1 <<< i))), ?_, Ex.rf.upp (Or.inl rfl), fun j hj => ?_⟩
          · show f_X8_blind S1 124 (nI i) (nI n) = _
            have c34 : (34 : Int32).toNatClampNeg = 34 := rfl
            have m3 : MSh (upI S2 125 34 (nI (bl ^^^ (1 <<< i)))) := m2
            have e3 : (upI S2 125 34 (nI (bl ^^^ (1 <<< i)))).2.1 124 0 = 125 := m2.2.1
            have hsh : (1 : Int32) <<< (nI i &&& 31) = nI (1 <<< i) := q_shl 1 (by omega)
            rw [hM S1 m1 e1, if_neg hbit, ck8 m1, n1, bnd_s, ck8 m2, m2.2.1, ck_t (show ina S2 10 125 34 from inaN m2.1 rfl rfl (by decide) (by decide) (show 34 < 867 by omega)), ck_t (show inw S2 10 125 34 from ⟨inaN m2.1 rfl rfl (by decide) (by decide) (show 34 < 867 by omega), by decide⟩)]
            simp only [c34, vlt_s, e2, b34, hsh, q_xor]
            rw [ck8 m3, e3, ck_t (show ina (upI S2 125 34 (nI (bl ^^^ (1 <<< i)))) 10 125 34 from inaN m3.1 rfl rfl (by decide) (by decide) (show 34 < 867 by omega)), upI_at, if_pos ⟨rfl, rfl⟩, e_bits (by omega), bnd_s]
          · rw [upI_at, e2]
            by_cases c : j = 34
            · rw [if_pos ⟨rfl, c⟩, if_pos c]
            · rw [if_neg (fun q => c q.2), if_neg c]
        · obtain ⟨a1, a2, a3, a4⟩ := i5
          exact OKw.mono ⟨a1, a2, a3, a4.cong (fun j _ _ _ h34 _ => if_neg h34)⟩ (by omega)
    · refine Op.no h0 (-10000001) ?_ ?_
      · show f_X7_blind S 4 a b = _
        unfold f_X7_blind
        rw [e_within, if_pos ha, bnd_s, if_neg (by decide), e_within, if_neg hb, bnd_s, if_pos rfl]
      · show f_X8_blind S 124 a b = _
        unfold f_X8_blind
        rw [e_in, if_pos ha, bnd_s, if_neg (by decide), e_in, if_neg hb, bnd_s, if_pos rfl]
  · refine Op.no h0 (-10000001) ?_ ?_
    · show f_X7_blind S 4 a b = _
      unfold f_X7_blind
      rw [e_within, if_neg ha, bnd_s, if_pos rfl]
    · show f_X8_blind S 124 a b = _
      unfold f_X8_blind
      rw [e_in, if_neg ha, bnd_s, if_pos rfl]
