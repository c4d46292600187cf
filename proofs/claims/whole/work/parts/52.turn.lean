/-! TURN, FORGET, UNDO -/
theorem e_isThing {S : St} (hm : MSh S) (a : Int32) : f_X8_isThing S 124 a = some (if 0 ≤ a ∧ a ≤ S.1 125 8 - 1 then 1 else 0) := by
  unfold f_X8_isThing
  have c8 : (nI 8).toNatClampNeg = 8 := rfl
  simp only [L8, c8]
  rw [ck8 hm, hm.2.1, ckM hm (by omega), e_in, bnd_s, ck_t zz]
theorem e_isFrame {S : St} (hm : MSh S) (a : Int32) : f_X8_isFrame S 124 a = some (if 0 ≤ a ∧ a ≤ S.1 125 36 - 1 then 1 else 0) := by
  unfold f_X8_isFrame
  have c8 : (nI 36).toNatClampNeg = 36 := rfl
  simp only [L36, c8]
  rw [ck8 hm, hm.2.1, ckM hm (by omega), e_in, bnd_s, ck_t zz]
theorem e_isRow {S : St} (hm : MSh S) (a : Int32) : f_X8_isRow S 124 a = some (if 0 ≤ a ∧ a ≤ S.1 125 0 - 1 then 1 else 0) := by
  unfold f_X8_isRow
  rw [ck8 hm, hm.2.1, ck_t (show ina S 10 125 0 from inaN hm.1 rfl rfl (by decide) (by decide) (show 0 < 867 by omega)), C0, e_in, bnd_s, ck_t zz]
theorem e_isColumn {S : St} (hm : MSh S) (a : Int32) : f_X8_isColumn S 124 a = some (if 0 ≤ a ∧ a ≤ S.1 125 1 - 1 then 1 else 0) := by
  unfold f_X8_isColumn
  simp only [C1]
  rw [ck8 hm, hm.2.1, ck_t (show ina S 10 125 1 from inaN hm.1 rfl rfl (by decide) (by decide) (show 1 < 867 by omega)), e_in, bnd_s, ck_t zz]
theorem RN.th {S S' : St} {k tc fc bl R C q : Nat} {w w' : Wf} (h : RN S k w tc fc bl R C) (hs : CSh S) (hk : Sc k) (hq : q < tc) (he : Ex (fun x _ => x = k + 6 + q) S S') (h6 : ∀ j, j < 6 → S'.1 (k + 6 + q) j = w' (9 + 6 * q + j)) (hw : ∀ j, j < 867 → ¬ (9 + 6 * q ≤ j ∧ j < 15 + 6 * q) → w' j = w j) : RN S' k w' tc fc bl R C := by
  obtain ⟨b1, b2, b3, b4, b5, b6, b7, b8, b9, b10, b11⟩ := h
  have hb := hk.rg
  have f5 := b8.2.2
  have t4 := b1.2.1
  refine ⟨⟨fun j hj => by rw [he.2 _ _ (by omega), hw j (by omega) (by omega)]; exact b1.1 j hj, t4, by rw [he.2 _ _ (by omega)]; exact b1.2.2.1, fun q' hq' j hj => ?_⟩, by rw [hw 8 (by omega) (by omega)]; exact b2, by rw [hw 0 (by omega) (by omega)]; exact b3, by rw [hw 1 (by omega) (by omega)]; exact b4, by rw [he.2 _ _ (by omega), hw 33 (by omega) (by omega)]; exact b5, by rw [he.2 _ _ (by omega), hw 34 (by omega) (by omega)]; exact b6, by rw [he.2 _ _ (by omega), hw 35 (by omega) (by omega)]; exact b7, by rw [he.2 _ _ (by omega), hw 36 (by omega) (by omega)]; exact b8, fun f hf => ?_, fun r hr => by rw [he.2 _ _ (by omega), hw _ (by omega) (by omega)]; exact b10 r hr, fun r hr => by rw [he.2 _ _ (by omega), hw _ (by omega) (by omega)]; exact b11 r hr⟩
  · by_cases c : q' = q
    · subst c
      exact h6 j hj
    · rw [he.2 _ _ (by omega), hw _ (by omega) (by omega)]
      exact b1.2.2.2 q' hq' j hj
  · rw [he.r]
    have hFb := ((hs.sc hk).2.2.2.1 f (by omega)).rg
    exact ((b9 f hf).ch (A := fun x => x = k + 6 + q) (he.ch (fun x j q => q)) (by omega) (by omega)).w (fun j hj => hw _ (by omega) (by omega)) b3.2.2 b4.2.2
/-- a row with a thing that has turned -/
def wtur (w : Wf) (q : Nat) (b : Int32) : Wf := fun j => if j = 9 + 6 * q + 2 then pl w q (w 33) - b * w 33 else if j = 9 + 6 * q + 3 then b else w j
theorem OKn.tur {N : Nat} {w : Wf} {tc fc tm q : Nat} {b : Int32} (h : OKn N w tc fc tm) (hq : q < tc) (hb : -200 ≤ b ∧ b ≤ 200) : OKn N (wtur w q b) tc fc tm := by
  obtain ⟨b1, b2, b3, b4, b5, b6, b7, b8⟩ := h
  have f5 := b2.2
  have t4 := b1.2
  have wn : ∀ j, ¬ (9 + 6 * q ≤ j ∧ j < 15 + 6 * q) → wtur w q b j = w j := fun j z => by
    unfold wtur
    rw [if_neg (by omega), if_neg (by omega)]
  refine ⟨by rw [wn 8 (by omega)]; exact b1, by rw [wn 36 (by omega)]; exact b2, by rw [wn 33 (by omega)]; exact b3, by rw [wn 2 (by omega), wn 3 (by omega), wn 4 (by omega), wn 5 (by omega), wn 6 (by omega), wn 7 (by omega)]; exact b4, fun q' hq' => ?_, fun f hf => by rw [wn _ (by omega)]; exact b6 f hf, fun r hr => by rw [wn _ (by omega)]; exact b7 r hr, fun r hr => by rw [wn _ (by omega)]; exact b8 r hr⟩
  by_cases c : q' = q
  · subst c
    obtain ⟨a, b', wd, br, P, V, h1, h2, ⟨h3, h4, h5⟩, ⟨h6, h7, h8⟩, h9, h12⟩ := b5 q' hq'
    obtain ⟨V', e4, f4, g4⟩ := i_rg (lo := -200) (hi := 200) hb.1 hb.2 (by decide) (by decide) (by decide) (by decide)
    have e0 : ∀ d, d < 6 → d ≠ 2 → d ≠ 3 → wtur w q' b (9 + 6 * q' + d) = w (9 + 6 * q' + d) := fun d hd h2 h3 => by
      unfold wtur
      rw [if_neg (by omega), if_neg (by omega)]
    refine ⟨a, b', wd, br, P + V * tm - V' * tm, V', ⟨(e0 0 (by omega) (by omega) (by omega)).trans h1.1, h1.2⟩, ⟨(e0 1 (by omega) (by omega) (by omega)).trans h2.1, h2.2⟩, ⟨?_, by omega, by omega⟩, ⟨?_, f4, g4⟩, ⟨(e0 4 (by omega) (by omega) (by omega)).trans h9.1, h9.2⟩, ⟨(e0 5 (by omega) (by omega) (by omega)).trans h12.1, h12.2⟩⟩
    · unfold wtur pl
      rw [if_pos rfl, h3, h6, b3.1, e4, iI_nat tm, iI_mul, iI_mul, iI_add, iI_sub]
    · unfold wtur
      rw [if_neg (by omega), if_pos rfl]
      exact e4
  · have := b5 q' hq'
    unfold TOk at *
    rw [wn _ (by omega), wn _ (by omega), wn _ (by omega), wn _ (by omega), wn _ (by omega), wn _ (by omega)]
    exact this
theorem op_turn {N : Nat} {S : St} (h : INV N S) (a b : Int32) : Op N S (fun S => f_X7_turn S 4 a b) (fun S => f_X8_turn S 124 a b) := by
  have h0 := h
  obtain ⟨st, len, i1, i2, i3, i4, i5, i6, i7⟩ := h
  have hs := i1.1
  have e0 : S.2.1 4 0 = 5 := hs.2.1.1
  obtain ⟨tc, fc, bl, R, C, hn⟩ := i1.2.2.1
  obtain ⟨tm, hok⟩ := i5.of hn.2.1 hn.1.2.1 hn.2.2.2.2.2.2.2.1.2.1 hn.2.2.2.2.2.2.2.1.2.2
  have t2 := hn.1.2.2.1
  have t4 := hn.1.2.1
  have w8 := hn.2.1
  by_cases ha : 0 ≤ a ∧ a ≤ nI tc - 1
  · obtain ⟨q, rfl, hq⟩ := idx_ex (by omega) ha
    by_cases hb : -200 ≤ b ∧ b ≤ 200
    · refine Op.keep h0 (wtur (S.1 125) q b) (S.1 125 (9 + 6 * q + 3)) (fun S1 s1 r1 q1 => ?_) (fun S1 S2 m1 e1 n1 m2 e2 => ?_) (OKw.mono ⟨tc, fc, tm, hok.tur hq hb⟩ (by omega))
      · obtain ⟨tc', fc', bl', R', C', q1⟩ := q1
        have htc : tc' = tc := by
          rw [← q_eq (by have := q1.1.2.1; omega) (by omega), ← q1.2.1, w8]
        subst htc
        have e0' : S1.2.1 4 0 = 5 := s1.2.1.1
        have okq : ∀ (S' : St) (o : Option St), S'.2.2 = 131 → chk (okc S' 5 (5 + 6 + q)) o = o := fun S' o z => ck_t (okS z (sc5.thing (by omega)) (by omega)) o
        have okq2 : ∀ (S' : St) (o : Option (Int32 × St)), S'.2.2 = 131 → chk (okc S' 5 (5 + 6 + q)) o = o := fun S' o z => ck_t (okS z (sc5.thing (by omega)) (by omega)) o
        have x2 := q1.1.2.2.2 q hq 2 (by omega)
        have x3 := q1.1.2.2.2 q hq 3 (by omega)
        have x6 : S1.1 5 6 = S.1 125 33 := q1.2.2.2.2.1
        have hcs : f_X5_changeSpeed S1 (5 + 6 + q) b (S.1 125 33) = some (upI (upI S1 (5 + 6 + q) 2 (pl (S.1 125) q (S.1 125 33) - b * S.1 125 33)) (5 + 6 + q) 3 b) := by
          unfold f_X5_changeSpeed f_X5_positionAt
          have okp : ∀ (o : Option Int32), chk (okc S1 5 (5 + 6 + q)) o = o := fun o => ck_t (okS s1.n (sc5.thing (by omega)) (by omega)) o
          rw [okq S1 _ s1.n, okp, okp, bnd_s, okq S1 _ s1.n, vlt_s, okq _ _ (by rw [upI_n]; exact s1.n), vlt_s, x2, x3]
          rfl
        refine ⟨upI (upI S1 (5 + 6 + q) 2 (pl (S.1 125) q (S.1 125 33) - b * S.1 125 33)) (5 + 6 + q) 3 b, ?_, s1.rf rfl rfl, (Ch.up (A := AN) (Ch.up (A := AN) Ch.rf (by unfold AN; omega)) (by unfold AN; omega)), tc', fc', bl', R', C', q1.th s1 sc5 hq ((Ex.rf.upa).upa) (fun j hj => ?_) (fun j hj hr => ?_)⟩
        · show f_X7_turn S 4 (nI q) b = _
          unfold f_X7_turn
          rw [ck7 hs, e0, ck5 hs, c_thingAt_t hs sc5 t2 t4 hq, bnd_s, if_neg (by omega), e_within, if_pos hb, bnd_s, if_neg (by decide), ck7 hs, r1, bnd_s, okq2 S1 _ s1.n, ck7 s1, e0', ck5 s1, okq2 S1 _ s1.n, x6, hcs, bnd_s, x3]
        · unfold wtur
          rw [upI_at, upI_at]
          by_cases c3 : j = 3
          · subst c3
            rw [if_pos ⟨rfl, rfl⟩, if_neg (by omega), if_pos rfl]
          · rw [if_neg (fun z => c3 z.2)]
            by_cases c2 : j = 2
            · subst c2
              rw [if_pos ⟨rfl, rfl⟩, if_pos rfl]
            · rw [if_neg (fun z => c2 z.2), if_neg (by omega), if_neg (by omega)]
              exact q1.1.2.2.2 q hq j hj
        · unfold wtur
          rw [if_neg (by omega), if_neg (by omega)]
      · refine ⟨upI (upI S2 125 (9 + 6 * q + 2) (pl (S.1 125) q (S.1 125 33) - b * S.1 125 33)) 125 (9 + 6 * q + 3) b, ?_, (Ex.rf.upp (Or.inl rfl)).upp (Or.inl rfl), fun j hj => ?_⟩
        · show f_X8_turn S1 124 (nI q) b = _
          unfold f_X8_turn
          have c33 : (nI 33).toNatClampNeg = 33 := rfl
          have k3 : (nI (9 + 6 * q + 3)).toNatClampNeg = 9 + 6 * q + 3 := q_cl (by omega)
          have k2 : (nI (9 + 6 * q + 2)).toNatClampNeg = 9 + 6 * q + 2 := q_cl (by omega)
          simp only [L9, L6, L3, L2, L33, q_mul, q_add, c33, k3, k2]
          have m3 : MSh (upI S2 125 (9 + 6 * q + 2) (pl (S.1 125) q (S.1 125 33) - b * S.1 125 33)) := m2
          have e3 : (upI S2 125 (9 + 6 * q + 2) (pl (S.1 125) q (S.1 125 33) - b * S.1 125 33)).2.1 124 0 = 125 := m2.2.1
          rw [ck8 m1, e_isThing m1, e1, w8, if_pos ha, bnd_s, if_neg (by decide), e_in, if_pos hb, bnd_s, if_neg (by decide), ck8 m1, n1, bnd_s, ck8 m2, m2.2.1, ckM m2 (by omega), vlt_s, ck8 m2, ck8 m2, ck8 m2, ckM m2 (by omega), e_placeAt m2.1 (Or.inl rfl) (by omega), bnd_s, ck8 m2, ckM m2 (by omega), cwM m2 (by omega), vlt_s, e2, ck8 m3, e3, cwM m3 (by omega), vlt_s]
        · unfold wtur
          rw [upI_at, upI_at, e2]
          by_cases c3 : j = 9 + 6 * q + 3
          · subst c3
            rw [if_pos ⟨rfl, rfl⟩, if_neg (by omega), if_pos rfl]
          · rw [if_neg (fun z => c3 z.2)]
            by_cases c2 : j = 9 + 6 * q + 2
            · subst c2
              rw [if_pos ⟨rfl, rfl⟩, if_pos rfl]
            · rw [if_neg (fun z => c2 z.2), if_neg c2, if_neg c3]
    · refine Op.no h0 (-10000001) ?_ ?_
      · show f_X7_turn S 4 (nI q) b = _
        unfold f_X7_turn
        rw [ck7 hs, e0, ck5 hs, c_thingAt_t hs sc5 t2 t4 hq, bnd_s, if_neg (by omega), e_within, if_neg hb, bnd_s, if_pos rfl]
      · show f_X8_turn S 124 (nI q) b = _
        unfold f_X8_turn
        rw [ck8 i2, e_isThing i2, w8, if_pos ha, bnd_s, if_neg (by decide), e_in, if_neg hb, bnd_s, if_pos rfl]
  · refine Op.no h0 (-10000001) ?_ ?_
    · show f_X7_turn S 4 a b = _
      unfold f_X7_turn
      rw [ck7 hs, e0, ck5 hs, c_thingAt_f hs sc5 t2 a ha t4, bnd_s, if_pos rfl]
    · show f_X8_turn S 124 a b = _
      unfold f_X8_turn
      rw [ck8 i2, e_isThing i2, w8, if_neg ha, bnd_s, if_pos rfl]
/-! forget -/
def wdrop (w : Wf) (i fc : Nat) : Wf := fun j => if j = 36 then nI (fc - 1) else if 37 + 162 * i ≤ j ∧ j < 37 + 162 * (fc - 1) then w (j + 162) else w j
theorem OKn.drop {N : Nat} {w w' : Wf} {tc fc tm i : Nat} (h : OKn N w tc fc tm) (hi : i < fc) (hw : ∀ j, j < 867 → w' j = wdrop w i fc j) : OKn N w' tc (fc - 1) tm := by
  obtain ⟨b1, b2, b3, b4, b5, b6, b7, b8⟩ := h
  have f5 := b2.2
  have t4 := b1.2
  have lo : ∀ j, j < 36 → w' j = w j := fun j hj => by
    rw [hw j (by omega)]
    unfold wdrop
    rw [if_neg (by omega), if_neg (by omega)]
  have hi2 : ∀ j, 847 ≤ j → j < 867 → w' j = w j := fun j h1 h2 => by
    rw [hw j h2]
    unfold wdrop
    rw [if_neg (by omega), if_neg (by omega)]
  refine ⟨by rw [lo 8 (by omega)]; exact b1, ⟨by rw [hw 36 (by omega)]; unfold wdrop; rw [if_pos rfl], by omega⟩, by rw [lo 33 (by omega)]; exact b3, by rw [lo 2 (by omega), lo 3 (by omega), lo 4 (by omega), lo 5 (by omega), lo 6 (by omega), lo 7 (by omega)]; exact b4, fun q hq => ?_, fun f hf => ?_, fun r hr => by rw [hi2 _ (by omega) (by omega)]; exact b7 r hr, fun r hr => by rw [hi2 _ (by omega) (by omega)]; exact b8 r hr⟩
  · have := b5 q hq
    unfold TOk at *
    rw [lo _ (by omega), lo _ (by omega), lo _ (by omega), lo _ (by omega), lo _ (by omega), lo _ (by omega)]
    exact this
  · rw [hw _ (by omega)]
    unfold wdrop
    rw [if_neg (by omega)]
    by_cases c : f < i
    · rw [if_neg (by omega)]
      exact b6 f (by omega)
    · rw [if_pos (by omega), show 37 + 162 * f + 162 = 37 + 162 * (f + 1) by omega]
      exact b6 (f + 1) (by omega)
theorem op_forget {N : Nat} {S : St} (h : INV N S) (a : Int32) : Op N S (fun S => f_X7_forget S 4 a) (fun S => f_X8_forget S 124 a) := by
  have h0 := h
  obtain ⟨st, len, i1, i2, i3, i4, i5, i6, i7⟩ := h
  have hs := i1.1
  have e0 : S.2.1 4 0 = 5 := hs.2.1.1
  obtain ⟨tc, fc, bl, R, C, hn⟩ := i1.2.2.1
  obtain ⟨tm, hok⟩ := i5.of hn.2.1 hn.1.2.1 hn.2.2.2.2.2.2.2.1.2.1 hn.2.2.2.2.2.2.2.1.2.2
  obtain ⟨f4, w36, f5⟩ := hn.2.2.2.2.2.2.2.1
  by_cases ha : 0 ≤ a ∧ a ≤ nI fc - 1
  · obtain ⟨i, rfl, hi⟩ := idx_ex (by omega) ha
    have hFi := ((hs.sc sc5).2.2.2.1 i (by omega)).rg
    refine Op.keep h0 (wdrop (S.1 125) i fc) (nI (fc - 1)) (fun S1 s1 r1 q1 => ?_) (fun S1 S2 m1 e1 n1 m2 e2 => ?_) (OKw.mono ⟨tc, fc - 1, tm, hok.drop hi (fun _ _ => rfl)⟩ (by omega))
    · obtain ⟨tc', fc', bl', R', C', q1⟩ := q1
      have hfc : fc' = fc := by
        rw [← q_eq (by have := q1.2.2.2.2.2.2.2.1.2.2; omega) (by omega), ← q1.2.2.2.2.2.2.2.1.2.1, w36]
      subst hfc
      have e0' : S1.2.1 4 0 = 5 := s1.2.1.1
      obtain ⟨S2, g1, g2, g3, g4⟩ := e_dropFrame s1 sc5 (i := i) q1.2.2.2.2.2.2.2.1.1 f5 hi
      have s2 := s1.rota sc5 hi f5 g2 g4
      have e0'' : S2.2.1 4 0 = 5 := s2.2.1.1
      refine ⟨S2, ?_, s2, ⟨g2, fun x hx => ⟨?_, ?_⟩⟩, tc', fc' - 1, bl', R', C', q1.drop s1 sc5 hi g2 g3 g4 (fun _ _ => rfl)⟩
      · show f_X7_forget S 4 (nI i) = _
        unfold f_X7_forget
        rw [ck7 hs, e0, ck5 hs, c_frameAt_t hs sc5 f4 f5 hi, bnd_s, if_neg (by omega), ck7 hs, r1, bnd_s, ck7 s1, e0', ck5 s1, g1, bnd_s, ck7 s2, e0'', ck5 s2, g3, if_pos ⟨rfl, rfl⟩]
      · funext j
        rw [g3, if_neg (by unfold AN at hx; omega)]
      · funext j
        rw [g4, if_neg (by unfold AN at hx; omega)]
    · obtain ⟨S3, g1, g2, g3⟩ := e_drops m2.1 (a := 125) (Or.inl rfl) (by rw [e2]; exact w36) f5 hi
      have m3 := m2.ex g2
      refine ⟨S3, ?_, g2.wk (fun x j q => Or.inl q), fun j hj => by rw [g3 j hj, e2]; rfl⟩
      show f_X8_forget S1 124 (nI i) = _
      unfold f_X8_forget
      have c36 : (nI 36).toNatClampNeg = 36 := rfl
      simp only [L36, c36]
      rw [ck8 m1, e_isFrame m1, e1, w36, if_pos ha, bnd_s, if_neg (by decide), ck8 m1, n1, bnd_s, ck8 m2, m2.2.1, g1, bnd_s, ck8 m3, m3.2.1, ckM m3 (by omega), g3 36 (by omega), if_pos rfl]
  · refine Op.no h0 (-10000001) ?_ ?_
    · show f_X7_forget S 4 a = _
      unfold f_X7_forget
      rw [ck7 hs, e0, ck5 hs, c_frameAt_f hs sc5 f4 a ha f5, bnd_s, if_pos rfl]
    · show f_X8_forget S 124 a = _
      unfold f_X8_forget
      rw [ck8 i2, e_isFrame i2, w36, if_neg ha, bnd_s, if_pos rfl]
/-! undo -/
theorem op_undo {N : Nat} {S : St} (h : INV N S) : Op N S (fun S => f_X7_undo S 4) (fun S => f_X8_undo S 124) := by
  have h0 := h
  obtain ⟨st, len, i1, i2, i3, i4, i5, i6, i7⟩ := h
  have hs := i1.1
  have e0 : S.2.1 4 0 = 5 := hs.2.1.1
  have e1 : S.2.1 4 1 = 25 := hs.2.1.2.1
  obtain ⟨h1, h2, h3, ⟨a1, a2, a3⟩, h5, h6, h7⟩ := i1
  by_cases hz : st = 0
  · subst hz
    refine Op.no h0 (-10000002) ?_ ?_
    · show f_X7_undo S 4 = _
      unfold f_X7_undo
      rw [ck7 hs, a2, if_pos (by decide)]
    · show f_X8_undo S 124 = _
      unfold f_X8_undo
      rw [ck8 i2, i3, if_pos (show nI 0 = (0 : Int32) from rfl)]
  · have es : nI st - 1 = nI (st - 1) := by rw [L1, q_sub (by omega)]
    obtain ⟨hsc, hn5⟩ := h1.2.2.2.2.2.2.2.1 (st - 1) (by omega)
    have hb := hsc.rg
    obtain ⟨S1, g1, g2, g3⟩ := (a3 (st - 1) (by omega)).becomes hs sc5 hsc (Ne.symm hn5)
    have s1 := hs.ex g2
    have ecl : (nI (st - 1)).toNatClampNeg = st - 1 := q_cl (by omega)
    have hl4 : Int32.ofNat (ln 25) = nI 4 := rfl
    have c1 : Ch AN S S1 := g2.ch (fun x j q => Or.inl ⟨q.1, q.2⟩)
    have d7 : f_X7_undo S 4 = some (nI (st - 1), upI S1 4 2 (nI (st - 1))) := by
      unfold f_X7_undo
      have s2 : CSh (upI S1 4 2 (nI (st - 1))) := s1.rf rfl rfl
      simp only [e1, e0, a2, es, hl4, ecl]
      rw [ck7 hs, if_neg (by rw [L0, q_lt (by omega) (by omega)]; omega), ck7 hs, ck_t (show okc S 13 25 from okS hs.n rfl (by decide)), if_pos (by rw [q_lt (by omega) (by omega)]; omega), ck7 hs, ck7 hs, ck_t (show ina S 13 25 (nI (st - 1)) from ⟨okS hs.n rfl (by decide), by rw [L0, q_le (by omega) (by omega)]; omega, by rw [ecl]; show st - 1 < 4; omega⟩), ck5 hs, g1, bnd_s, ck7 s1, vlt_s, ck7 s2, upI_at, if_pos ⟨rfl, rfl⟩]
    -- the class behind it
    have ci1 : CI S1 (fun j => S.1 126 (867 * (st - 1) + j)) st (fun i j => S.1 126 (867 * i + j)) len (S.1 128) := CI.upd ⟨h1, h2, h3, ⟨a1, a2, a3⟩, h5, h6, h7⟩ s1 c1 (fun x q => q) g3
    generalize hS2 : upI S1 4 2 (nI (st - 1)) = S2 at d7
    have x2 : Ex (fun x j => x = 4 ∧ j = 2) S1 S2 := by
      rw [← hS2]
      exact Ex.rf.upp ⟨rfl, rfl⟩
    have c2 : Ch (fun x => x = 4) S1 S2 := x2.ch (fun x j q => q.1)
    have ci2 : CI S2 (fun j => S.1 126 (867 * (st - 1) + j)) (st - 1) (fun i j => S.1 126 (867 * i + j)) len (S.1 128) := by
      obtain ⟨p1, p2, p3, ⟨p4, p5, p6⟩, p7, p8, p9⟩ := ci1
      refine ⟨p1.ex x2, p2.ch c2 (by omega) (by omega), p3.ch p1 sc5 c2 (fun d hd => by omega), ⟨by omega, by rw [← hS2, upI_at, if_pos ⟨rfl, rfl⟩], fun i hi => ?_⟩, p7, by rw [c2.i (by omega)]; exact p8, fun j hj => by rw [c2.i (by omega)]; exact p9 j hj⟩
      rw [x2.r]
      have hsi := (p1.2.2.2.2.2.2.2.1 i (by omega)).1
      have := hsi.rg
      exact (p6 i (by omega)).ch p1 hsi c2 (fun d hd => by omega)
    have cc : Ch (fun x => x < 124) S S2 := (c1.wk (fun x q => by unfold AN at q; omega)).tr (c2.wk (fun x q => by omega))
    have m2 := i2.ch cc (by omega)
    -- the model
    generalize hS3 : upI S2 124 2 (nI (st - 1)) = S3
    have x3 : Ex (fun x j => x = 124 ∧ j = 2) S2 S3 := by
      rw [← hS3]
      exact Ex.rf.upp ⟨rfl, rfl⟩
    have m3 := m2.ex x3
    have v3 : S3.1 124 2 = nI (st - 1) := by rw [← hS3, upI_at, if_pos ⟨rfl, rfl⟩]
    obtain ⟨S4, k1, k2, k3⟩ := e_copies m3.1 (o1 := 867 * (st - 1)) (o2 := 0) ar126 ar125 (by omega) (by omega) (by omega)
    have m4 := m3.ex k2
    have v4 : S4.1 124 2 = nI (st - 1) := by rw [k2.2 124 2 (by omega)]; exact v3
    have d8 : f_X8_undo S2 124 = some (nI (st - 1), S4) := by
      unfold f_X8_undo
      rw [ck8 m2, cc.i (by omega), i3, if_neg (by rw [L0, q_eq (by omega) (by omega)]; exact hz), ck8 m2, ck8 m2, es, vlt_s, hS3, ck8 m3, ck8 m3, ck8 m3, m3.2.2.1, m3.2.1, v3, L867, q_mul, L0, k1, bnd_s, ck8 m4, v4]
    have c24 : Ch (fun x => 124 ≤ x) S2 S4 := (x3.ch (fun x j q => by show 124 ≤ x; omega)).tr (k2.ch (fun x j q => by show 124 ≤ x; omega))
    have z126 : ∀ j, S4.1 126 j = S.1 126 j := fun j => by rw [k2.2 126 _ (by omega), x3.2 126 _ (by omega), cc.i (by omega)]
    refine ⟨nI (st - 1), S2, S4, d7, d8, INV.mk (ci2.ch c24 (fun x hx => by omega)) m4 (fun j hj => ?_) v4 (fun i hi j hj => z126 _) ?_ (fun j hj => ?_) ((i6 (st - 1) (by omega)).mono (by omega)) (fun i hi => (i6 i (by omega)).mono (by omega)) i7⟩
    · rw [k3, if_pos (by omega), Nat.sub_zero, x3.2 126 _ (by omega), cc.i (by omega)]
    · rw [k2.2 124 5 (by omega), x3.2 124 5 (by omega), cc.i (by omega)]; exact i4
    · rw [k2.2 128 _ (by omega), x3.2 128 _ (by omega), cc.i (by omega)]
