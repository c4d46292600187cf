def fitD (w : Wf) (tc C f fb : Nat) (r : Nat) : Bool := !(fb.testBit r) && fit1 w w tc C f r (fv1 w f 0 + nI r * w 2)
theorem om_fitting {N : Nat} {S : St} (h : INV N S) (a : Int32) : Om N S (fun S => f_X7_fitting S 4 a) (fun S => f_X8_fitting S 124 a) := by
  have h0 := h
  obtain ⟨st, len, i1, i2, i3, i4, i5, i6, i7⟩ := h
  have hs := i1.1
  have e0 : ∀ S1 : St, CSh S1 → S1.2.1 4 0 = 5 := fun S1 q => q.2.1.1
  obtain ⟨tc, fc, bl, R, C, hn⟩ := i1.2.2.1
  obtain ⟨tm, hok⟩ := i5.of hn.2.1 hn.1.2.1 hn.2.2.2.2.2.2.2.1.2.1 hn.2.2.2.2.2.2.2.1.2.2
  obtain ⟨f4, w36, f5⟩ := hn.2.2.2.2.2.2.2.1
  have hR := hn.2.2.1
  have hC := hn.2.2.2.1
  by_cases ha : 0 ≤ a ∧ a ≤ nI fc - 1
  · obtain ⟨f, rfl, hf⟩ := idx_ex (by omega) ha
    have hg := ((hs.sc sc5).2.2.2.1 f (by omega)).rg
    obtain ⟨fb, g1, g2, g3, g4, -⟩ := c_edges hs sc5 hn hok.2.2.2.1.2.1 hf (show 0 < R by omega)
    obtain ⟨S1, x, ⟨p1, p2⟩, q⟩ := wl3_inv (F := f_X7_fitting_B21 4 (S.2.1 (5 + 3) f) (fun (S_9 : St) (y3_8 : Int32) => (some (y3_8, S_9)))) (kx := fun (S_9 : St) (y3_8 : Int32) => some (y3_8, S_9)) (n := R) (fun i S' m => Ex (fun x _ => x = 43) S S' ∧ m = nI (mk (fitD (S.1 125) tc C f fb) i)) (fun i S1 m kk hi hP => by
      obtain ⟨p1, rfl⟩ := hP
      unfold f_X7_fitting_B21
      have s1 := hs.ex p1
      have hn1 : RN S1 5 (S.1 125) tc fc bl R C := hn.ch hs sc5 (p1.ch (A := fun x => x = 43) (fun x j q => q)) (fun d hd => by omega)
      have hF1 := (((hs.sc sc5).2.2.2.1 f (by omega)).fr hs sc5).ex p1
      have y1 : S1.1 (S.2.1 (5 + 3) f) 0 = fv1 (S.1 125) f 0 := by rw [p1.2 _ _ (by omega)]; exact (hn.2.2.2.2.2.2.2.2.1 f hf).1
      have hm : fb &&& (1 <<< R - 1) < 1024 := Nat.lt_of_le_of_lt Nat.and_le_left g1
      have g4' : S1.1 (S.2.1 (5 + 3) f) 1 = nI (fb &&& (1 <<< R - 1)) := by rw [p1.2 _ _ (by omega)]; exact g4
      have hset : f_X3_setting S1 5 0 = some (S1.1 (5 + 1) 0) := c_setting s1 sc5 (j := 0) (by omega)
      rw [ck7 s1, e0 S1 s1, ck5 s1, hset, bnd_s, hn1.1.1 0 (by omega), if_neg (by rw [hR.1, q_le (by omega) (by omega)]; omega), ck7 s1, ck5 s1, e_timeOfRow s1 sc5 hn1.1 hF1, bnd_s, ck_t (okS s1.n hF1.1 hF1.2.2.1), g4', e_holds (by omega) (by omega), g3 i hi, bnd_s, y1]
      have ms : mk (fitD (S.1 125) tc C f fb) (i + 1) = mk (fitD (S.1 125) tc C f fb) i ||| (if fitD (S.1 125) tc C f fb i = true then 1 <<< i else 0) := rfl
      by_cases hb : fb.testBit i = true
      · rw [if_pos hb, if_neg (by decide), L1, q_add]
        refine ⟨S1, _, ⟨p1, rfl⟩, ?_⟩
        rw [ms, if_neg (by unfold fitD; rw [hb]; simp), Nat.or_zero]
      · have hb' : fb.testBit i = false := by simpa using hb
        obtain ⟨S2, k1, k2⟩ := c_rowFits s1 hn1 hok hf hi g2 g1 hb'
        rw [p1.r] at k1
        rw [if_neg hb, if_pos rfl, ck7 s1, ck5 s1, e_percentAt s1 sc5 hn1.1, bnd_s, ck7 s1, k1, bnd2_s, L1, q_add]
        refine ⟨S2, nI (mk (fitD (S.1 125) tc C f fb) (i + 1)), ⟨p1.tr k2, rfl⟩, ?_⟩
        rw [ms]
        by_cases c : fit1 (S.1 125) (S.1 125) tc C f i (fv1 (S.1 125) f 0 + nI i * S.1 125 2) = true
        · rw [if_pos c, if_neg (by decide), if_pos (show fitD (S.1 125) tc C f fb i = true by unfold fitD; rw [hb', c]; rfl), q_shl 1 (by omega), q_or]
        · rw [if_neg c, if_pos rfl, if_neg (show ¬ fitD (S.1 125) tc C f fb i = true by unfold fitD; rw [hb']; simp [c]), Nat.or_zero]) (fun S1 m kk hP => by
      obtain ⟨p1, rfl⟩ := hP
      unfold f_X7_fitting_B21
      have s1 := hs.ex p1
      have hn1 : RN S1 5 (S.1 125) tc fc bl R C := hn.ch hs sc5 (p1.ch (A := fun x => x = 43) (fun x j q => q)) (fun d hd => by omega)
      have hset : f_X3_setting S1 5 0 = some (S1.1 (5 + 1) 0) := c_setting s1 sc5 (j := 0) (by omega)
      rw [ck7 s1, e0 S1 s1, ck5 s1, hset, bnd_s, hn1.1.1 0 (by omega), if_pos (by rw [hR.1]; exact Int32.le_refl _)]) R 0 FU S 0 (by omega) (by show R < 1000000; omega) ⟨Ex.rf, rfl⟩
    rw [show nI 0 = (0 : Int32) from rfl] at q
    have hsc : Ch SC S S1 := p1.ch (fun x j q => by unfold SC; omega)
    have e125 : S1.1 125 = S.1 125 := (hsc.2 125 (by unfold SC; omega)).1
    have m1 := i2.ex p1
    refine ⟨nI (mk (fitD (S.1 125) tc C f fb) R), S1, ?_, ?_, (h0.scr hsc p1.r).mono (by omega)⟩
    · show f_X7_fitting S 4 (nI f) = _
      unfold f_X7_fitting
      rw [ck7 hs, e0 S hs, ck5 hs, c_frameAt_t hs sc5 f4 f5 hf, bnd_s, if_neg (by omega), q, p2]
    · show f_X8_fitting S1 124 (nI f) = _
      unfold f_X8_fitting
      rw [ck8 m1, e_isFrame m1, e125, w36, if_pos ha, bnd_s, if_neg (by decide)]
      refine wl2_eq (kx := fun y => some y) (n := R) (fun i => nI (mk (fitD (S.1 125) tc C f fb) i)) 0 rfl rfl (by omega) (by omega) (fun i kk _ hi => ?_) (fun kk => ?_)
      · unfold f_X8_fitting_B15
        have ms : mk (fitD (S.1 125) tc C f fb) (i + 1) = mk (fitD (S.1 125) tc C f fb) i ||| (if fitD (S.1 125) tc C f fb i = true then 1 <<< i else 0) := rfl
        have z0 : nI (mk (fitD (S.1 125) tc C f fb) i) ||| 0 = nI (mk (fitD (S.1 125) tc C f fb) i) := by rw [L0, q_or, Nat.or_zero]
        have hrf := e_rowFits m1 (a := 125) (f := f) (r := i) (C := C) (tc := tc) (Or.inl rfl) (by omega) (by omega) (by rw [e125]; exact hC.1) hC.2.2 (by rw [e125]; exact hn.2.1) hn.1.2.1
        rw [e125] at hrf
        have hsn := e_isSeen m1 (f := f) (r := i) (fb := fb) (by omega) (by omega) (by rw [e125]; exact g2) g1
        rw [ck8 m1, m1.2.1, ck_t (show ina S1 10 125 0 from inaN m1.1 rfl rfl (by decide) (by decide) (show 0 < 867 by omega)), C0, e125, if_neg (by rw [hR.1, q_le (by omega) (by omega)]; omega), ck8 m1, hsn, bnd_s, z0, ms]
        by_cases hb : fb.testBit i = true
        · rw [if_pos hb, if_pos rfl, if_neg (show ¬ fitD (S.1 125) tc C f fb i = true by unfold fitD; rw [hb]; simp), Nat.or_zero, L1, q_add]
        · have hb' : fb.testBit i = false := by simpa using hb
          rw [if_neg hb, if_neg (by decide), ck8 m1, ck8 m1, hrf, bnd_s]
          by_cases c : fit1 (S.1 125) (S.1 125) tc C f i (fv1 (S.1 125) f 0 + nI i * S.1 125 2) = true
          · rw [if_pos c, if_neg (by decide), if_pos (show fitD (S.1 125) tc C f fb i = true by unfold fitD; rw [hb', c]; rfl), L1, q_add, q_shl 1 (by omega), q_or]
          · rw [if_neg c, if_pos rfl, if_neg (show ¬ fitD (S.1 125) tc C f fb i = true by unfold fitD; rw [hb']; simp [c]), Nat.or_zero, L1, q_add]
      · unfold f_X8_fitting_B15
        rw [ck8 m1, m1.2.1, ck_t (show ina S1 10 125 0 from inaN m1.1 rfl rfl (by decide) (by decide) (show 0 < 867 by omega)), C0, e125, if_pos (by rw [hR.1]; exact Int32.le_refl _)]
  · refine Om.no h0 (-10000001) ?_ ?_
    · show f_X7_fitting S 4 a = _
      unfold f_X7_fitting
      rw [ck7 hs, e0 S hs, ck5 hs, c_frameAt_f hs sc5 f4 a ha f5, bnd_s, if_pos rfl]
    · show f_X8_fitting S 124 a = _
      unfold f_X8_fitting
      rw [ck8 i2, e_isFrame i2, w36, if_neg ha, bnd_s, if_pos rfl]
