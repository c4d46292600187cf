/-! SPEED; ONE FRAME: slant, slantSpeed -/
theorem c_frameAny {S : St} (hs : CSh S) {fc : Nat} (f4 : S.1 5 4 = nI fc) (f5 : fc ≤ 5) (x : Int32) : ∃ r, f_X3_frameAt S 5 x = some r ∧ (r = 0 ↔ ¬ (0 ≤ x ∧ x ≤ nI fc - 1)) := by
  by_cases h : 0 ≤ x ∧ x ≤ nI fc - 1
  · obtain ⟨f, rfl, hf⟩ := idx_ex (by omega) h
    have hb := ((hs.sc sc5).2.2.2.1 f (by omega)).rg
    exact ⟨_, c_frameAt_t hs sc5 f4 f5 hf, fun e => by omega, fun e => absurd h e⟩
  · exact ⟨0, c_frameAt_f hs sc5 f4 x h f5, fun _ => h, fun _ => rfl⟩
theorem op_speed {N : Nat} {S : St} (h : INV N S) (a b : Int32) : Op N S (fun S => f_X7_speed S 4 a b) (fun S => f_X8_speed S 124 a b) := by
  have h0 := h
  obtain ⟨fc, h4, h36, f5, hs, hm⟩ := h.fc
  have e4 : ∀ S1 : St, CSh S1 → S1.2.1 4 4 = 30 := fun S1 q => q.2.1.2.2.2.1
  have e0 : S.2.1 4 0 = 5 := hs.2.1.1
  by_cases hp : (0 ≤ a ∧ a ≤ nI fc - 1) ∧ (0 ≤ b ∧ b ≤ nI fc - 1) ∧ a ≠ b
  · obtain ⟨f1, f2, R, C, fb1, fb2, S1, ⟨e1, e2, l1, l2⟩, v1, v2, p1, p2, p3, p4, s1, m1, e125, hI⟩ := pair_on h h4 hp
    obtain ⟨st, len, i1, i2, i3, i4, i5, i6, i7⟩ := h
    obtain ⟨tc, fc', bl, R', C', hn⟩ := i1.2.2.1
    obtain ⟨g4, w36, f5'⟩ := hn.2.2.2.2.2.2.2.1
    have hfc : fc' = fc := by
      rw [← q_eq (by omega) (by omega), ← g4, h4]
    subst hfc
    have y1 := (hn.2.2.2.2.2.2.2.2.1 f1 l1).1
    have y2 := (hn.2.2.2.2.2.2.2.2.1 f2 l2).1
    have hF1 := ((hs.sc sc5).2.2.2.1 f1 (by omega)).fr hs sc5
    have hF2 := ((hs.sc sc5).2.2.2.1 f2 (by omega)).fr hs sc5
    have hb1 := ((hs.sc sc5).2.2.2.1 f1 (by omega)).rg
    have hb2 := ((hs.sc sc5).2.2.2.1 f2 (by omega)).rg
    have x1 : f_X8_frameValue S1 124 (nI f1) 0 = some (S.1 125 (37 + 162 * f1)) := by
      rw [← e125]
      exact e_frameValue m1 (f := f1) (j := 0) (by omega) (by omega)
    have x2 : f_X8_frameValue S1 124 (nI f2) 0 = some (S.1 125 (37 + 162 * f2)) := by
      rw [← e125]
      exact e_frameValue m1 (f := f2) (j := 0) (by omega) (by omega)
    have x1' : f_X8_frameValue S 124 (nI f1) 0 = some (S.1 125 (37 + 162 * f1)) := e_frameValue hm (f := f1) (j := 0) (by omega) (by omega)
    have x2' : f_X8_frameValue S 124 (nI f2) 0 = some (S.1 125 (37 + 162 * f2)) := e_frameValue hm (f := f2) (j := 0) (by omega) (by omega)
    have hc7 : ∀ k, f_X7_speed S 4 a b = k ↔ (if (S.1 125 (37 + 162 * f2)) - (S.1 125 (37 + 162 * f1)) = 0 then some ((-10000002 : Int32), S) else chk (okc S 7 4) (bnd (f_X7_voteOn S 4 a b) fun S_3 => chk (okc S_3 7 4) (chk (okc S_3 6 (S_3.2.1 4 4)) (bnd (f_X6_told S_3 (S_3.2.1 4 4)) fun r4 => if r4 = (-10000004) then some ((-10000004 : Int32), S_3) else chk (¬ ((S.1 125 (37 + 162 * f2)) - (S.1 125 (37 + 162 * f1))) = 0) (some ((r4 * 100) / ((S.1 125 (37 + 162 * f2)) - (S.1 125 (37 + 162 * f1))), S_3)))))) = k := by
      intro k
      have : f_X7_speed S 4 a b = (if (S.1 125 (37 + 162 * f2)) - (S.1 125 (37 + 162 * f1)) = 0 then some ((-10000002 : Int32), S) else chk (okc S 7 4) (bnd (f_X7_voteOn S 4 a b) fun S_3 => chk (okc S_3 7 4) (chk (okc S_3 6 (S_3.2.1 4 4)) (bnd (f_X6_told S_3 (S_3.2.1 4 4)) fun r4 => if r4 = (-10000004) then some ((-10000004 : Int32), S_3) else chk (¬ ((S.1 125 (37 + 162 * f2)) - (S.1 125 (37 + 162 * f1))) = 0) (some ((r4 * 100) / ((S.1 125 (37 + 162 * f2)) - (S.1 125 (37 + 162 * f1))), S_3)))))) := by
        unfold f_X7_speed
        rw [ck7 hs, e0, ck5 hs, e1, c_frameAt_t hs sc5 h4 f5 l1, bnd_s, ck7 hs, ck5 hs, e2, c_frameAt_t hs sc5 h4 f5 l2, bnd_s, if_neg (by omega), if_neg (by omega), if_neg (by rw [← e1, ← e2]; exact hp.2.2), ck_t (okS hs.n hF2.1 hF2.2.2.1), ck_t (okS hs.n hF1.1 hF1.2.2.1), y1, y2]
      rw [this]
    by_cases hd : S.1 125 (37 + 162 * f2) - S.1 125 (37 + 162 * f1) = 0
    · refine Op.no h0 (-10000002) ?_ ?_
      · show f_X7_speed S 4 a b = _
        rw [hc7, if_pos hd]
      · show f_X8_speed S 124 a b = _
        unfold f_X8_speed
        rw [ck8 hm, e_areFrames hm h36, if_pos hp, bnd_s, if_neg (by decide), ck8 hm, e2, x2', bnd_s, ck8 hm, e1, x1', bnd_s, if_pos hd]
    · rw [← e125] at v1 v2 p4
      obtain ⟨o, S2, q1, q2, q3, q4, q5, q6⟩ := pair_told hI s1 m1 v1 v2 p4
      cases o with
      | none =>
        refine ⟨-10000004, S1, S2, ?_, ?_, q5.mono (by omega)⟩
        · show f_X7_speed S 4 a b = _
          rw [hc7, if_neg hd, ck7 hs, p1, bnd_s, ck7 s1, e4 S1 s1, ck30 s1, q1, bnd_s, if_pos (show encC none = (-10000004 : Int32) from rfl)]
        · show f_X8_speed S1 124 a b = _
          unfold f_X8_speed
          rw [ck8 m1, e_areFrames m1 (fc := fc') (by rw [e125]; exact h36), if_pos hp, bnd_s, if_neg (by decide), ck8 m1, e2, x2, bnd_s, ck8 m1, e1, x1, bnd_s, if_neg hd, ck8 m1, q2, bnd2_s, if_pos (show encM none = (-1000000 : Int32) from rfl)]
      | some k =>
        have hk := q6 k rfl
        refine ⟨iI k * 100 / (S.1 125 (37 + 162 * f2) - S.1 125 (37 + 162 * f1)), S1, S2, ?_, ?_, q5.mono (by omega)⟩
        · show f_X7_speed S 4 a b = _
          rw [hc7, if_neg hd, ck7 hs, p1, bnd_s, ck7 s1, e4 S1 s1, ck30 s1, q1, bnd_s, if_neg (show ¬ encC (some k) = (-10000004 : Int32) from encC_no hk), ck_t hd]
          rfl
        · show f_X8_speed S1 124 a b = _
          unfold f_X8_speed
          rw [ck8 m1, e_areFrames m1 (fc := fc') (by rw [e125]; exact h36), if_pos hp, bnd_s, if_neg (by decide), ck8 m1, e2, x2, bnd_s, ck8 m1, e1, x1, bnd_s, if_neg hd, ck8 m1, q2, bnd2_s, if_neg (show ¬ encM (some k) = (-1000000 : Int32) from encM_no hk), ck_t hd, Int32.mul_comm]
          rfl
  · refine Op.no h0 (-10000001) ?_ ?_
    · show f_X7_speed S 4 a b = _
      unfold f_X7_speed
      obtain ⟨r1, g1, g2⟩ := c_frameAny hs h4 f5 a
      obtain ⟨r2, g3, g4⟩ := c_frameAny hs h4 f5 b
      rw [ck7 hs, e0, ck5 hs, g1, bnd_s, ck7 hs, ck5 hs, g3, bnd_s]
      by_cases c1 : r1 = 0
      · rw [if_pos c1]
      · rw [if_neg c1]
        by_cases c2 : r2 = 0
        · rw [if_pos c2]
        · rw [if_neg c2, if_pos]
          by_cases c3 : a = b
          · exact c3
          · exfalso
            apply hp
            refine ⟨?_, ?_, c3⟩
            · by_cases z : 0 ≤ a ∧ a ≤ nI fc - 1
              · exact z
              · exact absurd (g2.2 z) c1
            · by_cases z : 0 ≤ b ∧ b ≤ nI fc - 1
              · exact z
              · exact absurd (g4.2 z) c2
    · show f_X8_speed S 124 a b = _
      unfold f_X8_speed
      rw [ck8 hm, e_areFrames hm h36, if_neg hp, bnd_s, if_pos rfl]
