/-! ASKING ON: rows, frames, what is shown; the text -/
def wt (w : Wf) (r : Nat) : Int32 := if w (847 + r) - w (857 + r) ≤ 0 then 1 else 1 + (w (847 + r) - w (857 + r))
theorem c_weightOf {S : St} (hs : CSh S) {k tc fc bl R C r : Nat} {w : Wf} (hk : Sc k) (h : RN S k w tc fc bl R C) (hr : r < 10) : f_X3_weightOf S k (nI r) = some (wt w r) := by
  have hd := hk.kds
  have hb := hk.rg
  unfold f_X3_weightOf wt
  have e8 : S.2.1 k 8 = k + 4 := (hs.sc hk).1.2.2.2.1
  have e9 : S.2.1 k 9 = k + 5 := (hs.sc hk).1.2.2.2.2
  have ok : ∀ {β : Type} (o : Option β), chk (okc S 3 k) o = o := fun o => ck_t (okS hs.n hd.1 (by omega)) o
  rw [ok, e8, c_numberIn hs.n hd.2.2.2.2.2.2.2.1 (by omega) hd.2.2.2.2.2.2.2.2.1 (by omega) (by omega), bnd_s, if_pos hr, ok, e9, c_numberIn hs.n hd.2.2.2.2.2.2.2.2.2.1 (by omega) hd.2.2.2.2.2.2.2.2.2.2.1 (by omega) (by omega), bnd_s, if_pos hr, h.2.2.2.2.2.2.2.2.2.1 r hr, h.2.2.2.2.2.2.2.2.2.2 r hr]
  unfold f_J9_max_7cf53
  by_cases c : w (847 + r) - w (857 + r) ≤ 0
  · rw [if_neg (Int32.not_lt.mpr c), bnd_s, if_pos c]
    rfl
  · rw [if_pos (Int32.not_le.mp c), bnd_s, if_neg c]
theorem e_weightOf {S : St} (hm : MSh S) {r : Nat} (hr : r < 10) : f_X8_weightOf S 124 (nI r) = some (wt (S.1 125) r) := by
  unfold f_X8_weightOf wt
  have c1 : (nI (847 + r)).toNatClampNeg = 847 + r := q_cl (by omega)
  have c2 : (nI (857 + r)).toNatClampNeg = 857 + r := q_cl (by omega)
  simp only [L847, L857, q_add, c1, c2]
  rw [ck8 hm, hm.2.1, ckM hm (by omega), ck8 hm, ckM hm (by omega), vlt_s]
  by_cases c : S.1 125 (847 + r) - S.1 125 (857 + r) ≤ 0
  · rw [if_pos c, if_pos c]
  · rw [if_neg c, if_neg c]
theorem oq_rowOf {N : Nat} {S : St} (h : INV N S) (a b : Int32) : Oq S (fun S => f_X7_rowOf S 4 a b) (fun S => f_X8_rowOf S 124 a b) := by
  obtain ⟨st, len, i1, i2, i3, i4, i5, i6, i7⟩ := h
  have hs := i1.1
  have e0 : S.2.1 4 0 = 5 := hs.2.1.1
  obtain ⟨tc, fc, bl, R, C, hn⟩ := i1.2.2.1
  have hbl := hn.2.2.2.2.2.1
  have e8 : S.2.1 5 8 = 9 := (hs.sc sc5).1.2.2.2.1
  have e9 : S.2.1 5 9 = 10 := (hs.sc sc5).1.2.2.2.2
  show ∃ v, f_X7_rowOf S 4 a b = some v ∧ f_X8_rowOf S 124 a b = some v
  unfold f_X7_rowOf f_X8_rowOf
  by_cases ha : 0 ≤ a ∧ a ≤ 9
  · obtain ⟨r, rfl, -, hr⟩ := q_ex (lo := 0) (hi := 9) ha.1 ha.2 (by decide) (by decide)
    by_cases hb : 0 ≤ b ∧ b ≤ 3
    · obtain ⟨d, rfl, -, hd⟩ := q_ex (lo := 0) (hi := 3) hb.1 hb.2 (by decide) (by decide)
      have hd4 : d = 0 ∨ d = 1 ∨ d = 2 ∨ d = 3 := by omega
      rcases hd4 with rfl | rfl | rfl | rfl
      · refine ⟨if bl.testBit r = true then 1 else 0, ?_, ?_⟩
        · rw [e_within, if_pos ha, bnd_s, if_neg (by decide), e_within, if_pos hb, bnd_s, if_neg (by decide), if_pos (show nI 0 = (0 : Int32) from rfl), ck7 hs, e0, ck5 hs, hbl.1, e_holds (by omega) (by omega), bnd_s]
          by_cases z : bl.testBit r = true
          · rw [if_pos z, if_neg (by decide)]
          · rw [if_neg z, if_pos rfl]
        · have c34 : (34 : Int32).toNatClampNeg = 34 := rfl
          rw [e_in, if_pos ha, bnd_s, if_neg (by decide), if_pos (show nI 0 = (0 : Int32) from rfl), ck8 i2, i2.2.1, ck_t (show ina S 10 125 34 from inaN i2.1 rfl rfl (by decide) (by decide) (show 34 < 867 by omega)), c34, hbl.2.1, q_bitv (by omega) (by omega)]
      · refine ⟨S.1 125 (847 + r), ?_, ?_⟩
        · unfold f_X7_rowOf_J82
          rw [e_within, if_pos ha, bnd_s, if_neg (by decide), e_within, if_pos hb, bnd_s, if_neg (by decide), if_neg (show ¬ nI 1 = (0 : Int32) by decide), if_neg (show ¬ nI 1 = (3 : Int32) by decide), if_pos (show nI 1 = (1 : Int32) from rfl), ck7 hs, e0, ck5 hs, e8, c_numberIn hs.n (n := 10) rfl (by decide) rfl (by omega) (by omega), bnd_s, if_pos (by omega)]
          exact congrArg some (hn.2.2.2.2.2.2.2.2.2.1 r (by omega))
        · have c1 : (nI (847 + r)).toNatClampNeg = 847 + r := q_cl (by omega)
          simp only [L847, q_add, c1]
          rw [e_in, if_pos ha, bnd_s, if_neg (by decide), if_neg (show ¬ nI 1 = (0 : Int32) by decide), if_pos (show nI 1 = (1 : Int32) from rfl), ck8 i2, i2.2.1, ckM i2 (by omega)]
      · refine ⟨S.1 125 (857 + r), ?_, ?_⟩
        · unfold f_X7_rowOf_J82
          rw [e_within, if_pos ha, bnd_s, if_neg (by decide), e_within, if_pos hb, bnd_s, if_neg (by decide), if_neg (show ¬ nI 2 = (0 : Int32) by decide), if_neg (show ¬ nI 2 = (3 : Int32) by decide), if_neg (show ¬ nI 2 = (1 : Int32) by decide), ck7 hs, e0, ck5 hs, e9, c_numberIn hs.n (n := 10) rfl (by decide) rfl (by omega) (by omega), bnd_s, if_pos (by omega)]
          exact congrArg some (hn.2.2.2.2.2.2.2.2.2.2 r (by omega))
        · have c1 : (nI (857 + r)).toNatClampNeg = 857 + r := q_cl (by omega)
          simp only [L857, q_add, c1]
          rw [e_in, if_pos ha, bnd_s, if_neg (by decide), if_neg (show ¬ nI 2 = (0 : Int32) by decide), if_neg (show ¬ nI 2 = (1 : Int32) by decide), if_pos (show nI 2 = (2 : Int32) from rfl), ck8 i2, i2.2.1, ckM i2 (by omega)]
      · refine ⟨wt (S.1 125) r, ?_, ?_⟩
        · rw [e_within, if_pos ha, bnd_s, if_neg (by decide), e_within, if_pos hb, bnd_s, if_neg (by decide), if_neg (show ¬ nI 3 = (0 : Int32) by decide), if_pos (show nI 3 = (3 : Int32) from rfl), ck7 hs, e0, ck5 hs, c_weightOf hs sc5 hn (by omega), bnd_s]
        · rw [e_in, if_pos ha, bnd_s, if_neg (by decide), if_neg (show ¬ nI 3 = (0 : Int32) by decide), if_neg (show ¬ nI 3 = (1 : Int32) by decide), if_neg (show ¬ nI 3 = (2 : Int32) by decide), if_pos (show nI 3 = (3 : Int32) from rfl), ck8 i2, e_weightOf i2 (by omega), bnd_s]
    · refine ⟨-10000001, ?_, ?_⟩
      · rw [e_within, if_pos ha, bnd_s, if_neg (by decide), e_within, if_neg hb, bnd_s, if_pos rfl]
      · rw [e_in, if_pos ha, bnd_s, if_neg (by decide), if_neg (fun e => hb (by rw [e]; decide)), if_neg (fun e => hb (by rw [e]; decide)), if_neg (fun e => hb (by rw [e]; decide)), if_neg (fun e => hb (by rw [e]; decide))]
  · refine ⟨-10000001, ?_, ?_⟩
    · rw [e_within, if_neg ha, bnd_s, if_pos rfl]
    · rw [e_in, if_neg ha, bnd_s, if_pos rfl]
/-- how many edges a frame has in its first rows -/
def ecs (w : Wf) (C f fb : Nat) : Nat → Nat
  | 0 => 0
  | r + 1 => ecs w C f fb r + pc (edf w C f r fb) 17
theorem ecs_le (w : Wf) (C f fb : Nat) : ∀ r, ecs w C f fb r ≤ 17 * r
  | 0 => Nat.le_refl _
  | r + 1 => by
    have := ecs_le w C f fb r
    have := pc_le (edf w C f r fb) 17
    unfold ecs
    omega
theorem oq_frameOf {N : Nat} {S : St} (h : INV N S) (a b : Int32) : Oq S (fun S => f_X7_frameOf S 4 a b) (fun S => f_X8_frameOf S 124 a b) := by
  obtain ⟨st, len, i1, i2, i3, i4, i5, i6, i7⟩ := h
  have hs := i1.1
  have e0 : S.2.1 4 0 = 5 := hs.2.1.1
  obtain ⟨tc, fc, bl, R, C, hn⟩ := i1.2.2.1
  obtain ⟨tm, hok⟩ := i5.of hn.2.1 hn.1.2.1 hn.2.2.2.2.2.2.2.1.2.1 hn.2.2.2.2.2.2.2.1.2.2
  obtain ⟨f4, w36, f5⟩ := hn.2.2.2.2.2.2.2.1
  show ∃ v, f_X7_frameOf S 4 a b = some v ∧ f_X8_frameOf S 124 a b = some v
  unfold f_X7_frameOf f_X8_frameOf
  by_cases ha : 0 ≤ a ∧ a ≤ nI fc - 1
  · obtain ⟨f, rfl, hf⟩ := idx_ex (by omega) ha
    have hFb := ((hs.sc sc5).2.2.2.1 f (by omega)).rg
    have hF := ((hs.sc sc5).2.2.2.1 f (by omega)).fr hs sc5
    obtain ⟨y1, fb, y2, y3, y4, y5⟩ := hn.2.2.2.2.2.2.2.2.1 f hf
    have hR := hn.2.2.1
    have hC := hn.2.2.2.1
    have g2 : fv1 (S.1 125) f 1 = nI fb := by
      unfold fv1
      rw [show 37 + 162 * f + 1 = 38 + 162 * f by omega]
      exact y3
    by_cases hb : 0 ≤ b ∧ b ≤ 2
    · obtain ⟨d, rfl, -, hd⟩ := q_ex (lo := 0) (hi := 2) hb.1 hb.2 (by decide) (by decide)
      have hd3 : d = 0 ∨ d = 1 ∨ d = 2 := by omega
      rcases hd3 with rfl | rfl | rfl
      · refine ⟨S.1 125 (37 + 162 * f), ?_, ?_⟩
        · rw [ck7 hs, e0, ck5 hs, c_frameAt_t hs sc5 f4 f5 hf, bnd_s, if_neg (by omega), e_within, if_pos hb, bnd_s, if_neg (by decide), if_pos (show nI 0 = (0 : Int32) from rfl), ck_t (okS hs.n hF.1 hF.2.2.1)]
          exact congrArg some y1
        · have e : f_X8_frameValue S 124 (nI f) 0 = some (S.1 125 (37 + 162 * f)) := e_frameValue i2 (f := f) (j := 0) (by omega) (by omega)
          rw [ck8 i2, e_isFrame i2, w36, if_pos ha, bnd_s, if_neg (by decide), e_in, if_pos hb, bnd_s, if_neg (by decide), if_neg (show ¬ (2 : Int32) ≤ nI 0 by decide), if_pos (show nI 0 = (0 : Int32) from rfl), ck8 i2, e, bnd_s]
      · refine ⟨nI (fb &&& (1 <<< R - 1)), ?_, ?_⟩
        · rw [ck7 hs, e0, ck5 hs, c_frameAt_t hs sc5 f4 f5 hf, bnd_s, if_neg (by omega), e_within, if_pos hb, bnd_s, if_neg (by decide), if_neg (show ¬ nI 1 = (0 : Int32) by decide), if_pos (show nI 1 = (1 : Int32) from rfl), ck_t (okS hs.n hF.1 hF.2.2.1)]
          exact congrArg some y4
        · have e : f_X8_frameValue S 124 (nI f) 1 = some (nI fb) := by
            rw [← g2]
            exact e_frameValue i2 (f := f) (j := 1) (by omega) (by omega)
          have hp : 1 ≤ 1 <<< R := by
            rw [Nat.one_shiftLeft]; exact Nat.one_le_two_pow
          have hsh : (1 : Int32) <<< (nI R &&& 31) = nI (1 <<< R) := q_shl 1 (by omega)
          have es : nI (1 <<< R) - (1 : Int32) = nI (1 <<< R - 1) := by rw [L1, q_sub hp]
          rw [ck8 i2, e_isFrame i2, w36, if_pos ha, bnd_s, if_neg (by decide), e_in, if_pos hb, bnd_s, if_neg (by decide), if_neg (show ¬ (2 : Int32) ≤ nI 1 by decide), if_neg (show ¬ nI 1 = (0 : Int32) by decide), ck8 i2, e, bnd_s, ck8 i2, i2.2.1, ck_t (show ina S 10 125 0 from inaN i2.1 rfl rfl (by decide) (by decide) (show 0 < 867 by omega)), C0, hR.1, hsh, es, q_and]
      · have hle := ecs_le (S.1 125) C f fb
        refine ⟨nI (ecs (S.1 125) C f fb R), ?_, ?_⟩
        · rw [ck7 hs, e0, ck5 hs, c_frameAt_t hs sc5 f4 f5 hf, bnd_s, if_neg (by omega), e_within, if_pos hb, bnd_s, if_neg (by decide), if_neg (show ¬ nI 2 = (0 : Int32) by decide), if_neg (show ¬ nI 2 = (1 : Int32) by decide), ck7 hs]
          have hL : f_X7_edgeCountOf S 4 (S.2.1 (5 + 3) f) = some (nI (ecs (S.1 125) C f fb R)) := by
            unfold f_X7_edgeCountOf
            refine wl2_eq (kx := fun y => some y) (n := R) (fun r => nI (ecs (S.1 125) C f fb r)) 0 rfl rfl (by omega) (by omega) (fun r kk _ hr => ?_) (fun kk => ?_)
            · unfold f_X7_edgeCountOf_B4
              obtain ⟨fb', g1', g2', g3', g4', g5'⟩ := c_edges hs sc5 hn hok.2.2.2.1.2.1 hf hr
              have hfb : fb' = fb := by
                rw [← q_eq (by omega) (by omega), ← g2', ← g2]
              subst hfb
              have hem := edf_em (w := S.1 125) (f := f) (r := r) (fb := fb') hC.2.2
              have := hle r
              rw [ck7 hs, e0, ck5 hs, L0, c_setting hs sc5 (by omega), bnd_s, hn.1.1 0 (by omega), hR.1, if_neg (by rw [q_le (by omega) (by omega)]; omega), ck7 hs, ck5 hs, g5', bnd_s, e_bitCount hem.1, bnd_s, L1, q_add, q_add]
              rfl
            · unfold f_X7_edgeCountOf_B4
              rw [ck7 hs, e0, ck5 hs, L0, c_setting hs sc5 (by omega), bnd_s, hn.1.1 0 (by omega), hR.1, if_pos (Int32.le_refl _)]
          rw [hL, bnd_s]
        · rw [ck8 i2, e_isFrame i2, w36, if_pos ha, bnd_s, if_neg (by decide), e_in, if_pos hb, bnd_s, if_neg (by decide), if_pos (show (2 : Int32) ≤ nI 2 by decide)]
          refine wl2_eq (kx := fun y => some y) (n := R) (fun r => nI (ecs (S.1 125) C f fb r)) 0 rfl rfl (by omega) (by omega) (fun r kk _ hr => ?_) (fun kk => ?_)
          · unfold f_X8_frameOf_B61
            have hem := edf_em (w := S.1 125) (f := f) (r := r) (fb := fb) hC.2.2
            have he := hem.1
            rw [ck8 i2, i2.2.1, ck_t (show ina S 10 125 0 from inaN i2.1 rfl rfl (by decide) (by decide) (show 0 < 867 by omega)), C0, hR.1, if_neg (by rw [q_le (by omega) (by omega)]; omega), ck8 i2, e_edgesIn i2 (by omega) (by omega) hC.1 (by omega) hC.2.2 g2 y2, bnd_s, e_bits (by omega), bnd_s, L1, q_add, q_add]
            rfl
          · unfold f_X8_frameOf_B61
            rw [ck8 i2, i2.2.1, ck_t (show ina S 10 125 0 from inaN i2.1 rfl rfl (by decide) (by decide) (show 0 < 867 by omega)), C0, hR.1, if_pos (Int32.le_refl _)]
    · refine ⟨-10000001, ?_, ?_⟩
      · rw [ck7 hs, e0, ck5 hs, c_frameAt_t hs sc5 f4 f5 hf, bnd_s, if_neg (by omega), e_within, if_neg hb, bnd_s, if_pos rfl]
      · rw [ck8 i2, e_isFrame i2, w36, if_pos ha, bnd_s, if_neg (by decide), e_in, if_neg hb, bnd_s, if_pos rfl]
  · refine ⟨-10000001, ?_, ?_⟩
    · rw [ck7 hs, e0, ck5 hs, c_frameAt_f hs sc5 f4 a ha f5, bnd_s, if_pos rfl]
    · rw [ck8 i2, e_isFrame i2, w36, if_neg ha, bnd_s, if_pos rfl]
