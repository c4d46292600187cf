/-! AN ORDER IS DONE -/
def nxF (c fc : Nat) : Nat := if c = 115 then fpre fc + 1 else fc
theorem fpre_le {fc : Nat} (h : fc ≤ 5) : fpre fc ≤ 4 := by
  unfold fpre
  split <;> omega
theorem nxF_le {c fc : Nat} (h : fc ≤ 5) : nxF c fc ≤ 5 := by
  unfold nxF
  have := fpre_le h
  split <;> omega
/-- the row behind an order -/
def dwx (c : Nat) (v : Nat → Int32) (R C tc fc tm bl : Nat) (w : Wf) : Wf := if c = 116 then wadd w tc (v 0) (v 1) (v 2) (v 3) (v 4) (v 5) else if c = 103 then (fun j => if j = 33 then nI (tm + (v 0).toNatClampNeg) else w j) else if c = 115 then takf (wpre w fc) R C tc (fpre fc) else (fun j => if j = 34 then nI (bl ^^^ (1 <<< (v 0).toNatClampNeg)) else w j)
theorem wrT_none {a1 a2 a3 a4 a5 a6 : Int32} (h : wrT a1 a2 a3 a4 a5 a6 = none) : (0 ≤ a1 ∧ a1 ≤ 9) ∧ (a1 ≤ a2 ∧ a2 ≤ 9) ∧ (-20000 ≤ a3 ∧ a3 ≤ 20000) ∧ (-200 ≤ a4 ∧ a4 ≤ 200) ∧ (50 ≤ a5 ∧ a5 ≤ 1600) ∧ (0 ≤ a6 ∧ a6 ≤ 255) := by
  unfold wrT at h
  by_cases h1 : 0 ≤ a1 ∧ a1 ≤ 9
  · rw [if_pos h1] at h
    by_cases h2 : a1 ≤ a2 ∧ a2 ≤ 9
    · rw [if_pos h2] at h
      by_cases h3 : -20000 ≤ a3 ∧ a3 ≤ 20000
      · rw [if_pos h3] at h
        by_cases h4 : -200 ≤ a4 ∧ a4 ≤ 200
        · rw [if_pos h4] at h
          by_cases h5 : 50 ≤ a5 ∧ a5 ≤ 1600
          · rw [if_pos h5] at h
            by_cases h6 : 0 ≤ a6 ∧ a6 ≤ 255
            · exact ⟨h1, h2, h3, h4, h5, h6⟩
            · rw [if_neg h6] at h
              cases h
          · rw [if_neg h5] at h
            cases h
        · rw [if_neg h4] at h
          cases h
      · rw [if_neg h3] at h
        cases h
    · rw [if_neg h2] at h
      cases h
  · rw [if_neg h1] at h
    cases h
def PX : Nat → Prop := fun x => (5 ≤ x ∧ x < 25) ∨ x = 43
theorem c_perform {N : Nat} {S : St} (hs : CSh S) {c tc fc bl R C tm : Nat} {v : Nat → Int32} {w : Wf} (hn : RN S 5 w tc fc bl R C) (hok : OKn N w tc fc tm) (h0 : S.1 28 0 = nI c) (hk : okL c = true) (hv : ∀ k, k < cntL c → S.1 29 k = v k) (hw : wrF c v = none) (hc : canF c (v 0).toNatClampNeg tc tm bl = true) : ∃ S', f_X2_perform S 28 5 43 = some S' ∧ CSh S' ∧ Ch PX S S' ∧ RN S' 5 (dwx c v R C tc fc tm bl w) (nxT c tc) (nxF c fc) (nxB c (v 0).toNatClampNeg bl) R C ∧ OKn N (dwx c v R C tc fc tm bl w) (nxT c tc) (nxF c fc) (nxM c (v 0).toNatClampNeg tm) := by
  have hR := hn.2.2.1
  have hC := hn.2.2.2.1
  have f5 := hn.2.2.2.2.2.2.2.1.2.2
  obtain ⟨b7, b34, bb⟩ := hn.2.2.2.2.2.1
  have t6 : S.1 5 6 = nI tm := hn.2.2.2.2.1.trans hok.2.2.1.1
  have n0 : f_X2_numberAt S 28 0 = some (S.1 29 0) := c_numberAt hs (k := 0) (by omega)
  have n1 : f_X2_numberAt S 28 1 = some (S.1 29 1) := c_numberAt hs (k := 1) (by omega)
  have n2 : f_X2_numberAt S 28 2 = some (S.1 29 2) := c_numberAt hs (k := 2) (by omega)
  have n3 : f_X2_numberAt S 28 3 = some (S.1 29 3) := c_numberAt hs (k := 3) (by omega)
  have n4 : f_X2_numberAt S 28 4 = some (S.1 29 4) := c_numberAt hs (k := 4) (by omega)
  have n5 : f_X2_numberAt S 28 5 = some (S.1 29 5) := c_numberAt hs (k := 5) (by omega)
  unfold f_X2_perform
  rw [ck28 hs, h0]
  rcases okL_c hk with rfl | rfl | rfl | rfl | rfl
  · have ec : canF 116 (v 0).toNatClampNeg tc tm bl = decide (tc < 4) := rfl
    rw [ec, decide_eq_true_eq] at hc
    have ew : wrF 116 v = wrT (v 0) (v 1) (v 2) (v 3) (v 4) (v 5) := rfl
    rw [ew] at hw
    obtain ⟨z1, z2, z3, z4, z5, z6⟩ := wrT_none hw
    obtain ⟨S', g1, g2, g3, g4⟩ := e_addThing hs sc5 hn.1.2.2.1 hc (v 0) (v 1) (v 2) (v 3) (v 4) (v 5)
    rw [if_pos (show nI 116 = (116 : Int32) from rfl), ck28 hs, n0, bnd_s, ck28 hs, n1, bnd_s, ck28 hs, n2, bnd_s, ck28 hs, n3, bnd_s, ck28 hs, n4, bnd_s, ck28 hs, n5, bnd_s, ck5 hs, hv 0 (by decide), hv 1 (by decide), hv 2 (by decide), hv 3 (by decide), hv 4 (by decide), hv 5 (by decide), g1, bnd_s]
    exact ⟨S', rfl, hs.ex g2, g2.ch (fun x j q => by unfold PX; omega), hn.add hs sc5 hc g2 g3 g4, hok.add hc z1 z2 z3 z4 z5 z6⟩
  · have hnn := wr_n hw (by omega)
    have hv0 : S.1 29 0 = nI (v 0).toNatClampNeg := (hv 0 (by decide)).trans hnn.1
    have ec : canF 103 (v 0).toNatClampNeg tc tm bl = decide (tm + (v 0).toNatClampNeg ≤ 20000) := rfl
    rw [ec, decide_eq_true_eq] at hc
    rw [if_neg (show ¬ nI 103 = (116 : Int32) by decide), ck28 hs, if_pos (show nI 103 = (103 : Int32) from rfl), ck5 hs, ck28 hs, n0, bnd_s, ck5 hs, vlt_s, t6, hv0, q_add]
    refine ⟨_, rfl, hs.rf rfl rfl, Ch.up (A := PX) Ch.rf (by unfold PX; omega), hn.sc (S' := upI S 5 6 (nI (tm + (v 0).toNatClampNeg))) (bl' := bl) (t := nI (tm + (v 0).toNatClampNeg)) hs sc5 rfl (fun x j => ?_) (fun j hj => ?_) bb, hok.later hc (fun _ _ => rfl)⟩
    · rw [upI_at]
      by_cases z : x = 5 ∧ j = 6
      · rw [if_pos z, if_pos z]
      · rw [if_neg z, if_neg z]
        by_cases z2 : x = 5 ∧ j = 7
        · rw [if_pos z2, z2.1, z2.2]; exact b7
        · rw [if_neg z2]
    · show (if j = 33 then nI (tm + (v 0).toNatClampNeg) else w j) = _
      by_cases z : j = 33
      · rw [if_pos z, if_pos z]
      · rw [if_neg z, if_neg z]
        by_cases z2 : j = 34
        · rw [if_pos z2, z2]; exact b34
        · rw [if_neg z2]
  · obtain ⟨S', g1, g2, g3, g4⟩ := e_takeFrame hs (a := 43) (w1 := wpre w fc) (w' := takf (wpre w fc) R C tc (fpre fc)) sc5 (Or.inr (Or.inr rfl)) hn (hok.snap hR.2.2) (fun _ _ => rfl) (takf_tk hR.2.2 hC.2.2)
    rw [if_neg (show ¬ nI 115 = (116 : Int32) by decide), ck28 hs, if_neg (show ¬ nI 115 = (103 : Int32) by decide), ck28 hs, if_pos (show nI 115 = (115 : Int32) from rfl), ck5 hs, g1, bnd_s]
    exact ⟨S', rfl, g2, g3.wk (fun x q => by unfold PX; omega), g4, hok.pre.tk (takf_tk hR.2.2 hC.2.2) (fpre_le f5)⟩
  · have hnn := wr_n hw (by omega)
    have hn9 := hnn.2.2 (by decide)
    have hv0 : S.1 29 0 = nI (v 0).toNatClampNeg := (hv 0 (by decide)).trans hnn.1
    have ec : canF 98 (v 0).toNatClampNeg tc tm bl = !(bl.testBit (v 0).toNatClampNeg) := rfl
    have e1 : (1 : Int32) <<< (nI (v 0).toNatClampNeg &&& 31) = nI (1 <<< (v 0).toNatClampNeg) := q_shl 1 (by omega)
    have d' : bl.testBit (v 0).toNatClampNeg = false := by
      rw [ec] at hc
      simpa using hc
    rw [if_neg (show ¬ nI 98 = (116 : Int32) by decide), ck28 hs, if_neg (show ¬ nI 98 = (103 : Int32) by decide), ck28 hs, if_neg (show ¬ nI 98 = (115 : Int32) by decide), ck28 hs, if_pos (show nI 98 = (98 : Int32) from rfl), ck5 hs, ck28 hs, n0, bnd_s, ck5 hs, vlt_s, b7, hv0, e1, q_or, or_xor d']
    refine ⟨_, rfl, hs.rf rfl rfl, Ch.up (A := PX) Ch.rf (by unfold PX; omega), hn.sc (S' := upI S 5 7 (nI (bl ^^^ (1 <<< (v 0).toNatClampNeg)))) (bl' := bl ^^^ (1 <<< (v 0).toNatClampNeg)) (t := w 33) hs sc5 rfl (fun x j => ?_) (fun j hj => ?_) (bl_lt bb hn9), hok.cong (fun j _ _ _ h34 _ => if_neg h34)⟩
    · rw [upI_at]
      by_cases z : x = 5 ∧ j = 7
      · rw [if_pos z, if_neg (by omega)]
      · rw [if_neg z]
        by_cases z2 : x = 5 ∧ j = 6
        · rw [if_pos z2, z2.1, z2.2]; exact hn.2.2.2.2.1
        · rw [if_neg z2]
    · show (if j = 34 then nI (bl ^^^ (1 <<< (v 0).toNatClampNeg)) else w j) = _
      by_cases z : j = 34
      · rw [if_pos z, if_neg (by omega)]
      · rw [if_neg z]
        by_cases z2 : j = 33
        · rw [if_pos z2, z2]
        · rw [if_neg z2]
  · have hnn := wr_n hw (by omega)
    have hn9 := hnn.2.2 (by decide)
    have hv0 : S.1 29 0 = nI (v 0).toNatClampNeg := (hv 0 (by decide)).trans hnn.1
    have ec : canF 117 (v 0).toNatClampNeg tc tm bl = bl.testBit (v 0).toNatClampNeg := rfl
    have e1 : (1 : Int32) <<< (nI (v 0).toNatClampNeg &&& 31) = nI (1 <<< (v 0).toNatClampNeg) := q_shl 1 (by omega)
    rw [ec] at hc
    rw [if_neg (show ¬ nI 117 = (116 : Int32) by decide), ck28 hs, if_neg (show ¬ nI 117 = (103 : Int32) by decide), ck28 hs, if_neg (show ¬ nI 117 = (115 : Int32) by decide), ck28 hs, if_neg (show ¬ nI 117 = (98 : Int32) by decide), ck28 hs, if_pos (show nI 117 = (117 : Int32) from rfl), ck5 hs, ck28 hs, n0, bnd_s, ck5 hs, vlt_s, b7, hv0, e1, q_andn (by omega), andn_xor bb hc]
    refine ⟨_, rfl, hs.rf rfl rfl, Ch.up (A := PX) Ch.rf (by unfold PX; omega), hn.sc (S' := upI S 5 7 (nI (bl ^^^ (1 <<< (v 0).toNatClampNeg)))) (bl' := bl ^^^ (1 <<< (v 0).toNatClampNeg)) (t := w 33) hs sc5 rfl (fun x j => ?_) (fun j hj => ?_) (bl_lt bb hn9), hok.cong (fun j _ _ _ h34 _ => if_neg h34)⟩
    · rw [upI_at]
      by_cases z : x = 5 ∧ j = 7
      · rw [if_pos z, if_neg (by omega)]
      · rw [if_neg z]
        by_cases z2 : x = 5 ∧ j = 6
        · rw [if_pos z2, z2.1, z2.2]; exact hn.2.2.2.2.1
        · rw [if_neg z2]
    · show (if j = 34 then nI (bl ^^^ (1 <<< (v 0).toNatClampNeg)) else w j) = _
      by_cases z : j = 34
      · rw [if_pos z, if_neg (by omega)]
      · rw [if_neg z]
        by_cases z2 : j = 33
        · rw [if_pos z2, z2]
        · rw [if_neg z2]
/-! the model does it -/
/-- what a row of numbers says of its counts -/
def WR (w : Wf) (R C tc fc tm bl : Nat) : Prop := (w 0 = nI R ∧ R ≤ 10) ∧ (w 1 = nI C ∧ C ≤ 16) ∧ (w 8 = nI tc ∧ tc ≤ 4) ∧ (w 36 = nI fc ∧ fc ≤ 5) ∧ (w 33 = nI tm ∧ tm ≤ 20000) ∧ (w 34 = nI bl ∧ bl < 1024)
theorem WR.cong {w w' : Wf} {R C tc fc tm bl : Nat} (h : WR w R C tc fc tm bl) (e : ∀ j, j < 867 → w' j = w j) : WR w' R C tc fc tm bl := by
  unfold WR at *
  rw [e 0 (by omega), e 1 (by omega), e 8 (by omega), e 36 (by omega), e 33 (by omega), e 34 (by omega)]
  exact h
theorem WR.next {w : Wf} {c R C tc fc tm bl : Nat} {v : Nat → Int32} (h : WR w R C tc fc tm bl) (hk : okL c = true) (hw : wrF c v = none) (hc : canF c (v 0).toNatClampNeg tc tm bl = true) : WR (dwx c v R C tc fc tm bl w) R C (nxT c tc) (nxF c fc) (nxM c (v 0).toNatClampNeg tm) (nxB c (v 0).toNatClampNeg bl) := by
  obtain ⟨h0, h1, h8, h36, h33, h34⟩ := h
  have t3 := nx_ok hw hk hc ⟨h8.2, h33.2, h34.2⟩
  obtain ⟨t1, t2, t4⟩ := t3
  have f5 := h36.2
  have fp := fpre_le f5
  have lo : ∀ j, j ≤ 35 → wpre w fc j = w j := fun j hj => by
    unfold wpre
    split
    · rw [if_neg (by omega), if_neg (by omega)]
    · rfl
  rcases okL_c hk with rfl | rfl | rfl | rfl | rfl
  · have e : ∀ j, j ≠ 8 → (j < 9 ∨ 33 ≤ j) → dwx 116 v R C tc fc tm bl w j = w j := fun j hj h2 => by
      show wadd w tc (v 0) (v 1) (v 2) (v 3) (v 4) (v 5) j = w j
      have ec : canF 116 (v 0).toNatClampNeg tc tm bl = decide (tc < 4) := rfl
      rw [ec, decide_eq_true_eq] at hc
      unfold wadd
      rw [if_neg hj, if_neg (by omega)]
    have e8 : dwx 116 v R C tc fc tm bl w 8 = nI (tc + 1) := rfl
    exact ⟨⟨by rw [e 0 (by omega) (by omega)]; exact h0.1, h0.2⟩, ⟨by rw [e 1 (by omega) (by omega)]; exact h1.1, h1.2⟩, ⟨e8, t1⟩, ⟨by rw [e 36 (by omega) (by omega)]; exact h36.1, f5⟩, ⟨by rw [e 33 (by omega) (by omega)]; exact h33.1, t2⟩, ⟨by rw [e 34 (by omega) (by omega)]; exact h34.1, t4⟩⟩
  · have e : ∀ j, j ≠ 33 → dwx 103 v R C tc fc tm bl w j = w j := fun j hj => if_neg hj
    have e33 : dwx 103 v R C tc fc tm bl w 33 = nI (tm + (v 0).toNatClampNeg) := rfl
    exact ⟨⟨by rw [e 0 (by omega)]; exact h0.1, h0.2⟩, ⟨by rw [e 1 (by omega)]; exact h1.1, h1.2⟩, ⟨by rw [e 8 (by omega)]; exact h8.1, t1⟩, ⟨by rw [e 36 (by omega)]; exact h36.1, f5⟩, ⟨e33, t2⟩, ⟨by rw [e 34 (by omega)]; exact h34.1, t4⟩⟩
  · have e : ∀ j, j < 35 → dwx 115 v R C tc fc tm bl w j = w j := fun j hj => by
      show takf (wpre w fc) R C tc (fpre fc) j = w j
      unfold takf
      rw [if_neg (by omega), if_neg (by omega), if_neg (by omega), if_neg (by omega), if_neg (by omega)]
      exact lo j (by omega)
    have e36 : dwx 115 v R C tc fc tm bl w 36 = nI (fpre fc + 1) := rfl
    exact ⟨⟨by rw [e 0 (by omega)]; exact h0.1, h0.2⟩, ⟨by rw [e 1 (by omega)]; exact h1.1, h1.2⟩, ⟨by rw [e 8 (by omega)]; exact h8.1, t1⟩, ⟨e36, nxF_le (c := 115) f5⟩, ⟨by rw [e 33 (by omega)]; exact h33.1, t2⟩, ⟨by rw [e 34 (by omega)]; exact h34.1, t4⟩⟩
  · have e : ∀ j, j ≠ 34 → dwx 98 v R C tc fc tm bl w j = w j := fun j hj => if_neg hj
    have e34 : dwx 98 v R C tc fc tm bl w 34 = nI (bl ^^^ (1 <<< (v 0).toNatClampNeg)) := rfl
    exact ⟨⟨by rw [e 0 (by omega)]; exact h0.1, h0.2⟩, ⟨by rw [e 1 (by omega)]; exact h1.1, h1.2⟩, ⟨by rw [e 8 (by omega)]; exact h8.1, t1⟩, ⟨by rw [e 36 (by omega)]; exact h36.1, f5⟩, ⟨by rw [e 33 (by omega)]; exact h33.1, t2⟩, ⟨e34, t4⟩⟩
  · have e : ∀ j, j ≠ 34 → dwx 117 v R C tc fc tm bl w j = w j := fun j hj => if_neg hj
    have e34 : dwx 117 v R C tc fc tm bl w 34 = nI (bl ^^^ (1 <<< (v 0).toNatClampNeg)) := rfl
    exact ⟨⟨by rw [e 0 (by omega)]; exact h0.1, h0.2⟩, ⟨by rw [e 1 (by omega)]; exact h1.1, h1.2⟩, ⟨by rw [e 8 (by omega)]; exact h8.1, t1⟩, ⟨by rw [e 36 (by omega)]; exact h36.1, f5⟩, ⟨by rw [e 33 (by omega)]; exact h33.1, t2⟩, ⟨e34, t4⟩⟩
