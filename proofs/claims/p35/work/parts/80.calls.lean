/-! THE CALLS OF THE CLASS: what each answers of the row w, and what row comes of it -/
def tcw (w : Wf) : Nat := (w 8).toNatClampNeg
def fcw (w : Wf) : Nat := (w 36).toNatClampNeg
def blw (w : Wf) : Nat := (w 34).toNatClampNeg
def Rw (w : Wf) : Nat := (w 0).toNatClampNeg
def Cw (w : Wf) : Nat := (w 1).toNatClampNeg
def tmw (w : Wf) : Nat := (w 33).toNatClampNeg
/-- the class says the row w and the st rows h, all of them in bounds -/
def Kc (S : St) (w : Wf) (st : Nat) (h : Nat → Wf) : Prop := (∃ len tx, CI S w st h len tx) ∧ OKw 0 w ∧ ∀ i, i < st → OKw 0 (h i)
theorem RN.uq {S : St} {k tc fc bl R C : Nat} {w : Wf} (h : RN S k w tc fc bl R C) : tc = tcw w ∧ fc = fcw w ∧ bl = blw w ∧ R = Rw w ∧ C = Cw w := by
  unfold tcw fcw blw Rw Cw
  have t4 := h.1.2.1
  have hR := h.2.2.1
  have hC := h.2.2.2.1
  have hb := h.2.2.2.2.2.1
  have hf := h.2.2.2.2.2.2.2.1
  refine ⟨?_, ?_, ?_, ?_, ?_⟩
  · rw [h.2.1, q_cl (by omega)]
  · rw [hf.2.1, q_cl (by omega)]
  · rw [hb.2.1, q_cl (by omega)]
  · rw [hR.1, q_cl (by omega)]
  · rw [hC.1, q_cl (by omega)]
theorem RNe.uq {S : St} {k : Nat} {w : Wf} (h : RNe S k w) : RN S k w (tcw w) (fcw w) (blw w) (Rw w) (Cw w) := by
  obtain ⟨tc, fc, bl, R, C, h⟩ := h
  obtain ⟨h1, h2, h3, h4, h5⟩ := h.uq
  rw [← h1, ← h2, ← h3, ← h4, ← h5]
  exact h
theorem OKn.tq {N : Nat} {w : Wf} {tc fc tm : Nat} (h : OKn N w tc fc tm) : tc = tcw w ∧ fc = fcw w ∧ tm = tmw w := by
  unfold tcw fcw tmw
  have h1 := h.1
  have h2 := h.2.1
  have h3 := h.2.2.1
  refine ⟨?_, ?_, ?_⟩
  · rw [h1.1, q_cl (by omega)]
  · rw [h2.1, q_cl (by omega)]
  · rw [h3.1, q_cl (by omega)]
theorem OKw.uq {N : Nat} {w : Wf} (h : OKw N w) : OKn N w (tcw w) (fcw w) (tmw w) := by
  obtain ⟨tc, fc, tm, h⟩ := h
  obtain ⟨h1, h2, h3⟩ := h.tq
  rw [← h1, ← h2, ← h3]
  exact h
theorem Kc.cs {S : St} {w : Wf} {st : Nat} {h : Nat → Wf} (k : Kc S w st h) : CSh S := by
  obtain ⟨⟨len, tx, c⟩, -⟩ := k
  exact c.1
theorem Kc.rn {S : St} {w : Wf} {st : Nat} {h : Nat → Wf} (k : Kc S w st h) : RN S 5 w (tcw w) (fcw w) (blw w) (Rw w) (Cw w) := by
  obtain ⟨⟨len, tx, c⟩, -⟩ := k
  exact c.2.2.1.uq
theorem Kc.ok {S : St} {w : Wf} {st : Nat} {h : Nat → Wf} (k : Kc S w st h) : OKn 0 w (tcw w) (fcw w) (tmw w) := k.2.1.uq
/-- a call that keeps the state, and then makes w' of w -/
theorem Kc.keep {S : St} {w : Wf} {st : Nat} {h : Nat → Wf} (k : Kc S w st h) {f7 : Option (Int32 × St)} {w' : Wf} {v : Int32} (c : ∀ S1, CSh S1 → f_X7_recordState S 4 = some S1 → RN S1 5 w (tcw w) (fcw w) (blw w) (Rw w) (Cw w) → ∃ S2, f7 = some (v, S2) ∧ CSh S2 ∧ Ch AN S1 S2 ∧ RNe S2 5 w') (ho : OKw 0 w') : ∃ S2, f7 = some (v, S2) ∧ Kc S2 w' (hst st) (hps st h w) := by
  obtain ⟨⟨len, tx, ci⟩, hok, hh⟩ := k
  obtain ⟨S1, r1, r2, r3⟩ := e_recordState ci
  obtain ⟨S2, c1, c2, c3, c4⟩ := c S1 r2.1 r1 r2.2.2.1.uq
  refine ⟨S2, c1, ⟨len, tx, r2.upd c2 c3 (fun x q => q) c4⟩, ho, fun i hi => ?_⟩
  unfold hst at hi
  unfold hps
  by_cases hs : st = 4
  · rw [if_pos hs] at hi
    simp only [if_pos hs]
    by_cases c : i < 3
    · rw [if_pos c]
      exact hh (i + 1) (by omega)
    · rw [if_neg c]
      exact hok
  · rw [if_neg hs] at hi
    simp only [if_neg hs]
    by_cases c : i = st
    · rw [if_pos c]
      exact hok
    · rw [if_neg c]
      exact hh i (by omega)
/-- a call that only writes within the class's scratch -/
theorem Kc.scr {A : Nat → Prop} {S S' : St} {w : Wf} {st : Nat} {h : Nat → Wf} (k : Kc S w st h) (hc : Ch A S S') (hA : ∀ x, A x → 28 ≤ x ∧ x < 44) (hr : S'.2.1 = S.2.1) : Kc S' w st h := by
  obtain ⟨⟨len, tx, ci⟩, hok⟩ := k
  exact ⟨⟨len, tx, ci.scr hc hA hr⟩, hok⟩
section KC
variable {S : St} {w : Wf} {st : Nat} {h : Nat → Wf}
/-! numbers -/
theorem k_countS (k : Kc S w st h) {i : Nat} (hi : i < 8) : f_X7_count S 4 (nI (10 + i)) = some (w i) := by
  have hs := k.cs
  have hn := k.rn
  have e0 : S.2.1 4 0 = 5 := hs.2.1.1
  have ha : (10 : Int32) ≤ nI (10 + i) ∧ nI (10 + i) ≤ 17 := by
    rw [L10, L17, q_le (by omega) (by omega), q_le (by omega) (by omega)]
    omega
  have es : nI (10 + i) - 10 = nI i := by
    rw [L10, q_sub (by omega)]
    congr 1
    omega
  unfold f_X7_count
  simp only [es]
  rw [e_within, if_pos ha, bnd_s, if_neg (by decide), ck7 hs, e0, ck5 hs, c_setting hs sc5 (by omega), bnd_s, hn.1.1 _ (by omega)]
theorem k_count0 (k : Kc S w st h) : f_X7_count S 4 0 = some (nI (tcw w)) := by
  have hs := k.cs
  have hn := k.rn
  have e0 : S.2.1 4 0 = 5 := hs.2.1.1
  unfold f_X7_count
  rw [e_within, if_neg (by decide), bnd_s, if_pos rfl, if_pos rfl, ck7 hs, e0, ck5 hs, hn.1.2.2.1]
theorem k_count1 (k : Kc S w st h) : f_X7_count S 4 1 = some (nI (fcw w)) := by
  have hs := k.cs
  have hn := k.rn
  have e0 : S.2.1 4 0 = 5 := hs.2.1.1
  unfold f_X7_count
  rw [e_within, if_neg (by decide), bnd_s, if_pos rfl, if_neg (by decide), if_pos rfl, ck7 hs, e0, ck5 hs, hn.2.2.2.2.2.2.2.1.1]
theorem k_count2 (k : Kc S w st h) : f_X7_count S 4 2 = some (w 33) := by
  have hs := k.cs
  have hn := k.rn
  have e0 : S.2.1 4 0 = 5 := hs.2.1.1
  unfold f_X7_count
  rw [e_within, if_neg (by decide), bnd_s, if_pos rfl, if_neg (by decide), if_neg (by decide), if_pos rfl, ck7 hs, e0, ck5 hs, hn.2.2.2.2.1]
theorem k_count3 (k : Kc S w st h) : f_X7_count S 4 3 = some (nI (pc (blw w) 17)) := by
  have hs := k.cs
  have hn := k.rn
  have e0 : S.2.1 4 0 = 5 := hs.2.1.1
  have hb := hn.2.2.2.2.2.1
  unfold f_X7_count
  rw [e_within, if_neg (by decide), bnd_s, if_pos rfl, if_neg (by decide), if_neg (by decide), if_neg (by decide), if_pos rfl, ck7 hs, e0, ck5 hs, hb.1, e_bitCount (by omega), bnd_s]
theorem k_count4 (k : Kc S w st h) : f_X7_count S 4 4 = some (w 35) := by
  have hs := k.cs
  have hn := k.rn
  have e0 : S.2.1 4 0 = 5 := hs.2.1.1
  unfold f_X7_count
  rw [e_within, if_neg (by decide), bnd_s, if_pos rfl, if_neg (by decide), if_neg (by decide), if_neg (by decide), if_neg (by decide), if_pos rfl, ck7 hs, e0, ck5 hs, hn.2.2.2.2.2.2.1]
theorem k_count6 (k : Kc S w st h) : f_X7_count S 4 6 = some (nI st) := by
  have hs := k.cs
  have e6 : S.1 4 2 = nI st := by
    obtain ⟨⟨len, tx, ci⟩, -⟩ := k
    exact ci.2.2.2.1.2.1
  unfold f_X7_count
  rw [e_within, if_neg (by decide), bnd_s, if_pos rfl, if_neg (by decide), if_neg (by decide), if_neg (by decide), if_neg (by decide), if_neg (by decide), if_neg (by decide), if_pos rfl, ck7 hs, e6]
/-! set -/
def upw (w : Wf) (i : Nat) (b : Int32) : Wf := fun j => if j = i then b else w j
theorem k_limits (k : Kc S w st h) {i : Nat} (hi : i < 8) : f_X7_numberIn S 1 (nI i) = some (S00.1 1 i) ∧ f_X7_numberIn S 2 (nI i) = some (S00.1 2 i) := by
  have hs := k.cs
  have hst : Stc S := by
    obtain ⟨⟨len, tx, ci⟩, -⟩ := k
    exact ci.2.1
  have h0 := hst i hi
  refine ⟨?_, ?_⟩
  · rw [c_numberIn hs.n (n := 8) rfl (by decide) rfl (by decide) (by omega), if_pos (by omega), h0.1]
  · rw [c_numberIn hs.n (n := 8) rfl (by decide) rfl (by decide) (by omega), if_pos (by omega), h0.2]
theorem k_set (k : Kc S w st h) {i : Nat} {b : Int32} (hi : i < 8) (hb : S00.1 1 i ≤ b ∧ b ≤ S00.1 2 i) (hgo : 2 < i ∨ fcw w = 0) : ∃ S2, f_X7_set S 4 (nI i) b = some (w i, S2) ∧ Kc S2 (upw w i b) (hst st) (hps st h w) := by
  have hs := k.cs
  have hn := k.rn
  obtain ⟨n1, n2⟩ := k_limits k hi
  have f4 := hn.2.2.2.2.2.2.2.1
  have ha : (0 : Int32) ≤ nI i ∧ nI i ≤ 7 := by
    rw [L0, L7, q_le (by omega) (by omega), q_le (by omega) (by omega)]
    omega
  refine k.keep (fun S1 s1 r1 q1 => ?_) (k.2.1.set hi hb)
  have e0 : S.2.1 4 0 = 5 := hs.2.1.1
  have e0' : S1.2.1 4 0 = 5 := s1.2.1.1
  have hj : f_X7_set_J55 S 4 (nI i) b = some (w i, upI S1 6 i b) := by
    unfold f_X7_set_J55
    rw [ck7 hs, r1, bnd_s, ck7 s1, e0', ck5 s1, c_setting s1 sc5 (by omega), bnd_s, ck7 s1, ck5 s1]
    unfold f_X3_changeSetting
    have e5 : S1.2.1 5 0 = 6 := (s1.sc sc5).1.1
    have a6 : Ar 6 8 := ⟨rfl, rfl, by decide, by decide, by decide⟩
    simp only [e5, lnA a6]
    rw [if_neg (by rw [L0, q_lt (by omega) (by omega)]; omega), ck5 s1, ck_t (okA s1.n a6), if_neg (by rw [q_le (by omega) (by omega)]; omega), ck5 s1, cwA s1.n a6 (by omega)]
    simp only [q_cl (show i < 2147483648 by omega)]
    rw [vlt_s, bnd_s, q1.1.1 i (by omega)]
  refine ⟨upI S1 6 i b, ?_, s1.rf rfl rfl, Ch.up (A := AN) Ch.rf (by unfold AN; omega), ?_⟩
  · unfold f_X7_set
    rw [e_within, if_pos ha, bnd_s, if_neg (by decide), n1, bnd_s, n2, bnd_s, e_within, if_pos hb, bnd_s, if_neg (by decide)]
    by_cases c : 2 < i
    · rw [if_pos (by rw [L2, q_lt (by omega) (by omega)]; exact c)]
      exact hj
    · rw [if_neg (by rw [L2, q_lt (by omega) (by omega)]; exact c), ck7 hs, e0, ck5 hs, if_pos (by rw [f4.1, L0, q_le (by omega) (by omega)]; omega)]
      exact hj
  · refine q1.set s1 sc5 (by omega) rfl (fun z => ⟨by omega, ?_⟩) (fun z => ⟨by omega, ?_⟩)
    · subst z
      exact Rg.of (lo := 1) (hi := 10) hb.1 hb.2 (by decide) (by decide)
    · subst z
      exact Rg.of (lo := 4) (hi := 16) hb.1 hb.2 (by decide) (by decide)
theorem k_setNo (k : Kc S w st h) {i : Nat} {b : Int32} (hi : i < 3) (hb : S00.1 1 i ≤ b ∧ b ≤ S00.1 2 i) (hf : fcw w ≠ 0) : f_X7_set S 4 (nI i) b = some (-10000002, S) := by
  have hs := k.cs
  have hn := k.rn
  obtain ⟨n1, n2⟩ := k_limits k (show i < 8 by omega)
  have f4 := hn.2.2.2.2.2.2.2.1
  have e0 : S.2.1 4 0 = 5 := hs.2.1.1
  have ha : (0 : Int32) ≤ nI i ∧ nI i ≤ 7 := by
    rw [L0, L7, q_le (by omega) (by omega), q_le (by omega) (by omega)]
    omega
  unfold f_X7_set
  rw [e_within, if_pos ha, bnd_s, if_neg (by decide), n1, bnd_s, n2, bnd_s, e_within, if_pos hb, bnd_s, if_neg (by decide), if_neg (by rw [L2, q_lt (by omega) (by omega)]; omega), ck7 hs, e0, ck5 hs, if_neg (by rw [f4.1, L0, q_le (by omega) (by omega)]; omega)]
theorem k_set8 (k : Kc S w st h) : f_X7_set S 4 8 0 = some (-10000001, S) := by
  unfold f_X7_set
  rw [e_within, if_neg (by decide), bnd_s, if_pos rfl]
/-! thing -/
theorem e_wrongNo {a1 a2 a3 a4 a5 a6 : Int32} (z1 : 0 ≤ a1 ∧ a1 ≤ 9) (z2 : a1 ≤ a2 ∧ a2 ≤ 9) (z3 : -20000 ≤ a3 ∧ a3 ≤ 20000) (z4 : -200 ≤ a4 ∧ a4 ≤ 200) (z5 : 50 ≤ a5 ∧ a5 ≤ 1600) (z6 : 0 ≤ a6 ∧ a6 ≤ 255) : f_X7_wrongOfThing a1 a2 a3 a4 a5 a6 = some (-1) := by
  unfold f_X7_wrongOfThing
  simp only [e_within, bnd_s, if_pos z1, if_pos z2, if_pos z3, if_pos z4, if_pos z5, if_pos z6, if_neg (show ¬ (1 : Int32) = 0 by decide)]
theorem k_thing (k : Kc S w st h) {a1 a2 a3 a4 a5 a6 : Int32} (h4 : tcw w < 4) (z1 : 0 ≤ a1 ∧ a1 ≤ 9) (z2 : a1 ≤ a2 ∧ a2 ≤ 9) (z3 : -20000 ≤ a3 ∧ a3 ≤ 20000) (z4 : -200 ≤ a4 ∧ a4 ≤ 200) (z5 : 50 ≤ a5 ∧ a5 ≤ 1600) (z6 : 0 ≤ a6 ∧ a6 ≤ 255) : ∃ S2, f_X7_thing S 4 a1 a2 a3 a4 a5 a6 = some (nI (tcw w), S2) ∧ Kc S2 (wadd w (tcw w) a1 a2 a3 a4 a5 a6) (hst st) (hps st h w) := by
  have hs := k.cs
  have hn := k.rn
  have e0 : S.2.1 4 0 = 5 := hs.2.1.1
  refine k.keep (fun S1 s1 r1 q1 => ?_) ⟨_, _, _, k.ok.add h4 z1 z2 z3 z4 z5 z6⟩
  have e0' : S1.2.1 4 0 = 5 := s1.2.1.1
  obtain ⟨S2, g1, g2, g3, g4⟩ := e_addThing s1 sc5 q1.1.2.2.1 h4 a1 a2 a3 a4 a5 a6
  have s2 := s1.ex g2
  have e0'' : S2.2.1 4 0 = 5 := s2.2.1.1
  refine ⟨S2, ?_, s2, g2.ch (fun x j q => by unfold AN; omega), _, _, _, _, _, q1.add s1 sc5 h4 g2 g3 g4⟩
  unfold f_X7_thing
  rw [e_wrongNo z1 z2 z3 z4 z5 z6, bnd_s, if_pos (by decide), ck7 hs, e0, ck5 hs, hn.1.2.2.1, if_pos (by rw [L4, q_lt (by omega) (by omega)]; exact h4), ck7 hs, r1, bnd_s, ck7 s1, e0', ck5 s1, g1, bnd_s, ck7 s2, e0'', ck5 s2, g3, L1, q_sub (by omega), show tcw w + 1 - 1 = tcw w by omega]
end KC
