/-! THE FAULT OF THE TEXT -/
def wrT (a1 a2 a3 a4 a5 a6 : Int32) : Option Nat := if 0 ≤ a1 ∧ a1 ≤ 9 then (if a1 ≤ a2 ∧ a2 ≤ 9 then (if -20000 ≤ a3 ∧ a3 ≤ 20000 then (if -200 ≤ a4 ∧ a4 ≤ 200 then (if 50 ≤ a5 ∧ a5 ≤ 1600 then (if 0 ≤ a6 ∧ a6 ≤ 255 then none else some 5) else some 4) else some 3) else some 2) else some 1) else some 0
def enc7 (o : Option Nat) : Int32 := match o with
  | none => -1
  | some n => nI n
def enc8 (o : Option Nat) : Int32 := match o with
  | none => -1000000
  | some n => nI n
theorem e_wrT7 (a1 a2 a3 a4 a5 a6 : Int32) : f_X7_wrongOfThing a1 a2 a3 a4 a5 a6 = some (enc7 (wrT a1 a2 a3 a4 a5 a6)) := by
  unfold f_X7_wrongOfThing wrT
  rw [e_within, bnd_s]
  by_cases h1 : 0 ≤ a1 ∧ a1 ≤ 9
  · rw [if_pos h1, if_pos h1, if_neg (by decide), e_within, bnd_s]
    by_cases h2 : a1 ≤ a2 ∧ a2 ≤ 9
    · rw [if_pos h2, if_pos h2, if_neg (by decide), e_within, bnd_s]
      by_cases h3 : -20000 ≤ a3 ∧ a3 ≤ 20000
      · rw [if_pos h3, if_pos h3, if_neg (by decide), e_within, bnd_s]
        by_cases h4 : -200 ≤ a4 ∧ a4 ≤ 200
        · rw [if_pos h4, if_pos h4, if_neg (by decide), e_within, bnd_s]
          by_cases h5 : 50 ≤ a5 ∧ a5 ≤ 1600
          · rw [if_pos h5, if_pos h5, if_neg (by decide), e_within, bnd_s]
            by_cases h6 : 0 ≤ a6 ∧ a6 ≤ 255
            · rw [if_pos h6, if_pos h6, if_neg (by decide)]
              rfl
            · rw [if_neg h6, if_neg h6, if_pos rfl]
              rfl
          · rw [if_neg h5, if_neg h5, if_pos rfl]
            rfl
        · rw [if_neg h4, if_neg h4, if_pos rfl]
          rfl
      · rw [if_neg h3, if_neg h3, if_pos rfl]
        rfl
    · rw [if_neg h2, if_neg h2, if_pos rfl]
      rfl
  · rw [if_neg h1, if_neg h1, if_pos rfl]
    rfl
theorem e_wrT8 (a1 a2 a3 a4 a5 a6 : Int32) : f_X8_wrongNumber a1 a2 a3 a4 a5 a6 = some (enc8 (wrT a1 a2 a3 a4 a5 a6)) := by
  unfold f_X8_wrongNumber wrT
  rw [e_in, bnd_s]
  by_cases h1 : 0 ≤ a1 ∧ a1 ≤ 9
  · rw [if_pos h1, if_pos h1, if_neg (by decide), e_in, bnd_s]
    by_cases h2 : a1 ≤ a2 ∧ a2 ≤ 9
    · rw [if_pos h2, if_pos h2, if_neg (by decide), e_in, bnd_s]
      by_cases h3 : -20000 ≤ a3 ∧ a3 ≤ 20000
      · rw [if_pos h3, if_pos h3, if_neg (by decide), e_in, bnd_s]
        by_cases h4 : -200 ≤ a4 ∧ a4 ≤ 200
        · rw [if_pos h4, if_pos h4, if_neg (by decide), e_in, bnd_s]
          by_cases h5 : 50 ≤ a5 ∧ a5 ≤ 1600
          · rw [if_pos h5, if_pos h5, if_neg (by decide), e_in, bnd_s]
            by_cases h6 : 0 ≤ a6 ∧ a6 ≤ 255
            · rw [if_pos h6, if_pos h6, if_neg (by decide)]
              rfl
            · rw [if_neg h6, if_neg h6, if_pos rfl]
              rfl
          · rw [if_neg h5, if_neg h5, if_pos rfl]
            rfl
        · rw [if_neg h4, if_neg h4, if_pos rfl]
          rfl
      · rw [if_neg h3, if_neg h3, if_pos rfl]
        rfl
    · rw [if_neg h2, if_neg h2, if_pos rfl]
      rfl
  · rw [if_neg h1, if_neg h1, if_pos rfl]
    rfl
/-- which number of an order is wrong -/
def wrF (c : Nat) (v : Nat → Int32) : Option Nat := if c = 116 then wrT (v 0) (v 1) (v 2) (v 3) (v 4) (v 5) else if c = 103 then (if 1 ≤ v 0 ∧ v 0 ≤ 200 then none else some 0) else if c = 115 then none else (if 0 ≤ v 0 ∧ v 0 ≤ 9 then none else some 0)
theorem wrT_lt {a1 a2 a3 a4 a5 a6 : Int32} {x : Nat} (h : wrT a1 a2 a3 a4 a5 a6 = some x) : x < 6 := by
  unfold wrT at h
  by_cases h1 : 0 ≤ a1 ∧ a1 ≤ 9
  · rw [if_pos h1] at h
    by_cases h2 : a1 ≤ a2 ∧ a2 ≤ 9
    · rw [if_pos h2] at h
      by_cases h3 : -20000 ≤ a3 ∧ a3 ≤ 20000
      · rw [if_pos h3] at h
        by_cases h4 : -200 ≤ a4 ∧ a4 ≤ 200
        · rw [if_pos h4] at h
          by_cases h5 : 50 ≤ a5 ∧ a5 ≤ 1600
          · rw [if_pos h5] at h
            by_cases h6 : 0 ≤ a6 ∧ a6 ≤ 255
            · rw [if_pos h6] at h
              cases h
            · rw [if_neg h6] at h
              have := Option.some.inj h
              omega
          · rw [if_neg h5] at h
            have := Option.some.inj h
            omega
        · rw [if_neg h4] at h
          have := Option.some.inj h
          omega
      · rw [if_neg h3] at h
        have := Option.some.inj h
        omega
    · rw [if_neg h2] at h
      have := Option.some.inj h
      omega
  · rw [if_neg h1] at h
    have := Option.some.inj h
    omega
theorem wrF_lt {c : Nat} {v : Nat → Int32} {x : Nat} (h : wrF c v = some x) : x < 6 := by
  unfold wrF at h
  by_cases c1 : c = 116
  · rw [if_pos c1] at h
    exact wrT_lt h
  · rw [if_neg c1] at h
    by_cases c2 : c = 103
    · rw [if_pos c2] at h
      by_cases d : 1 ≤ v 0 ∧ v 0 ≤ 200
      · rw [if_pos d] at h
        cases h
      · rw [if_neg d] at h
        have := Option.some.inj h
        omega
    · rw [if_neg c2] at h
      by_cases c3 : c = 115
      · rw [if_pos c3] at h
        cases h
      · rw [if_neg c3] at h
        by_cases d : 0 ≤ v 0 ∧ v 0 ≤ 9
        · rw [if_pos d] at h
          cases h
        · rw [if_neg d] at h
          have := Option.some.inj h
          omega
theorem c_numberAt {S : St} (hs : CSh S) {k : Nat} (hk : k < 6) : f_X2_numberAt S 28 (nI k) = some (S.1 29 k) := by
  unfold f_X2_numberAt
  have e1 : S.2.1 28 1 = 29 := hs.2.2.1.2.2
  rw [ck28 hs, e1, c_numberIn hs.n (n := 6) rfl (by decide) rfl (by omega) (by omega), bnd_s, if_pos hk]
theorem okL_c {c : Nat} (h : okL c = true) : c = 116 ∨ c = 103 ∨ c = 115 ∨ c = 98 ∨ c = 117 := by
  unfold okL at h
  simp only [Bool.or_eq_true, decide_eq_true_eq] at h
  exact h
theorem c_wrongNumber {S : St} (hs : CSh S) {c : Nat} {v : Nat → Int32} (h0 : S.1 28 0 = nI c) (hc : okL c = true) (hv : ∀ k, k < cntL c → S.1 29 k = v k) : f_X2_wrongNumber S 28 = some (enc7 (wrF c v)) := by
  unfold f_X2_wrongNumber
  have n0 : f_X2_numberAt S 28 0 = some (S.1 29 0) := c_numberAt hs (k := 0) (by omega)
  have n1 : f_X2_numberAt S 28 1 = some (S.1 29 1) := c_numberAt hs (k := 1) (by omega)
  have n2 : f_X2_numberAt S 28 2 = some (S.1 29 2) := c_numberAt hs (k := 2) (by omega)
  have n3 : f_X2_numberAt S 28 3 = some (S.1 29 3) := c_numberAt hs (k := 3) (by omega)
  have n4 : f_X2_numberAt S 28 4 = some (S.1 29 4) := c_numberAt hs (k := 4) (by omega)
  have n5 : f_X2_numberAt S 28 5 = some (S.1 29 5) := c_numberAt hs (k := 5) (by omega)
  rw [ck28 hs, h0]
  rcases okL_c hc with rfl | rfl | rfl | rfl | rfl
  · have ew : wrF 116 v = wrT (v 0) (v 1) (v 2) (v 3) (v 4) (v 5) := rfl
    rw [ew, if_pos (show nI 116 = (116 : Int32) from rfl), ck28 hs, n0, bnd_s, ck28 hs, n1, bnd_s, ck28 hs, n2, bnd_s, ck28 hs, n3, bnd_s, ck28 hs, n4, bnd_s, ck28 hs, n5, bnd_s, e_wrT7, bnd_s, hv 0 (by decide), hv 1 (by decide), hv 2 (by decide), hv 3 (by decide), hv 4 (by decide), hv 5 (by decide)]
  · have ew : wrF 103 v = (if 1 ≤ v 0 ∧ v 0 ≤ 200 then none else some 0) := rfl
    rw [ew, if_neg (show ¬ nI 103 = (116 : Int32) by decide), ck28 hs, if_pos (show nI 103 = (103 : Int32) from rfl), ck28 hs, n0, bnd_s, e_within, bnd_s, hv 0 (by decide)]
    by_cases d : 1 ≤ v 0 ∧ v 0 ≤ 200
    · rw [if_pos d, if_pos d, if_neg (by decide)]
      rfl
    · rw [if_neg d, if_neg d, if_pos rfl]
      rfl
  · have ew : wrF 115 v = none := rfl
    rw [ew, if_neg (show ¬ nI 115 = (116 : Int32) by decide), ck28 hs, if_neg (show ¬ nI 115 = (103 : Int32) by decide), ck28 hs, if_pos (show nI 115 = (115 : Int32) from rfl)]
    rfl
  · have ew : wrF 98 v = (if 0 ≤ v 0 ∧ v 0 ≤ 9 then none else some 0) := rfl
    rw [ew, if_neg (show ¬ nI 98 = (116 : Int32) by decide), ck28 hs, if_neg (show ¬ nI 98 = (103 : Int32) by decide), ck28 hs, if_neg (show ¬ nI 98 = (115 : Int32) by decide), ck28 hs, n0, bnd_s, e_within, bnd_s, hv 0 (by decide)]
    by_cases d : 0 ≤ v 0 ∧ v 0 ≤ 9
    · rw [if_pos d, if_pos d, if_neg (by decide)]
      rfl
    · rw [if_neg d, if_neg d, if_pos rfl]
      rfl
  · have ew : wrF 117 v = (if 0 ≤ v 0 ∧ v 0 ≤ 9 then none else some 0) := rfl
    rw [ew, if_neg (show ¬ nI 117 = (116 : Int32) by decide), ck28 hs, if_neg (show ¬ nI 117 = (103 : Int32) by decide), ck28 hs, if_neg (show ¬ nI 117 = (115 : Int32) by decide), ck28 hs, n0, bnd_s, e_within, bnd_s, hv 0 (by decide)]
    by_cases d : 0 ≤ v 0 ∧ v 0 ≤ 9
    · rw [if_pos d, if_pos d, if_neg (by decide)]
      rfl
    · rw [if_neg d, if_neg d, if_pos rfl]
      rfl
/-- whether an order can be done, and what is then: things, time, blinded rows -/
def canF (c n tc tm bl : Nat) : Bool := if c = 116 then decide (tc < 4) else if c = 103 then decide (tm + n ≤ 20000) else if c = 115 then true else if c = 98 then !(bl.testBit n) else bl.testBit n
def nxT (c tc : Nat) : Nat := if c = 116 then tc + 1 else tc
def nxM (c n tm : Nat) : Nat := if c = 103 then tm + n else tm
def nxB (c n bl : Nat) : Nat := if c = 98 ∨ c = 117 then bl ^^^ (1 <<< n) else bl
def T3 (tc tm bl : Nat) : Prop := tc ≤ 4 ∧ tm ≤ 20000 ∧ bl < 1024
theorem wr_n {c : Nat} {v : Nat → Int32} (h : wrF c v = none) (hc : c = 103 ∨ c = 98 ∨ c = 117) : v 0 = nI (v 0).toNatClampNeg ∧ (v 0).toNatClampNeg ≤ 200 ∧ (c ≠ 103 → (v 0).toNatClampNeg ≤ 9) := by
  unfold wrF at h
  rw [if_neg (by omega)] at h
  by_cases c1 : c = 103
  · rw [if_pos c1] at h
    by_cases d : 1 ≤ v 0 ∧ v 0 ≤ 200
    · obtain ⟨n, e, n1, n2⟩ := q_ex (lo := 1) (hi := 200) d.1 d.2 (by decide) (by decide)
      rw [e, q_cl (by omega)]
      exact ⟨rfl, n2, fun h => absurd c1 h⟩
    · rw [if_neg d] at h
      cases h
  · rw [if_neg c1, if_neg (by omega)] at h
    by_cases d : 0 ≤ v 0 ∧ v 0 ≤ 9
    · obtain ⟨n, e, n1, n2⟩ := q_ex (lo := 0) (hi := 9) d.1 d.2 (by decide) (by decide)
      rw [e, q_cl (by omega)]
      exact ⟨rfl, by omega, fun _ => n2⟩
    · rw [if_neg d] at h
      cases h
theorem bl_lt {bl n : Nat} (h : bl < 1024) (hn : n ≤ 9) : bl ^^^ (1 <<< n) < 1024 := by
  have h1 : 1 <<< n < 2 ^ 10 := by
    rw [Nat.one_shiftLeft]
    exact Nat.pow_lt_pow_right (by omega) (by omega)
  exact Nat.xor_lt_two_pow (show bl < 2 ^ 10 from h) h1
theorem bit_sh (n i : Nat) : (1 <<< n).testBit i = decide (i = n) := by
  rw [Nat.one_shiftLeft]
  by_cases c : i = n
  · rw [c, Nat.testBit_two_pow_self, decide_eq_true rfl]
  · rw [Nat.testBit_two_pow_of_ne (Ne.symm c), decide_eq_false c]
theorem or_xor {bl n : Nat} (h : bl.testBit n = false) : bl ||| (1 <<< n) = bl ^^^ (1 <<< n) := by
  apply Nat.eq_of_testBit_eq
  intro i
  rw [Nat.testBit_or, Nat.testBit_xor, bit_sh]
  by_cases c : i = n
  · rw [c, h, decide_eq_true rfl]
    rfl
  · rw [decide_eq_false c]
    cases bl.testBit i <;> rfl
theorem andn_xor {bl n : Nat} (hb : bl < 1024) (h : bl.testBit n = true) : mk (fun i => bl.testBit i && !((1 <<< n).testBit i)) 31 = bl ^^^ (1 <<< n) := by
  apply Nat.eq_of_testBit_eq
  intro i
  rw [mk_bit, Nat.testBit_xor, bit_sh]
  by_cases c : i = n
  · rw [c, h, decide_eq_true rfl]
    simp
  · rw [decide_eq_false c]
    by_cases c2 : i < 31
    · rw [decide_eq_true c2]
      cases bl.testBit i <;> rfl
    · rw [decide_eq_false c2]
      have z : bl.testBit i = false := Nat.testBit_lt_two_pow (Nat.lt_of_lt_of_le hb (show 2 ^ 10 ≤ 2 ^ i from Nat.pow_le_pow_right (by omega) (by omega)))
      rw [z]
      rfl
theorem nx_ok {c tc tm bl : Nat} {v : Nat → Int32} (hw : wrF c v = none) (hk : okL c = true) (hc : canF c (v 0).toNatClampNeg tc tm bl = true) (h : T3 tc tm bl) : T3 (nxT c tc) (nxM c (v 0).toNatClampNeg tm) (nxB c (v 0).toNatClampNeg bl) := by
  obtain ⟨h1, h2, h3⟩ := h
  unfold canF at hc
  unfold T3 nxT nxM nxB
  rcases okL_c hk with rfl | rfl | rfl | rfl | rfl
  · rw [if_pos rfl, decide_eq_true_eq] at hc
    rw [if_pos rfl, if_neg (by decide), if_neg (by decide)]
    omega
  · rw [if_neg (by decide), if_pos rfl, decide_eq_true_eq] at hc
    rw [if_neg (by decide), if_pos rfl, if_neg (by decide)]
    omega
  · rw [if_neg (by decide), if_neg (by decide), if_neg (by decide)]
    omega
  · have hn := wr_n hw (by omega)
    rw [if_neg (by decide), if_neg (by decide), if_pos (by decide)]
    exact ⟨h1, h2, bl_lt h3 (hn.2.2 (by decide))⟩
  · have hn := wr_n hw (by omega)
    rw [if_neg (by decide), if_neg (by decide), if_pos (by decide)]
    exact ⟨h1, h2, bl_lt h3 (hn.2.2 (by decide))⟩
theorem holds_any (a b : Int32) : ∃ r : Int32, f_X7_holds a b = some r := by
  unfold f_X7_holds
  split
  · exact ⟨_, rfl⟩
  · exact ⟨_, rfl⟩
/-- what the class holds of the state then -/
def TH (S : St) (tc tm bl : Nat) : Prop := S.1 26 7 = nI tc ∧ S.1 26 8 = nI tm ∧ S.1 26 9 = nI bl
def PP : Nat → Nat → Prop := fun x j => x = 26 ∧ 7 ≤ j
theorem c_possible {S : St} (hs : CSh S) {c tc tm bl : Nat} {v : Nat → Int32} (h0 : S.1 28 0 = nI c) (hk : okL c = true) (hv : ∀ k, k < cntL c → S.1 29 k = v k) (hw : wrF c v = none) (ht : T3 tc tm bl) (hh : TH S tc tm bl) : ∃ S', f_X4_isPossibleThen S 26 = some (bI (canF c (v 0).toNatClampNeg tc tm bl), S') ∧ Ex PP S S' ∧ (canF c (v 0).toNatClampNeg tc tm bl = true → TH S' (nxT c tc) (nxM c (v 0).toNatClampNeg tm) (nxB c (v 0).toNatClampNeg bl)) := by
  obtain ⟨g7, g8, g9⟩ := hh
  obtain ⟨t1, t2, t3⟩ := ht
  have e2 : S.2.1 26 2 = 28 := hs.2.2.1.2.1
  have n0 : f_X2_numberAt S 28 0 = some (S.1 29 0) := c_numberAt hs (k := 0) (by omega)
  have kup : ∀ {j : Nat} {v : Int32}, CSh (upI S 26 j v) := hs.ex (Ex.rf.upa (a := 26))
  obtain ⟨rh, hrh⟩ := holds_any (nI bl) (S.1 29 0)
  unfold f_X4_isPossibleThen
  rw [ck26 hs, e2, ck28 hs, n0, bnd_s, ck26 hs, g9, hrh, bnd_s, ck26 hs, ck28 hs, h0]
  rcases okL_c hk with rfl | rfl | rfl | rfl | rfl
  · have ec : canF 116 (v 0).toNatClampNeg tc tm bl = decide (tc < 4) := rfl
    rw [ec, if_pos (show nI 116 = (116 : Int32) from rfl), ck26 hs, ck26 hs, vlt_s, ck26 kup, upI_at, if_pos (show 26 = 26 ∧ 7 = 7 from ⟨rfl, rfl⟩), g7, L1, q_add]
    by_cases d : tc < 4
    · rw [if_neg (by rw [L4, q_lt (by omega) (by omega)]; omega), decide_eq_true d]
      refine ⟨_, rfl, Ex.up ⟨rfl, by omega⟩, fun _ => ⟨?_, ?_, ?_⟩⟩
      · rw [upI_at, if_pos ⟨rfl, rfl⟩]
        rfl
      · rw [upI_at, if_neg (by omega), g8]
        rfl
      · rw [upI_at, if_neg (by omega), g9]
        rfl
    · rw [if_pos (by rw [L4, q_lt (by omega) (by omega)]; omega), decide_eq_false d]
      exact ⟨_, rfl, Ex.up ⟨rfl, by omega⟩, fun h => by cases h⟩
  · have hn := wr_n hw (by omega)
    have hv0 : S.1 29 0 = nI (v 0).toNatClampNeg := (hv 0 (by decide)).trans hn.1
    have ec : canF 103 (v 0).toNatClampNeg tc tm bl = decide (tm + (v 0).toNatClampNeg ≤ 20000) := rfl
    rw [ec, if_neg (show ¬ nI 103 = (116 : Int32) by decide), ck26 hs, ck28 hs, if_pos (show nI 103 = (103 : Int32) from rfl), ck26 hs, ck26 hs, vlt_s, ck26 kup, upI_at, if_pos (show 26 = 26 ∧ 8 = 8 from ⟨rfl, rfl⟩), g8, hv0, q_add]
    by_cases d : tm + (v 0).toNatClampNeg ≤ 20000
    · rw [if_neg (by rw [L20000, q_lt (by omega) (by omega)]; omega), decide_eq_true d]
      refine ⟨_, rfl, Ex.up ⟨rfl, by omega⟩, fun _ => ⟨?_, ?_, ?_⟩⟩
      · rw [upI_at, if_neg (by omega), g7]
        rfl
      · rw [upI_at, if_pos ⟨rfl, rfl⟩]
        rfl
      · rw [upI_at, if_neg (by omega), g9]
        rfl
    · rw [if_pos (by rw [L20000, q_lt (by omega) (by omega)]; omega), decide_eq_false d]
      exact ⟨_, rfl, Ex.up ⟨rfl, by omega⟩, fun h => by cases h⟩
  · have ec : canF 115 (v 0).toNatClampNeg tc tm bl = true := rfl
    rw [ec, if_neg (show ¬ nI 115 = (116 : Int32) by decide), ck26 hs, ck28 hs, if_neg (show ¬ nI 115 = (103 : Int32) by decide), ck26 hs, ck28 hs, if_neg (show ¬ nI 115 = (98 : Int32) by decide), ck26 hs, ck28 hs, if_neg (show ¬ nI 115 = (117 : Int32) by decide)]
    exact ⟨S, rfl, Ex.rf, fun _ => ⟨g7, g8, g9⟩⟩
  · have hn := wr_n hw (by omega)
    have hn9 := hn.2.2 (by decide)
    have hv0 : S.1 29 0 = nI (v 0).toNatClampNeg := (hv 0 (by decide)).trans hn.1
    rw [hv0, e_holds (by omega) (by omega)] at hrh
    have e1 : (1 : Int32) <<< (nI (v 0).toNatClampNeg &&& 31) = nI (1 <<< (v 0).toNatClampNeg) := q_shl 1 (by omega)
    have ec : canF 98 (v 0).toNatClampNeg tc tm bl = !(bl.testBit (v 0).toNatClampNeg) := rfl
    rw [ec, if_neg (show ¬ nI 98 = (116 : Int32) by decide), ck26 hs, ck28 hs, if_neg (show ¬ nI 98 = (103 : Int32) by decide), ck26 hs, ck28 hs, if_pos (show nI 98 = (98 : Int32) from rfl), ck26 hs, ck26 hs, vlt_s, hv0, e1, q_or, ← Option.some.inj hrh]
    by_cases d : bl.testBit (v 0).toNatClampNeg = true
    · rw [if_pos d, if_neg (by decide), d]
      exact ⟨_, rfl, Ex.up ⟨rfl, by omega⟩, fun h => by cases h⟩
    · have d' : bl.testBit (v 0).toNatClampNeg = false := by simpa using d
      rw [if_neg d, if_pos rfl, d', or_xor d']
      refine ⟨_, rfl, Ex.up ⟨rfl, by omega⟩, fun _ => ⟨?_, ?_, ?_⟩⟩
      · rw [upI_at, if_neg (by omega), g7]
        rfl
      · rw [upI_at, if_neg (by omega), g8]
        rfl
      · rw [upI_at, if_pos ⟨rfl, rfl⟩]
        rfl
  · have hn := wr_n hw (by omega)
    have hn9 := hn.2.2 (by decide)
    have hv0 : S.1 29 0 = nI (v 0).toNatClampNeg := (hv 0 (by decide)).trans hn.1
    rw [hv0, e_holds (by omega) (by omega)] at hrh
    have e1 : (1 : Int32) <<< (nI (v 0).toNatClampNeg &&& 31) = nI (1 <<< (v 0).toNatClampNeg) := q_shl 1 (by omega)
    have ec : canF 117 (v 0).toNatClampNeg tc tm bl = bl.testBit (v 0).toNatClampNeg := rfl
    rw [ec, if_neg (show ¬ nI 117 = (116 : Int32) by decide), ck26 hs, ck28 hs, if_neg (show ¬ nI 117 = (103 : Int32) by decide), ck26 hs, ck28 hs, if_neg (show ¬ nI 117 = (98 : Int32) by decide), ck26 hs, ck28 hs, if_pos (show nI 117 = (117 : Int32) from rfl), ck26 hs, ck26 hs, vlt_s, hv0, e1, q_andn (by omega), ← Option.some.inj hrh]
    by_cases d : bl.testBit (v 0).toNatClampNeg = true
    · rw [if_pos d, ck_t (Or.inr rfl), d, andn_xor t3 d]
      refine ⟨_, rfl, Ex.up ⟨rfl, by omega⟩, fun _ => ⟨?_, ?_, ?_⟩⟩
      · rw [upI_at, if_neg (by omega), g7]
        rfl
      · rw [upI_at, if_neg (by omega), g8]
        rfl
      · rw [upI_at, if_pos ⟨rfl, rfl⟩]
        rfl
    · have d' : bl.testBit (v 0).toNatClampNeg = false := by simpa using d
      rw [if_neg d, ck_t (Or.inl rfl), d']
      exact ⟨_, rfl, Ex.up ⟨rfl, by omega⟩, fun h => by cases h⟩
