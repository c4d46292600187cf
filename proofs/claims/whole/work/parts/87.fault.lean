/-! FAULT -/
theorem exm_c (ch : Tx) (len : Nat) : ∀ k p tc tm bl n, (exm ch len k p tc tm bl n).2.2.1 ≤ 44
  | 0, p, tc, tm, bl, n => Nat.zero_le _
  | k + 1, p, tc, tm, bl, n => by
    have h2 := fin_le ch p
    rw [exm_s]
    split
    · exact Nat.zero_le _
    · split
      · show (fin ch p).1 - p ≤ 44
        omega
      · split
        · show (wrF (ch p) (vl ch p)).getD 0 ≤ 44
          cases hw : wrF (ch p) (vl ch p) with
          | none => exact Nat.zero_le _
          | some x =>
            have := wrF_lt hw
            show x ≤ 44
            omega
        · split
          · exact exm_c ch len k _ _ _ _ _
          · exact Nat.zero_le _
theorem e_done {S : St} (hm : MSh S) {tx : Nat → Int32} {len R C tc fc tm bl : Nat} (ht : TxO tx len) (hc : TM S tx len) (hr : WR (S.1 125) R C tc fc tm bl) : ∃ S', f_X8_done S 124 = some (nI (exm (chN tx len) len 80 0 tc tm bl 0).2.2.2, S') ∧ Ex PY S S' ∧ EM S' (exm (chN tx len) len 80 0 tc tm bl 0) ∧ ∀ j, j < 867 → S'.1 127 j = exw (chN tx len) len R C 80 0 tc fc tm bl (S.1 125) j := by
  unfold f_X8_done
  have l80 := ht.1
  obtain ⟨S1, c1, c2, c3⟩ := e_copyTried hm
  have m1 := hm.ex c2
  obtain ⟨S2, t1, t2, t3, t4, t5, t6⟩ := e_faults m1 (-1000000) 0 (-1000000)
  have m2 := m1.ex t2
  rw [ck8 hm, ck8 hm, hm.2.1, hm.e3, c1, bnd_s, ck8 m1, t1, bnd_s, ck8 m2, vlt_s]
  generalize hS3 : upI S2 124 12 0 = S3
  have x3 : Ex PY S2 S3 := by
    rw [← hS3]
    exact Ex.up (Or.inr (Or.inr ⟨rfl, by omega⟩))
  have x03 : Ex PY S S3 := ((c2.wk (fun x j q => Or.inl q)).tr t2).tr x3
  obtain ⟨S4, g1, g2, g3, g4⟩ := l_done (R := R) (C := C) ht (fun (S_13 : St) (y1_12 : Int32) => (some (y1_12, S_13))) 80 FU S3 0 tc fc tm bl 0 (S.1 125) (by omega) (by decide) (by omega) (m2.ex x3) (hc.ex x03 (by unfold PY; omega) (fun j => by unfold PY; omega)) (by rw [← hS3, upI_at, if_pos ⟨rfl, rfl⟩]; rfl) (by rw [← hS3, upI_at, if_neg (by omega)]; exact t4) hr (fun j hj => by rw [← hS3, upI_at, if_neg (by omega), t6]; exact c3 j hj)
  exact ⟨S4, g1, x03.tr g2, g3, g4⟩
theorem CI.pe {S S' : St} {w : Wf} {st len : Nat} {h : Nat → Wf} {tx : Nat → Int32} (hi : CI S w st h len tx) (he : Ex PE S S') : CI S' w st h len tx := by
  obtain ⟨p1, p2, p3, ⟨a1, a2, a3⟩, p5, p6, p7⟩ := hi
  have hc : Ch (fun x => x = 26 ∨ x = 28 ∨ x = 29) S S' := he.ch (fun x j q => by unfold PE at q; omega)
  refine ⟨p1.ex he, p2.ch hc (by omega) (by omega), p3.ch p1 sc5 hc (fun d hd => by omega), ⟨a1, by rw [hc.i (by omega)]; exact a2, fun i hi => ?_⟩, p5, by rw [he.2 26 1 (by unfold PE; omega)]; exact p6, fun j hj => by rw [hc.i (by omega)]; exact p7 j hj⟩
  rw [hc.r (by omega)]
  obtain ⟨hsc, -⟩ := p1.2.2.2.2.2.2.2.1 i (by omega)
  exact (a3 i hi).ch p1 hsc hc (fun d hd => by
    have := hsc.no hd
    omega)
theorem INV.pe {N : Nat} {S S' : St} (h : INV N S) (he : Ex PE S S') : INV N S' := by
  obtain ⟨st, len, i1, i2, i3, i4, i5, i6, i7⟩ := h
  have c1 := i1.pe he
  have n : ∀ x j, 124 ≤ x → S'.1 x j = S.1 x j := fun x j hx => he.2 x j (by unfold PE; omega)
  have e125 : S'.1 125 = S.1 125 := funext (fun j => n 125 j (by omega))
  have e126 : S'.1 126 = S.1 126 := funext (fun j => n 126 j (by omega))
  have e128 : S'.1 128 = S.1 128 := funext (fun j => n 128 j (by omega))
  refine ⟨st, len, ?_, i2.ex he, by rw [n 124 2 (by omega)]; exact i3, by rw [n 124 5 (by omega)]; exact i4, by rw [e125]; exact i5, ?_, ?_⟩
  · rw [e125, e126, e128]
    exact c1
  · rw [e126]
    exact i6
  · rw [e128]
    exact i7
/-- both have gone over the text -/
theorem text_run {N : Nat} {S : St} (h : INV N S) : ∃ (tx : Nat → Int32) (len R C tc fc tm bl : Nat) (S1 : St), TxO tx len ∧ RN S 5 (S.1 125) tc fc bl R C ∧ OKn N (S.1 125) tc fc tm ∧ TC S tx len ∧ TM S tx len ∧ WR (S.1 125) R C tc fc tm bl ∧ f_X4_examine S 26 5 = some S1 ∧ Ex PE S S1 ∧ EX S1 (exm (chN tx len) len 80 0 tc tm bl 0) ∧ INV N S1 ∧ CSh S1 ∧ MSh S1 ∧ S1.1 125 = S.1 125 := by
  have h0 := h
  obtain ⟨st, len, i1, i2, i3, i4, i5, i6, i7⟩ := h
  have hs := i1.1
  obtain ⟨tc, fc, bl, R, C, hn⟩ := i1.2.2.1
  obtain ⟨tm, hok⟩ := i5.of hn.2.1 hn.1.2.1 hn.2.2.2.2.2.2.2.1.2.1 hn.2.2.2.2.2.2.2.1.2.2
  have ht : TxO (S.1 128) len := ⟨i1.2.2.2.2.1, i7⟩
  have hc : TC S (S.1 128) len := ⟨i1.2.2.2.2.2.1, i1.2.2.2.2.2.2⟩
  have hr : WR (S.1 125) R C tc fc tm bl := ⟨⟨hn.2.2.1.1, hn.2.2.1.2.2⟩, ⟨hn.2.2.2.1.1, hn.2.2.2.1.2.2⟩, ⟨hn.2.1, hn.1.2.1⟩, ⟨hn.2.2.2.2.2.2.2.1.2.1, hn.2.2.2.2.2.2.2.1.2.2⟩, hok.2.2.1, ⟨hn.2.2.2.2.2.1.2.1, hn.2.2.2.2.2.1.2.2⟩⟩
  obtain ⟨S1, g1, g2, g3⟩ := c_examine hs ht hc (tc := tc) (tm := tm) (bl := bl) ⟨hn.1.2.1, hok.2.2.1.2, hn.2.2.2.2.2.1.2.2⟩ hn.1.2.2.1 (hn.2.2.2.2.1.trans hok.2.2.1.1) hn.2.2.2.2.2.1.1
  exact ⟨S.1 128, len, R, C, tc, fc, tm, bl, S1, ht, hn, hok, hc, ⟨i4, fun _ _ => rfl⟩, hr, g1, g2, g3, h0.pe g2, hs.ex g2, i2.ex g2, funext (fun j => g2.2 125 j (by unfold PE; omega))⟩
theorem op_fault {N : Nat} {S : St} (h : INV N S) (a : Int32) : Op N S (fun S => f_X7_fault S 4 a) (fun S => f_X8_fault S 124 a) := by
  obtain ⟨tx, len, R, C, tc, fc, tm, bl, S1, ht, hn, hok, hc, hm8, hr, g1, g2, g3, hI, s1, m1, e125⟩ := text_run h
  obtain ⟨st, len', i1, i2, -⟩ := id h
  have hs := i1.1
  have e3 : ∀ S1 : St, CSh S1 → S1.2.1 4 3 = 26 := fun S1 q => q.2.1.2.2.1
  have e0 : S.2.1 4 0 = 5 := hs.2.1.1
  by_cases ha : 0 ≤ a ∧ a ≤ 2
  · obtain ⟨S2, d1, d2, d3, -⟩ := e_done m1 ht (hm8.ex g2 (by unfold PE; omega) (fun j => by unfold PE; omega)) (by rw [e125]; exact hr)
    have m2 := m1.ex d2
    have hI2 : INV (N + 1) S2 := (hI.msc (d2.wk (fun x j q => by unfold PY at q; unfold PM; omega))).mono (by omega)
    have hle := exm_le (chN tx len) len 80 0 tc tm bl 0
    have hcb := exm_c (chN tx len) len 80 0 tc tm bl 0
    generalize exm (chN tx len) len 80 0 tc tm bl 0 = E at g3 d3 hle d1 hcb
    obtain ⟨x4, x5, x6, x3⟩ := g3
    obtain ⟨y16, yy⟩ := d3
    obtain ⟨n, rfl, -, hn2⟩ := q_ex (lo := 0) (hi := 2) ha.1 ha.2 (by decide) (by decide)
    have hz : ∀ c : Nat, c < 3 → (nI n = nI c ↔ n = c) := fun c hc => q_eq (by omega) (by omega)
    have hin : f_X8_in (nI n) 0 2 = some 1 := e_in_t ha
    have h7 : f_X7_fault S 4 (nI n) = (if S1.1 26 5 = 0 then some (-10000004, S1) else if nI n = 2 then (if S1.1 26 5 = 3 then some (-10000004, S1) else f_X7_fault_J52 S1 4 (nI n)) else f_X7_fault_J52 S1 4 (nI n)) := by
      unfold f_X7_fault
      rw [e_within, if_pos ha, bnd_s, if_neg (by decide), ck7 hs, ck7 hs, e3 S hs, e0, ck26 hs, g1, bnd_s, ck7 s1, e3 S1 s1, ck26 s1, ck7 s1, ck26 s1]
    have J52 : f_X7_fault_J52 S1 4 (nI n) = (if n = 0 then some (S1.1 26 4, S1) else if n = 1 then some (S1.1 26 5, S1) else some (S1.1 26 6, S1)) := by
      unfold f_X7_fault_J52
      rw [ck7 s1, e3 S1 s1, ck26 s1, ck7 s1, ck26 s1, ck7 s1, ck26 s1]
      by_cases c0 : n = 0
      · rw [if_pos (show nI n = 0 by rw [c0]; rfl), if_pos c0]
      · rw [if_neg (show ¬ nI n = 0 from fun z => c0 ((hz 0 (by omega)).1 z)), if_neg c0]
        by_cases c1 : n = 1
        · rw [if_pos (show nI n = 1 by rw [c1]; rfl), if_pos c1]
        · rw [if_neg (show ¬ nI n = 1 from fun z => c1 ((hz 1 (by omega)).1 z)), if_neg c1]
    have h8 : f_X8_fault S1 124 (nI n) = (if S2.1 124 16 = 0 then some (-10000004, S2) else if nI n = 2 then (if S2.1 124 17 = -1000000 then some (-10000004, S2) else (if nI n = 0 then some (S2.1 124 15, S2) else if nI n = 1 then some (S2.1 124 16, S2) else some (S2.1 124 17, S2))) else (if nI n = 0 then some (S2.1 124 15, S2) else if nI n = 1 then some (S2.1 124 16, S2) else some (S2.1 124 17, S2))) := by
      unfold f_X8_fault
      rw [hin, bnd_s, if_neg (by decide), ck8 m1, d1, bnd2_s, ck8 m2, ck8 m2, ck8 m2, ck8 m2, ck8 m2]
    by_cases c0 : E.2.1 = 0
    · refine ⟨-10000004, S1, S2, ?_, ?_, hI2⟩
      · show f_X7_fault S 4 (nI n) = _
        rw [h7, if_pos (by rw [x5, c0]; rfl)]
      · show f_X8_fault S1 124 (nI n) = _
        rw [h8, if_pos (by rw [y16, c0]; rfl)]
    · obtain ⟨y15, y17⟩ := yy c0
      have n5 : ¬ S1.1 26 5 = 0 := by rw [x5, L0, q_eq (by omega) (by omega)]; exact c0
      have n16 : ¬ S2.1 124 16 = 0 := by rw [y16, L0, q_eq (by omega) (by omega)]; exact c0
      by_cases c2 : n = 2
      · have h2 : nI n = 2 := by rw [c2]; rfl
        by_cases c3 : E.2.1 = 3
        · rw [if_pos c3] at y17
          refine ⟨-10000004, S1, S2, ?_, ?_, hI2⟩
          · show f_X7_fault S 4 (nI n) = _
            rw [h7, if_neg n5, if_pos h2, if_pos (by rw [x5, c3]; rfl)]
          · show f_X8_fault S1 124 (nI n) = _
            rw [h8, if_neg n16, if_pos h2, if_pos y17]
        · rw [if_neg c3] at y17
          have x6' := x6 (by omega)
          have cc : ¬ nI E.2.2.1 = (-1000000 : Int32) := no_m (by omega)
          refine ⟨nI E.2.2.1, S1, S2, ?_, ?_, hI2⟩
          · show f_X7_fault S 4 (nI n) = _
            rw [h7, if_neg n5, if_pos h2, if_neg (by rw [x5, L3, q_eq (by omega) (by omega)]; exact c3), J52, if_neg (by omega), if_neg (by omega), x6']
          · show f_X8_fault S1 124 (nI n) = _
            rw [h8, if_neg n16, if_pos h2, if_neg (by rw [y17]; exact cc), if_neg (by rw [h2]; decide), if_neg (by rw [h2]; decide), y17]
      · have h2 : ¬ nI n = 2 := fun z => c2 ((hz 2 (by omega)).1 z)
        by_cases cn0 : n = 0
        · refine ⟨nI E.1, S1, S2, ?_, ?_, hI2⟩
          · show f_X7_fault S 4 (nI n) = _
            rw [h7, if_neg n5, if_neg h2, J52, if_pos cn0, x4]
          · show f_X8_fault S1 124 (nI n) = _
            rw [h8, if_neg n16, if_neg h2, if_pos (show nI n = 0 by rw [cn0]; rfl), y15]
        · have cn1 : n = 1 := by omega
          refine ⟨nI E.2.1, S1, S2, ?_, ?_, hI2⟩
          · show f_X7_fault S 4 (nI n) = _
            rw [h7, if_neg n5, if_neg h2, J52, if_neg cn0, if_pos cn1, x5]
          · show f_X8_fault S1 124 (nI n) = _
            rw [h8, if_neg n16, if_neg h2, if_neg (show ¬ nI n = 0 from fun z => cn0 ((hz 0 (by omega)).1 z)), if_pos (show nI n = 1 by rw [cn1]; rfl), y16]
  · refine Op.no h (-10000001) ?_ ?_
    · show f_X7_fault S 4 a = _
      unfold f_X7_fault
      rw [e_within, if_neg ha, bnd_s, if_pos rfl]
    · show f_X8_fault S 124 a = _
      unfold f_X8_fault
      have hin : f_X8_in a 0 2 = some 0 := e_in_f ha
      rw [hin, bnd_s, if_pos rfl]
