/-! MOTIONS: the model tries them -/
def PT : Nat → Nat → Prop := fun x j => x = 127 ∨ (x = 124 ∧ 7 ≤ j ∧ j ≤ 11)
theorem MSh.e3 {S : St} (hm : MSh S) : S.2.1 124 3 = 127 := hm.2.2.2.1
theorem mup {S : St} (hm : MSh S) {j : Nat} {v : Int32} : MSh (upI S 124 j v) := hm.ex (Ex.rf.upa (a := 124))
/-- a motion that fits is kept -/
theorem e_tryKeep {S : St} (hm : MSh S) {s : R5} (h : H5 S 124 7 s) (hl : s.1 < 100000) (P V : Int32) (a2 : Int32) (kx : St → Option St) (kk : St → Int32 → Option St) : ∃ S', (chk (okc S 8 124) (if (S.1 124 7) = 0 then (f_X8_tries_J97 S 124 a2 P kx kk V P 124) else (chk (okc S 8 124) (f_X8_tries_J97 S 124 a2 P kx kk V (S.1 124 8) 124)))) = kk S' (V + 10) ∧ Ex (fun x j => x = 124 ∧ 7 ≤ j ∧ j ≤ 11) S S' ∧ H5 S' 124 7 (kp true P V s) := by
  obtain ⟨h0, h1⟩ := h
  have ek : kp true P V s = (s.1 + 1, if s.1 = 0 then P else s.2.1, if s.1 = 0 then V else s.2.2.1, P, V) := rfl
  rw [ck8 hm, h0, ek]
  have J2 : ∀ S1 : St, MSh S1 → ∀ v9 : Int32, Ex (fun x j => x = 124 ∧ 7 ≤ j ∧ j ≤ 11) S S1 → S1.1 124 7 = nI s.1 → S1.1 124 8 = (if s.1 = 0 then P else s.2.1) → v9 = (if s.1 = 0 then V else s.2.2.1) → ∃ S', f_X8_tries_J117 S1 124 a2 P kx kk V v9 124 = kk S' (V + 10) ∧ Ex (fun x j => x = 124 ∧ 7 ≤ j ∧ j ≤ 11) S S' ∧ H5 S' 124 7 (s.1 + 1, if s.1 = 0 then P else s.2.1, if s.1 = 0 then V else s.2.2.1, P, V) := by
    intro S1 m1 v9 x1 g7 g8 e9
    unfold f_X8_tries_J117
    rw [ck8 m1, vlt_s, ck8 (mup m1), vlt_s, ck8 (mup (mup m1)), vlt_s, ck8 (mup (mup (mup m1))), ck8 (mup (mup (mup m1))), vlt_s]
    refine ⟨_, rfl, (((x1.upp ⟨rfl, by omega, by omega⟩).upp ⟨rfl, by omega, by omega⟩).upp ⟨rfl, by omega, by omega⟩).upp ⟨rfl, by omega, by omega⟩, ?_, fun _ => ⟨?_, ?_, ?_, ?_⟩⟩
    · rw [upI_at, if_pos ⟨rfl, rfl⟩, upI_at, if_neg (by omega), upI_at, if_neg (by omega), upI_at, if_neg (by omega), g7, L1, q_add]
    · rw [upI_at, if_neg (by omega), upI_at, if_neg (by omega), upI_at, if_neg (by omega), upI_at, if_neg (by omega)]
      exact g8
    · rw [upI_at, if_neg (by omega), upI_at, if_neg (by omega), upI_at, if_neg (by omega), upI_at, if_pos ⟨rfl, rfl⟩]
      exact e9
    · rw [upI_at, if_neg (by omega), upI_at, if_neg (by omega), upI_at, if_pos ⟨rfl, rfl⟩]
    · rw [upI_at, if_neg (by omega), upI_at, if_pos ⟨rfl, rfl⟩]
  have J1 : ∀ v8 : Int32, v8 = (if s.1 = 0 then P else s.2.1) → ∃ S', f_X8_tries_J97 S 124 a2 P kx kk V v8 124 = kk S' (V + 10) ∧ Ex (fun x j => x = 124 ∧ 7 ≤ j ∧ j ≤ 11) S S' ∧ H5 S' 124 7 (s.1 + 1, if s.1 = 0 then P else s.2.1, if s.1 = 0 then V else s.2.2.1, P, V) := by
    intro v8 e8
    unfold f_X8_tries_J97
    rw [ck8 hm, vlt_s, ck8 (mup hm)]
    have x1 : Ex (fun x j => x = 124 ∧ 7 ≤ j ∧ j ≤ 11) S (upI S 124 8 v8) := Ex.rf.upp ⟨rfl, by omega, by omega⟩
    have g7 : (upI S 124 8 v8).1 124 7 = nI s.1 := by rw [upI_at, if_neg (by omega)]; exact h0
    have g8 : (upI S 124 8 v8).1 124 8 = (if s.1 = 0 then P else s.2.1) := by rw [upI_at, if_pos ⟨rfl, rfl⟩]; exact e8
    by_cases c : s.1 = 0
    · rw [if_pos (by rw [g7, c]; rfl)]
      exact J2 _ (mup hm) V x1 g7 g8 (if_pos c).symm
    · rw [if_neg (by rw [g7, L0, q_eq (by omega) (by omega)]; exact c), ck8 (mup hm)]
      refine J2 _ (mup hm) _ x1 g7 g8 ?_
      rw [upI_at, if_neg (by omega), if_neg c]
      exact (h1 c).2.1
  by_cases c : s.1 = 0
  · rw [if_pos (by rw [c]; rfl)]
    exact J1 P (if_pos c).symm
  · rw [if_neg (by rw [L0, q_eq (by omega) (by omega)]; exact c), ck8 hm]
    refine J1 _ ?_
    rw [if_neg c]
    exact (h1 c).1
theorem e_tries {S : St} (hm : MSh S) {tc fc R C q : Nat} (hR : S.1 125 0 = nI R) (hR10 : R ≤ 10) (hC : S.1 125 1 = nI C) (hC16 : C ≤ 16) (htc : S.1 125 8 = nI tc) (h4 : tc ≤ 4) (hfc : S.1 125 36 = nI fc) (h5 : fc ≤ 5) (hb : ∀ f, f < fc → ∃ fb, fb < 1024 ∧ fv1 (S.1 125) f 1 = nI fb) (hq : q < tc) : ∃ S', f_X8_tries S 124 (nI q) = some S' ∧ Ex PT S S' ∧ H5 S' 124 7 (rsO (fun i k => afit (S.1 125) (wmot (S.1 125) q (zP i) (zV k)) tc fc R C) 35) := by
  unfold f_X8_tries
  obtain ⟨S1, c1, c2, c3⟩ := e_copyTried hm
  have m1 := hm.ex c2
  rw [ck8 hm, ck8 hm, hm.2.1, hm.e3, c1, bnd_s, ck8 m1, vlt_s, L9, L6, q_mul, q_add]
  generalize hS2 : upI S1 124 7 0 = S2
  have x2 : Ex PT S1 S2 := by
    rw [← hS2]
    exact Ex.up (Or.inr ⟨rfl, by omega, by omega⟩)
  have e7 : S2.1 124 7 = 0 := by rw [← hS2, upI_at, if_pos ⟨rfl, rfl⟩]
  have x02 : Ex PT S S2 := (c2.wk (fun x j q => Or.inl q)).tr x2
  have v2 : ∀ j, j < 867 → S2.1 127 j = S.1 125 j := fun j hj => by rw [← hS2, upI_at, if_neg (by omega)]; exact c3 j hj
  generalize hg : (fun i k => afit (S.1 125) (wmot (S.1 125) q (zP i) (zV k)) tc fc R C) = g
  have hgv : ∀ i k, g i k = afit (S.1 125) (wmot (S.1 125) q (zP i) (zV k)) tc fc R C := fun i k => by rw [← hg]
  obtain ⟨S', ⟨p1, p2, p3⟩, gg⟩ := wl2_seq (F := f_X8_tries_B30 124 (nI (9 + 6 * q)) (fun (S_12 : St) => (some S_12))) (kx := (fun (S_12 : St) => (some S_12))) (n := 35) (fun i => iI (zP i)) (fun i S' => Ex PT S S' ∧ (∀ j, j < 867 → j ≠ 9 + 6 * q + 2 → j ≠ 9 + 6 * q + 3 → S'.1 127 j = S.1 125 j) ∧ H5 S' 124 7 (rsO g i)) (fun i Sa kk hi hP => by
    obtain ⟨p1, p2, p3⟩ := hP
    unfold f_X8_tries_B30
    have hlo := rsO_le g i
    rw [if_neg (by
      have hzP : -1000 ≤ zP i ∧ zP i ≤ 2400 := by unfold zP; omega
      rw [show (2401 : Int32) = iI 2401 from rfl, iI_le (by omega) (by omega) (by omega) (by omega)]; omega)]
    obtain ⟨Sb, ⟨q1, q2, q3⟩, g2⟩ := wl2_seq (F := f_X8_tries_B41 124 (nI (9 + 6 * q)) (iI (zP i)) (fun (S_11 : St) => (kk S_11 (iI (zP i) + 100)))) (kx := (fun (S_11 : St) => (kk S_11 (iI (zP i) + 100)))) (n := 21) (fun k => iI (zV k)) (fun k S' => Ex PT S S' ∧ (∀ j, j < 867 → j ≠ 9 + 6 * q + 2 → j ≠ 9 + 6 * q + 3 → S'.1 127 j = S.1 125 j) ∧ H5 S' 124 7 (rsI g i (rsO g i) k)) (fun k Sc k2 hk hQ => by
      obtain ⟨q1, q2, q3⟩ := hQ
      unfold f_X8_tries_B41
      have mc := hm.ex q1
      have hli := rsI_le g i (rsO g i) k
      have ecl2 : (nI (9 + 6 * q + 2)).toNatClampNeg = 9 + 6 * q + 2 := q_cl (by omega)
      have ecl3 : (nI (9 + 6 * q + 3)).toNatClampNeg = 9 + 6 * q + 3 := q_cl (by omega)
      rw [if_neg (by
        have hzV : -100 ≤ zV k ∧ zV k ≤ 100 := by unfold zV; omega
        rw [show (101 : Int32) = iI 101 from rfl, iI_le (by omega) (by omega) (by omega) (by omega)]; omega)]
      simp only [L2, L3, q_add, ecl2, ecl3]
      rw [ck8 mc, mc.e3, cwW mc.1 (Or.inr rfl) (by omega), vlt_s]
      generalize hSd : upI Sc 127 (9 + 6 * q + 2) (iI (zP i)) = Sd
      have xd : Ex PT Sc Sd := by
        rw [← hSd]
        exact Ex.up (Or.inl rfl)
      have md := mc.ex xd
      rw [ck8 md, md.e3, cwW md.1 (Or.inr rfl) (by omega), vlt_s]
      generalize hSe : upI Sd 127 (9 + 6 * q + 3) (iI (zV k)) = Se
      have xe : Ex PT Sd Se := by
        rw [← hSe]
        exact Ex.up (Or.inl rfl)
      have me := md.ex xe
      have hev : ∀ j, j < 867 → Se.1 127 j = wmot (S.1 125) q (zP i) (zV k) j := fun j hj => by
        rw [← hSe, upI_at, ← hSd, upI_at]
        unfold wmot
        by_cases z3 : j = 9 + 6 * q + 3
        · rw [if_pos ⟨rfl, z3⟩, if_neg (by omega), if_pos z3]
        · rw [if_neg (fun q => z3 q.2)]
          by_cases z2 : j = 9 + 6 * q + 2
          · rw [if_pos ⟨rfl, z2⟩, if_pos z2]
          · rw [if_neg (fun q => z2 q.2), if_neg z2, if_neg z3]
            exact q2 j hj z2 z3
      have xSe : Ex PT S Se := (q1.tr xd).tr xe
      have e125 : Se.1 125 = S.1 125 := by
        funext j
        exact xSe.2 125 j (by unfold PT; omega)
      have h5e : H5 Se 124 7 (rsI g i (rsO g i) k) := q3.cong (fun d hd => by
        rw [← hSe, upI_at, if_neg (by omega), ← hSd, upI_at, if_neg (by omega)])
      have hve : ∀ j, j < 867 → j ≠ 9 + 6 * q + 2 → j ≠ 9 + 6 * q + 3 → Se.1 127 j = S.1 125 j := fun j hj z2 z3 => by
        rw [hev j hj, wmot_o _ q _ _ z2 z3]
      have haf := e_allFit me (a := 127) (tc := tc) (fc := fc) (R := R) (C := C) (Or.inr rfl) (by rw [e125]; exact hR) hR10 (by rw [e125]; exact hC) hC16 (by rw [hev 8 (by omega), wmot_o _ q _ _ (by omega) (by omega)]; exact htc) h4 (by rw [e125]; exact hfc) h5 (by rw [e125]; exact hb)
      have eaf : afit (Se.1 125) (Se.1 127) tc fc R C = g i k := by
        rw [e125, hgv]
        unfold afit
        refine allR_ext (fun f _ => allR_ext (fun r _ => ?_))
        rw [fit1_ext (fun j hj => hev j (by omega)) h4]
      rw [eaf] at haf
      rw [ck8 me, ck8 me, me.e3, haf, bnd_s, rsI_s]
      by_cases c : g i k = true
      · obtain ⟨Sf, t1, t2, t3⟩ := e_tryKeep me h5e (by omega) (iI (zP i)) (iI (zV k)) (nI (9 + 6 * q)) (fun (S_11 : St) => (kk S_11 (iI (zP i) + 100))) k2
        rw [if_pos c, if_neg (by decide), t1, zV_s, c]
        refine ⟨Sf, ⟨xSe.tr (t2.wk (fun x j q => Or.inr q)), fun j hj z2 z3 => ?_, t3⟩, rfl⟩
        rw [t2.2 127 j (by omega)]
        exact hve j hj z2 z3
      · have c' : g i k = false := by simpa using c
        rw [if_neg c, if_pos rfl, zV_s, c']
        exact ⟨Se, ⟨xSe, hve, h5e⟩, rfl⟩) (fun Sc k2 hQ => by
      unfold f_X8_tries_B41
      have e21 : (101 : Int32) ≤ iI (zV 21) := by decide +kernel
      rw [if_pos e21]) 21 0 FU Sa rfl (by decide) ⟨p1, p2, p3⟩
    have e0 : iI (zV 0) = (-100 : Int32) := by decide +kernel
    rw [e0] at g2
    refine ⟨Sb, ⟨q1, q2, q3⟩, ?_⟩
    rw [g2, zP_s]) (fun Sa kk hP => by
    unfold f_X8_tries_B30
    have e35 : (2401 : Int32) ≤ iI (zP 35) := by decide +kernel
    rw [if_pos e35]) 35 0 FU S2 rfl (by decide) ⟨x02, fun j hj _ _ => v2 j hj, e7, fun h => absurd rfl h⟩
  have e0 : iI (zP 0) = (-1000 : Int32) := by decide +kernel
  rw [e0] at gg
  exact ⟨S', gg, p1, p3⟩
theorem op_motions {N : Nat} {S : St} (h : INV N S) (a b : Int32) : Op N S (fun S => f_X7_motions S 4 a b) (fun S => f_X8_motions S 124 a b) := by
  have h0 := h
  obtain ⟨st, len, i1, i2, i3, i4, i5, i6, i7⟩ := h
  have hs := i1.1
  obtain ⟨tc, fc, bl, R, C, hn⟩ := i1.2.2.1
  obtain ⟨tm, hok⟩ := i5.of hn.2.1 hn.1.2.1 hn.2.2.2.2.2.2.2.1.2.1 hn.2.2.2.2.2.2.2.1.2.2
  obtain ⟨f4, w36, f5⟩ := hn.2.2.2.2.2.2.2.1
  have hR := hn.2.2.1
  have hC := hn.2.2.2.1
  have t4 := hn.1.2.1
  have e0 : ∀ S1 : St, CSh S1 → S1.2.1 4 0 = 5 := fun S1 q => q.2.1.1
  have e5 : ∀ S1 : St, CSh S1 → S1.2.1 4 5 = 35 := fun S1 q => q.2.1.2.2.2.2.1
  by_cases ha : 0 ≤ a ∧ a ≤ nI tc - 1
  · obtain ⟨q, rfl, hq⟩ := idx_ex (by omega) ha
    by_cases hb : 0 ≤ b ∧ b ≤ 4
    · obtain ⟨wd, hwd, hw1⟩ : ∃ wd, S.1 125 (9 + 6 * q + 4) = nI wd ∧ wd ≤ 1600 := by
        obtain ⟨a, b, wd, br, P, V, h1, h2, h3, h4, h5, h6⟩ := hok.2.2.2.2.1 q hq
        exact ⟨wd, h5.1, h5.2.2⟩
      obtain ⟨S1, k1, k2, k3⟩ := e_run hs hn hok hq hwd hw1
      have s1 := hs.ex k2
      have hsc : Ch SC S S1 := k2.sc (fun x j q => by unfold PR at q; unfold SC; omega)
      have e125 : S1.1 125 = S.1 125 := (hsc.2 125 (by unfold SC; omega)).1
      have hI := h0.scr hsc k2.r
      have m1 : MSh S1 := i2.ch hsc (by unfold SC; omega)
      obtain ⟨S2, l1, l2, l3⟩ := e_tries m1 (tc := tc) (fc := fc) (R := R) (C := C) (q := q) (by rw [e125]; exact hR.1) hR.2.2 (by rw [e125]; exact hC.1) hC.2.2 (by rw [e125]; exact hn.2.1) t4 (by rw [e125]; exact w36) f5 (by rw [e125]; exact INV.frb hn) hq
      rw [e125] at l3
      have m2 := m1.ex l2
      have hle := rsO_le (fun i k => afit (S.1 125) (wmot (S.1 125) q (zP i) (zV k)) tc fc R C) 35
      generalize rsO (fun i k => afit (S.1 125) (wmot (S.1 125) q (zP i) (zV k)) tc fc R C) 35 = s at k3 l3 hle
      have hI2 : INV (N + 1) S2 := (hI.msc (l2.wk (fun x j q => by unfold PT at q; unfold PM; omega))).mono (by omega)
      obtain ⟨n, rfl, -, hn2⟩ := q_ex (lo := 0) (hi := 4) hb.1 hb.2 (by decide) (by decide)
      have hz : ∀ c : Nat, c < 5 → (nI n = nI c ↔ n = c) := fun c hc => q_eq (by omega) (by omega)
      have hin : f_X8_in (nI n) 0 4 = some 1 := e_in_t hb
      have h7 : ∀ v, (if n = 0 then some (nI s.1, S1) else if s.1 = 0 then some (-10000004, S1) else some ((if n = 1 then s.2.1 else if n = 2 then s.2.2.1 else if n = 3 then s.2.2.2.1 else s.2.2.2.2), S1)) = some (v, S1) → f_X7_motions S 4 (nI q) (nI n) = some (v, S1) := by
        intro v hv
        rw [← hv]
        unfold f_X7_motions f_X1_isVain
        rw [ck7 hs, e0 S hs, ck5 hs, c_thingAt_t hs sc5 hn.1.2.2.1 t4 hq, bnd_s, if_neg (by omega), e_within, if_pos hb, bnd_s, if_neg (by decide), ck7 hs, ck7 hs, e5 S hs, ck35 hs, k1, bnd_s]
        have J : f_X7_motions_J54 S1 4 (nI n) = (if n = 0 then some (S1.1 35 6, S1) else if n = 1 then some (S1.1 35 7, S1) else if n = 2 then some (S1.1 35 8, S1) else if n = 3 then some (S1.1 35 9, S1) else some (S1.1 35 10, S1)) := by
          unfold f_X7_motions_J54 f_X1_answer
          rw [ck7 s1, e5 S1 s1, ck35 s1]
          by_cases c0 : n = 0
          · rw [if_pos (show nI n = 0 by rw [c0]; rfl), if_pos c0, ck35 s1, bnd_s]
          · rw [if_neg (show ¬ nI n = 0 from fun z => c0 ((hz 0 (by omega)).1 z)), if_neg c0]
            by_cases c1 : n = 1
            · rw [if_pos (show nI n = 1 by rw [c1]; rfl), if_pos c1, ck35 s1, bnd_s]
            · rw [if_neg (show ¬ nI n = 1 from fun z => c1 ((hz 1 (by omega)).1 z)), if_neg c1]
              by_cases c2 : n = 2
              · rw [if_pos (show nI n = 2 by rw [c2]; rfl), if_pos c2, ck35 s1, bnd_s]
              · rw [if_neg (show ¬ nI n = 2 from fun z => c2 ((hz 2 (by omega)).1 z)), if_neg c2]
                by_cases c3 : n = 3
                · rw [if_pos (show nI n = 3 by rw [c3]; rfl), if_pos c3, ck35 s1, bnd_s]
                · rw [if_neg (show ¬ nI n = 3 from fun z => c3 ((hz 3 (by omega)).1 z)), if_neg c3, ck35 s1, bnd_s]
        rw [J]
        by_cases c0 : n = 0
        · rw [if_pos (by rw [c0]; decide), if_pos c0, if_pos c0, k3.1]
        · rw [if_neg (by rw [L0, q_le (by omega) (by omega)]; omega), ck7 s1, e5 S1 s1, ck35 s1, ck35 s1, k3.1, if_neg c0, if_neg c0]
          by_cases cs : s.1 = 0
          · rw [if_pos (show nI s.1 = 0 by rw [cs]; rfl), bnd_s, if_neg (by decide), if_pos cs]
          · obtain ⟨g1, g2, g3, g4⟩ := k3.2 cs
            rw [if_neg (show ¬ nI s.1 = 0 by rw [L0, q_eq (by omega) (by omega)]; exact cs), bnd_s, if_pos rfl, if_neg cs]
            rw [show S1.1 35 7 = s.2.1 from g1, show S1.1 35 8 = s.2.2.1 from g2, show S1.1 35 9 = s.2.2.2.1 from g3, show S1.1 35 10 = s.2.2.2.2 from g4]
            by_cases c1 : n = 1
            · rw [if_pos c1, if_pos c1]
            · rw [if_neg c1, if_neg c1]
              by_cases c2 : n = 2
              · rw [if_pos c2, if_pos c2]
              · rw [if_neg c2, if_neg c2]
                by_cases c3 : n = 3
                · rw [if_pos c3, if_pos c3]
                · rw [if_neg c3, if_neg c3]
      have h8 : ∀ v, (if n = 0 then some (nI s.1, S2) else if s.1 = 0 then some (-10000004, S2) else some ((if n = 1 then s.2.1 else if n = 2 then s.2.2.1 else if n = 3 then s.2.2.2.1 else s.2.2.2.2), S2)) = some (v, S2) → f_X8_motions S1 124 (nI q) (nI n) = some (v, S2) := by
        intro v hv
        rw [← hv]
        unfold f_X8_motions
        rw [ck8 m1, e_isThing m1, e125, hn.2.1, if_pos ha, bnd_s, if_neg (by decide), hin, bnd_s, if_neg (by decide), ck8 m1, l1, bnd_s]
        have J : f_X8_motions_J39 S2 124 (nI n) = (if n = 0 then some (S2.1 124 7, S2) else if n = 1 then some (S2.1 124 8, S2) else if n = 2 then some (S2.1 124 9, S2) else if n = 3 then some (S2.1 124 10, S2) else some (S2.1 124 11, S2)) := by
          unfold f_X8_motions_J39
          by_cases c0 : n = 0
          · rw [if_pos (show nI n = 0 by rw [c0]; rfl), if_pos c0, ck8 m2]
          · rw [if_neg (show ¬ nI n = 0 from fun z => c0 ((hz 0 (by omega)).1 z)), if_neg c0]
            by_cases c1 : n = 1
            · rw [if_pos (show nI n = 1 by rw [c1]; rfl), if_pos c1, ck8 m2]
            · rw [if_neg (show ¬ nI n = 1 from fun z => c1 ((hz 1 (by omega)).1 z)), if_neg c1]
              by_cases c2 : n = 2
              · rw [if_pos (show nI n = 2 by rw [c2]; rfl), if_pos c2, ck8 m2]
              · rw [if_neg (show ¬ nI n = 2 from fun z => c2 ((hz 2 (by omega)).1 z)), if_neg c2]
                by_cases c3 : n = 3
                · rw [if_pos (show nI n = 3 by rw [c3]; rfl), if_pos c3, ck8 m2]
                · rw [if_neg (show ¬ nI n = 3 from fun z => c3 ((hz 3 (by omega)).1 z)), if_neg c3, ck8 m2]
        rw [J]
        by_cases c0 : n = 0
        · rw [if_pos (by rw [c0]; decide), if_pos c0, if_pos c0, l3.1]
        · rw [if_neg (by rw [L0, q_le (by omega) (by omega)]; omega), ck8 m2, l3.1, if_neg c0, if_neg c0]
          by_cases cs : s.1 = 0
          · rw [if_pos (show nI s.1 = 0 by rw [cs]; rfl), if_pos cs]
          · obtain ⟨g1, g2, g3, g4⟩ := l3.2 cs
            rw [if_neg (show ¬ nI s.1 = 0 by rw [L0, q_eq (by omega) (by omega)]; exact cs), if_neg cs]
            rw [show S2.1 124 8 = s.2.1 from g1, show S2.1 124 9 = s.2.2.1 from g2, show S2.1 124 10 = s.2.2.2.1 from g3, show S2.1 124 11 = s.2.2.2.2 from g4]
            by_cases c1 : n = 1
            · rw [if_pos c1, if_pos c1]
            · rw [if_neg c1, if_neg c1]
              by_cases c2 : n = 2
              · rw [if_pos c2, if_pos c2]
              · rw [if_neg c2, if_neg c2]
                by_cases c3 : n = 3
                · rw [if_pos c3, if_pos c3]
                · rw [if_neg c3, if_neg c3]
      by_cases c0 : n = 0
      · exact ⟨nI s.1, S1, S2, h7 _ (if_pos c0), h8 _ (if_pos c0), hI2⟩
      · by_cases cs : s.1 = 0
        · exact ⟨-10000004, S1, S2, h7 _ (by rw [if_neg c0, if_pos cs]), h8 _ (by rw [if_neg c0, if_pos cs]), hI2⟩
        · exact ⟨_, S1, S2, h7 _ (by rw [if_neg c0, if_neg cs]), h8 _ (by rw [if_neg c0, if_neg cs]), hI2⟩
    · refine Op.no h0 (-10000001) ?_ ?_
      · show f_X7_motions S 4 (nI q) b = _
        unfold f_X7_motions
        rw [ck7 hs, e0 S hs, ck5 hs, c_thingAt_t hs sc5 hn.1.2.2.1 t4 hq, bnd_s, if_neg (by omega), e_within, if_neg hb, bnd_s, if_pos rfl]
      · show f_X8_motions S 124 (nI q) b = _
        unfold f_X8_motions
        have hin : f_X8_in b 0 4 = some 0 := e_in_f hb
        rw [ck8 i2, e_isThing i2, hn.2.1, if_pos ha, bnd_s, if_neg (by decide), hin, bnd_s, if_pos rfl]
  · refine Op.no h0 (-10000001) ?_ ?_
    · show f_X7_motions S 4 a b = _
      unfold f_X7_motions
      rw [ck7 hs, e0 S hs, ck5 hs, c_thingAt_f hs sc5 hn.1.2.2.1 a ha t4, bnd_s, if_pos rfl]
    · show f_X8_motions S 124 a b = _
      unfold f_X8_motions
      rw [ck8 i2, e_isThing i2, hn.2.1, if_neg ha, bnd_s, if_pos rfl]
