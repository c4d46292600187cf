theorem l_periodsC {N : Nat} {S : St} (hs : CSh S) {tc fc bl R C tm : Nat} {w : Wf} (hn : RN S 5 w tc fc bl R C) (hok : OKn N w tc fc tm) (kx : St → Int32 → Option (Int32 × St)) : ∃ S', wl3 (f_X7_periods_B5 4 kx) FU S 2097151 0 = kx S' (nI (mk (fun p => allR (fun f => allR (rokp w tc C f p) R) fc) 21)) ∧ Ex (fun x _ => x = 43) S S' := by
  have f4 := hn.2.2.2.2.2.2.2.1.1
  have f5 := hn.2.2.2.2.2.2.2.1.2.2
  have e0 : ∀ S1 : St, CSh S1 → S1.2.1 4 0 = 5 := fun S1 q => q.2.1.1
  obtain ⟨S1, x, ⟨p1, rfl⟩, q⟩ := wl3_inv (F := f_X7_periods_B5 4 kx) (kx := kx) (n := fc) (fun i S' m => Ex (fun x _ => x = 43) S S' ∧ m = nI (mk (fun p => allR (fun f => allR (rokp w tc C f p) R) i) 21)) (fun i S1 m kk hi hP => by
    obtain ⟨p1, rfl⟩ := hP
    unfold f_X7_periods_B5
    have s1 := hs.ex p1
    have hn1 : RN S1 5 w tc fc bl R C := hn.ch hs sc5 (p1.ch (A := fun x => x = 43) (fun x j q => q)) (fun d hd => by omega)
    have f4' : S1.1 5 4 = nI fc := hn1.2.2.2.2.2.2.2.1.1
    have hg := ((s1.sc sc5).2.2.2.1 i (by omega)).rg
    obtain ⟨S2, k1, k2⟩ := l_perFit s1 hn1 hok hi (fun (S_11 : St) (y2_10 : Int32) => (some (y2_10, S_11)))
    have k1' : f_X7_periodsFitting S1 4 (S1.2.1 (5 + 3) i) = some (nI (mk (fun p => allR (rokp w tc C i p) R) 21), S2) := k1
    rw [ck7 s1, e0 S1 s1, ck5 s1, f4', if_neg (by rw [q_le (by omega) (by omega)]; omega), ck7 s1, ck5 s1, c_frameAt_t s1 sc5 f4' f5 hi, bnd_s, if_neg (by omega), ck7 s1, k1', bnd2_s, q_and, q_mk2, L1, q_add]
    exact ⟨S2, _, ⟨p1.tr k2, rfl⟩, rfl⟩) (fun S1 m kk hP => by
    obtain ⟨p1, rfl⟩ := hP
    unfold f_X7_periods_B5
    have s1 := hs.ex p1
    have hn1 : RN S1 5 w tc fc bl R C := hn.ch hs sc5 (p1.ch (A := fun x => x = 43) (fun x j q => q)) (fun d hd => by omega)
    have f4' : S1.1 5 4 = nI fc := hn1.2.2.2.2.2.2.2.1.1
    rw [ck7 s1, e0 S1 s1, ck5 s1, f4', if_pos (Int32.le_refl _)]) fc 0 FU S 2097151 (by omega) (by show fc < 1000000; omega) ⟨Ex.rf, by
      show (2097151 : Int32) = nI (mk (fun _ => true) 21)
      decide +kernel⟩
  exact ⟨S1, q, p1⟩
theorem fit1_ext {w v v' : Wf} (h : ∀ j, j < 33 → v j = v' j) {tc : Nat} (h4 : tc ≤ 4) (C f r : Nat) (t : Int32) : fit1 w v tc C f r t = fit1 w v' tc C f r t := by
  unfold fit1
  congr 1
  funext c
  rw [sh_ext h h4]
/-- whether all rows of all frames fit another row of numbers -/
def afit (w v : Wf) (tc fc R C : Nat) : Bool := allR (fun f => allR (fun r => (fbo w f).testBit r || fit1 w v tc C f r (fv1 w f 0 + nI r * w 2)) R) fc
theorem e_allFit {S : St} (hm : MSh S) {a tc fc R C : Nat} (ha : isW a) (hR : S.1 125 0 = nI R) (hR10 : R ≤ 10) (hC : S.1 125 1 = nI C) (hC16 : C ≤ 16) (htc : S.1 a 8 = nI tc) (h4 : tc ≤ 4) (hfc : S.1 125 36 = nI fc) (h5 : fc ≤ 5) (hb : ∀ f, f < fc → ∃ fb, fb < 1024 ∧ fv1 (S.1 125) f 1 = nI fb) : f_X8_allFit S 124 a = some (if afit (S.1 125) (S.1 a) tc fc R C = true then 1 else 0) := by
  unfold f_X8_allFit
  have k0 : ∀ {β : Type} (o : Option β), chk (ina S 10 125 0) o = o := fun o => ckl hm.1 (Or.inl rfl) 0 L0 (by decide) o
  have k36 : ∀ {β : Type} (o : Option β), chk (ina S 10 125 36) o = o := fun o => ckl hm.1 (Or.inl rfl) 36 L36 (by decide) o
  refine (wl1_all (P := fun f => allF (fun r => (fbo (S.1 125) f).testBit r || fit1 (S.1 125) (S.1 a) tc C f r (fv1 (S.1 125) f 0 + nI r * S.1 125 2)) 0 R) (n := fc) (rt := some 1) (rf := some 0) (fun f k hf => ?_) (fun k => ?_) fc 0 FU (by omega) (by show fc < 1000000; omega)).trans ?_
  · unfold f_X8_allFit_B2
    simp only [C36, hm.2.1]
    rw [ck8 hm, k36, hfc, if_neg (by rw [q_le (by omega) (by omega)]; omega), L1, q_add]
    obtain ⟨fb, b1, b2⟩ := hb f hf
    have hfbo := fbo_eq b2 b1
    refine wl1_all (P := fun r => (fbo (S.1 125) f).testBit r || fit1 (S.1 125) (S.1 a) tc C f r (fv1 (S.1 125) f 0 + nI r * S.1 125 2)) (n := R) (rt := k (nI (f + 1))) (rf := some 0) (fun r k2 hr => ?_) (fun k2 => ?_) R 0 FU (by omega) (by show R < 1000000; omega)
    · unfold f_X8_allFit_B15
      simp only [C0, hm.2.1]
      rw [ck8 hm, k0, hR, if_neg (by rw [q_le (by omega) (by omega)]; omega), ck8 hm, e_isSeen hm (by omega) (by omega) b2 b1, bnd_s, hfbo]
      by_cases c : fb.testBit r = true
      · rw [if_pos c, if_pos rfl, if_pos (by rw [c, Bool.true_or]), L1, q_add]
      · have c' : fb.testBit r = false := by simpa using c
        rw [if_neg c, if_neg (by decide), ck8 hm, e_rowFits hm ha (by omega) (by omega) hC hC16 htc h4, bnd_s]
        by_cases c2 : fit1 (S.1 125) (S.1 a) tc C f r (fv1 (S.1 125) f 0 + nI r * S.1 125 2) = true
        · rw [if_pos c2, if_neg (by decide), if_pos (by rw [c2, Bool.or_true]), L1, q_add]
        · rw [if_neg c2, if_pos rfl, if_neg (by rw [c', Bool.false_or]; exact c2)]
    · unfold f_X8_allFit_B15
      simp only [C0, hm.2.1]
      rw [ck8 hm, k0, hR, if_pos (Int32.le_refl _)]
  · unfold f_X8_allFit_B2
    simp only [C36, hm.2.1]
    rw [ck8 hm, k36, hfc, if_pos (Int32.le_refl _)]
  · have e : allF (fun f => allF (fun r => (fbo (S.1 125) f).testBit r || fit1 (S.1 125) (S.1 a) tc C f r (fv1 (S.1 125) f 0 + nI r * S.1 125 2)) 0 R) 0 fc = afit (S.1 125) (S.1 a) tc fc R C := by
      unfold afit
      rw [allFR]
      exact allR_ext (fun f _ => allFR _ _)
    rw [e]
    by_cases c : afit (S.1 125) (S.1 a) tc fc R C = true
    · rw [if_pos c, if_pos c]
    · rw [if_neg c, if_neg c]
theorem INV.frb {S : St} {tc fc bl R C : Nat} {w : Wf} {k : Nat} (hn : RN S k w tc fc bl R C) : ∀ f, f < fc → ∃ fb, fb < 1024 ∧ fv1 w f 1 = nI fb := fun f hf => by
  obtain ⟨y1, fb, y2, y3, y4, y5⟩ := hn.2.2.2.2.2.2.2.2.1 f hf
  refine ⟨fb, y2, ?_⟩
  unfold fv1
  rw [show 37 + 162 * f + 1 = 38 + 162 * f by omega]
  exact y3
/-- the model's copy of what is now -/
theorem e_copyTried {S : St} (hm : MSh S) : ∃ S', f_X8_copies S 125 0 127 0 = some S' ∧ Ex (fun x _ => x = 127) S S' ∧ ∀ j, j < 867 → S'.1 127 j = S.1 125 j := by
  obtain ⟨S', g1, g2, g3⟩ := e_copies hm.1 (o1 := 0) (o2 := 0) ar125 ar127 (by omega) (by omega) (by omega)
  refine ⟨S', g1, g2, fun j hj => ?_⟩
  rw [g3, if_pos (by omega), show 0 + (j - 0) = j by omega]
theorem l_periodsM {S : St} (hm : MSh S) {tc fc R C : Nat} {w : Wf} (hw : S.1 125 = w) (hv : ∀ j, j < 867 → S.1 127 j = w j) (hR : w 0 = nI R) (hR10 : R ≤ 10) (hC : w 1 = nI C) (hC16 : C ≤ 16) (htc : w 8 = nI tc) (h4 : tc ≤ 4) (hfc : w 36 = nI fc) (h5 : fc ≤ 5) (hb : ∀ f, f < fc → ∃ fb, fb < 1024 ∧ fv1 w f 1 = nI fb) (kx : St → Int32 → Option (Int32 × St)) : ∃ S', wl3 (f_X8_periods_B17 124 kx) FU S 0 0 = kx S' (nI (mk (fun p => afit w (wper w p) tc fc R C) 21)) ∧ Ex (fun x _ => x = 127) S S' := by
  obtain ⟨S', x, ⟨p1, p2, rfl⟩, q⟩ := wl3_inv (F := f_X8_periods_B17 124 kx) (kx := kx) (n := 21) (fun i S' m => Ex (fun x _ => x = 127) S S' ∧ (∀ j, j < 867 → j ≠ 5 → S'.1 127 j = w j) ∧ m = nI (mk (fun p => afit w (wper w p) tc fc R C) i)) (fun i S1 m kk hi hP => by
    obtain ⟨p1, p2, rfl⟩ := hP
    unfold f_X8_periods_B17
    have m1 := hm.ex p1
    have e3 : ∀ S1 : St, MSh S1 → S1.2.1 124 3 = 127 := fun S1 q => q.2.2.2.1
    simp only [e3 S1 m1, C5]
    rw [if_neg (by rw [L21, q_le (by omega) (by omega)]; omega), ck8 m1, cwl m1.1 (Or.inr rfl) 5 L5 (by decide), vlt_s]
    generalize hS2 : upI S1 127 5 (nI i) = S2
    have x2 : Ex (fun x _ => x = 127) S1 S2 := by
      rw [← hS2]
      exact Ex.rf.upa
    have m2 := m1.ex x2
    have e125 : S2.1 125 = w := by
      rw [← hw]
      funext j
      rw [x2.2 125 j (by omega), p1.2 125 j (by omega)]
    have e127 : ∀ j, j < 867 → S2.1 127 j = wper w i j := fun j hj => by
      rw [← hS2, upI_at]
      unfold wper
      by_cases c : j = 5
      · rw [if_pos ⟨rfl, c⟩, if_pos c]
      · rw [if_neg (fun q => c q.2), if_neg c]
        exact p2 j hj c
    have haf := e_allFit m2 (a := 127) (tc := tc) (fc := fc) (R := R) (C := C) (Or.inr rfl) (by rw [e125]; exact hR) hR10 (by rw [e125]; exact hC) hC16 (by rw [e127 8 (by omega), wper_o w i (by decide)]; exact htc) h4 (by rw [e125]; exact hfc) h5 (by rw [e125]; exact hb)
    have eaf : afit (S2.1 125) (S2.1 127) tc fc R C = afit w (wper w i) tc fc R C := by
      rw [e125]
      unfold afit
      refine allR_ext (fun f _ => allR_ext (fun r _ => ?_))
      rw [fit1_ext (fun j hj => e127 j (by omega)) h4]
    rw [eaf] at haf
    have fin : Ex (fun x _ => x = 127) S S2 ∧ ∀ j, j < 867 → j ≠ 5 → S2.1 127 j = w j := ⟨p1.tr x2, fun j hj hne => by
      rw [e127 j hj, wper_o w i hne]⟩
    rw [ck8 m2, ck8 m2, e3 S2 m2, haf, bnd_s]
    by_cases c : afit w (wper w i) tc fc R C = true
    · rw [if_pos c, if_neg (by decide), L1, q_add, q_shl 1 (by omega), q_or]
      refine ⟨S2, _, ⟨fin.1, fin.2, rfl⟩, ?_⟩
      rw [mk_succ, if_pos c]
    · rw [if_neg c, if_pos rfl, L0, q_or, Nat.or_zero, L1, q_add]
      refine ⟨S2, _, ⟨fin.1, fin.2, rfl⟩, ?_⟩
      rw [mk_succ, if_neg c, Nat.or_zero]) (fun S1 m kk hP => by
    unfold f_X8_periods_B17
    rw [if_pos (by rw [L21, q_le (by omega) (by omega)]; omega)]) 21 0 FU S 0 rfl (by decide) ⟨Ex.rf, fun j hj _ => hv j hj, rfl⟩
  exact ⟨S', q, p1⟩
theorem op_periods {N : Nat} {S : St} (h : INV N S) : Op N S (fun S => f_X7_periods S 4) (fun S => f_X8_periods S 124) := by
  have h0 := h
  obtain ⟨st, len, i1, i2, i3, i4, i5, i6, i7⟩ := h
  have hs := i1.1
  obtain ⟨tc, fc, bl, R, C, hn⟩ := i1.2.2.1
  obtain ⟨tm, hok⟩ := i5.of hn.2.1 hn.1.2.1 hn.2.2.2.2.2.2.2.1.2.1 hn.2.2.2.2.2.2.2.1.2.2
  obtain ⟨f4, w36, f5⟩ := hn.2.2.2.2.2.2.2.1
  have hR := hn.2.2.1
  have hC := hn.2.2.2.1
  obtain ⟨S1, k1, k2⟩ := l_periodsC hs hn hok (fun (S_5 : St) (y1_4 : Int32) => (some (y1_4, S_5)))
  have hsc : Ch SC S S1 := k2.sc (fun x j q => by unfold SC; omega)
  have e125 : S1.1 125 = S.1 125 := (hsc.2 125 (by unfold SC; omega)).1
  have hI := h0.scr hsc k2.r
  have m1 : MSh S1 := i2.ch hsc (by unfold SC; omega)
  obtain ⟨S2, c1, c2, c3⟩ := e_copyTried m1
  have m2 := m1.ex c2
  have e125' : S2.1 125 = S.1 125 := by
    rw [← e125]
    funext j
    exact c2.2 125 j (by omega)
  obtain ⟨S3, l1, l2⟩ := l_periodsM m2 (w := S.1 125) e125' (fun j hj => by rw [c3 j hj, e125]) hR.1 hR.2.2 hC.1 hC.2.2 hn.2.1 hn.1.2.1 w36 f5 (INV.frb hn) (fun (S_5 : St) (y1_4 : Int32) => (some (y1_4, S_5)))
  refine ⟨nI (mk (fun p => allR (fun f => allR (rokp (S.1 125) tc C f p) R) fc) 21), S1, S3, k1, ?_, ((hI.msc (c2.wk (fun x j q => Or.inl q))).msc (l2.wk (fun x j q => Or.inl q))).mono (by omega)⟩
  show f_X8_periods S1 124 = _
  unfold f_X8_periods
  have e0 : S1.2.1 124 0 = 125 := m1.2.1
  have e3 : S1.2.1 124 3 = 127 := m1.2.2.2.1
  rw [ck8 m1, ck8 m1, e0, e3, c1, bnd_s, l1]
  congr 3
  refine mk_ext (fun p _ => ?_)
  unfold afit
  refine allR_ext (fun f _ => allR_ext (fun r _ => ?_))
  unfold rokp
  rw [okp_fit hok]
