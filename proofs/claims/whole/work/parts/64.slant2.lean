/-! THE SLANT OF ONE FRAME -/
theorem vt_0 {a : Nat} (ha : Em a) : vt a 0 = none := by
  have h := e_bestShift ha (b := 0) ⟨by decide, by decide⟩
  have h2 : f_X7_bestShift (nI a) (nI 0) = some (-10000004) := by
    unfold f_X7_bestShift
    by_cases c : nI a = 0
    · rw [if_pos c]
    · rw [if_neg c, if_pos (show nI 0 = (0 : Int32) from rfl)]
  rw [h2] at h
  have h3 : encC (vt a 0) = (-10000004 : Int32) := (Option.some.inj h).symm
  have h4 := (encC_nn (fun j hj => vt_rng _ _ hj)).1 h3
  cases hv : vt a 0 with
  | none => rfl
  | some k => rw [hv] at h4; cases h4
/-- how row x votes with the next one -/
def VS (w : Wf) (C R f fb x : Nat) : Option Int := if x + 1 < R then vt (edf w C f x fb) (edf w C f (x + 1) fb) else none
theorem VS_rng {w : Wf} {C R f fb : Nat} : ∀ x k, VS w C R f fb x = some k → k.natAbs < 9 := fun x k hk => by
  unfold VS at hk
  by_cases c : x + 1 < R
  · rw [if_pos c] at hk
    exact vt_rng _ _ hk
  · rw [if_neg c] at hk
    cases hk
theorem e_voteOnSlant {S : St} (hs : CSh S) {tc fc bl R C f : Nat} {w : Wf} (h : RN S 5 w tc fc bl R C) (h3 : Rg (w 3) 1 255) (hf : f < fc) : ∃ fb S', FvO w R C f fb ∧ f_X6_voteOnSlant S 30 5 (S.2.1 (5 + 3) f) = some S' ∧ Ex PV S S' ∧ ∀ i, i < 17 → S'.1 34 i = nI (tly (VS w C R f fb) (fun _ => 1) i 10) := by
  have hR := h.2.2.1
  have hC := h.2.2.2.1
  have f5 := h.2.2.2.2.2.2.2.1.2.2
  obtain ⟨fb, a1, a2, -, -, -⟩ := c_edges hs sc5 h h3 hf (show 0 < R by omega)
  have g1 := ((hs.sc sc5).2.2.2.1 f (by omega)).rg
  have hE : ∀ S1 : St, CSh S1 → Ex (fun x _ => x = 31) S S1 → ∀ r, r < R → f_X3_edgesIn S1 5 (S.2.1 (5 + 3) f) (nI r) = some (nI (edf w C f r fb)) := by
    intro S1 s1 he r hr
    have h1 : RN S1 5 w tc fc bl R C := h.ch hs sc5 (he.ch (A := fun x => x = 31) (fun x j q => q)) (fun d hd => by omega)
    obtain ⟨fb', c1, c2, -, -, c5⟩ := c_edges s1 sc5 h1 h3 hf hr
    have : fb' = fb := by
      rw [← q_eq (by omega) (by omega), ← c2, a2]
    subst this
    rw [he.r] at c5
    exact c5
  obtain ⟨S1, p1, p2, p3⟩ := e_readEdges hs (F := S.2.1 (5 + 3) f) (A := 31) (E := fun r => edf w C f r fb) h.1 hR.1 hR.2.2 (by omega) ar31 (by omega) hE
  have s1 := hs.ex p2
  have em : ∀ x, Em (if x < R then edf w C f x fb else 0) := fun x => by
    split
    · exact edf_em hC.2.2
    · exact ⟨by decide, by decide⟩
  have hVS : ∀ x, x < 10 → vt (if x < R then edf w C f x fb else 0) (if x + 1 < R then edf w C f (x + 1) fb else 0) = VS w C R f fb x := by
    intro x hx
    unfold VS
    by_cases c : x + 1 < R
    · rw [if_pos (show x < R by omega), if_pos c, if_pos c]
    · rw [if_neg c, if_neg c]
      exact vt_0 (em x)
  obtain ⟨S2, ⟨x2, y2⟩, g2⟩ := wl2_inv (F := f_X6_voteOnSlant_B8 30 (fun (S_6 : St) => (chk (okc S_6 6 30) (bnd (f_X6_countVotes S_6 30 0) fun S_7 => (some S_7))))) (kx := (fun (S_6 : St) => (chk (okc S_6 6 30) (bnd (f_X6_countVotes S_6 30 0) fun S_7 => (some S_7))))) (n := 10) (fun i S' => Ex (fun x _ => x = 33) S1 S' ∧ ∀ x, x < i → S'.1 33 x = encC (VS w C R f fb x)) (fun i S2 kk hi hP => by
    unfold f_X6_voteOnSlant_B8
    obtain ⟨q1, q2⟩ := hP
    have s2 := s1.ex q1
    have e0 : S2.2.1 30 0 = 31 := s2.2.2.2.1.1
    have e2 : S2.2.1 30 2 = 33 := s2.2.2.2.1.2.2.1
    have ecl : (nI i).toNatClampNeg = i := q_cl (by omega)
    have n1 : nI i + 1 = nI (i + 1) := by rw [L1, q_add]
    have z1 : S2.1 31 i = nI (if i < R then edf w C f i fb else 0) := by rw [q1.2 31 i (by omega)]; exact p3 i hi
    have z2 : (if i + 1 < 10 then S2.1 31 (i + 1) else 0) = nI (if i + 1 < R then edf w C f (i + 1) fb else 0) := by
      by_cases c : i + 1 < 10
      · rw [if_pos c, q1.2 31 _ (by omega)]; exact p3 _ c
      · rw [if_neg c, if_neg (by omega)]; rfl
    simp only [e0, e2, lnA ar33, ecl, n1]
    rw [ck30 s2, ck_t (okA s2.n ar33), if_neg (by rw [q_le (by omega) (by omega)]; omega), ck30 s2, ck30 s2, c_numberIn s2.n (n := 10) rfl (by decide) rfl (by omega) (by omega), bnd_s, if_pos hi, ck30 s2, c_numberIn s2.n (n := 10) rfl (by decide) rfl (by omega) (by omega), bnd_s, z1, z2, e_bestShift (em i) (em (i + 1)), bnd_s, cwA s2.n ar33 hi, vlt_s]
    refine ⟨_, ⟨q1.upa, fun x hx => ?_⟩, rfl⟩
    rw [upI_at]
    by_cases c : x = i
    · rw [if_pos ⟨rfl, c⟩, c, hVS i hi]
    · rw [if_neg (fun q => c q.2)]
      exact q2 x (by omega)) (fun S2 kk hP => by
    unfold f_X6_voteOnSlant_B8
    have s2 := s1.ex hP.1
    have e2 : S2.2.1 30 2 = 33 := s2.2.2.2.1.2.2.1
    simp only [e2, lnA ar33]
    rw [ck30 s2, ck_t (okA s2.n ar33), if_pos (by rw [q_le (by omega) (by omega)]; omega)]) 10 0 FU S1 rfl (by decide) ⟨Ex.rf, fun x hx => by omega⟩
  rw [show nI 0 = (0 : Int32) from rfl] at g2
  have s2 := s1.ex x2
  obtain ⟨S3, t1, t2, t3⟩ := e_countVotes s2 (V := VS w C R f fb) (g := fun _ => 1) (a1 := 0) y2 VS_rng (fun _ => by decide) (Or.inl ⟨rfl, fun _ => rfl⟩)
  refine ⟨fb, S3, ⟨by omega, hR, ⟨hC.1, by omega, hC.2.2⟩, a2, a1⟩, ?_, ((p2.wk (fun x j q => Or.inl q)).tr (x2.wk (fun x j q => Or.inr (Or.inr (Or.inl q))))).tr (t2.wk (fun x j q => Or.inr (Or.inr (Or.inr q)))), t3⟩
  unfold f_X6_voteOnSlant f_X6_readFirst
  have e30 : S.2.1 30 0 = 31 := hs.2.2.2.1.1
  rw [ck30 hs, ck30 hs, ck30 hs, e30, p1, bnd_s, bnd_s, g2, ck30 s2, t1, bnd_s]
theorem e_slantOf {S : St} (hm : MSh S) {R C f fb : Nat} (v : FvO (S.1 125) R C f fb) : ∃ o S', f_X8_slantOf S 124 (nI f) = some (encM o, S') ∧ Ex (fun x _ => x = 129) S S' ∧ Tld (fun i => tly (VS (S.1 125) C R f fb) (fun _ => 1) i 10) o := by
  unfold f_X8_slantOf
  have hR := v.2.1
  obtain ⟨S1, p1, p2, p3⟩ := e_noVotes hm
  rw [ck8 hm, p1, bnd_s]
  obtain ⟨S2, ⟨x2, y2⟩, g2⟩ := wl2_inv (F := f_X8_slantOf_B6 124 (nI f) (fun (S_6 : St) => (chk (okc S_6 8 124) (bnd (f_X8_mostVoted S_6 124) fun r7 => (some (r7, S_6)))))) (kx := (fun (S_6 : St) => (chk (okc S_6 8 124) (bnd (f_X8_mostVoted S_6 124) fun r7 => (some (r7, S_6)))))) (n := R - 1) (fun r S' => Ex (fun x _ => x = 129) S S' ∧ ∀ i, i < 17 → S'.1 129 i = nI (tly (VS (S.1 125) C R f fb) (fun _ => 1) i r)) (fun r S1 kk hr hP => by
    unfold f_X8_slantOf_B6
    obtain ⟨q1, q2⟩ := hP
    have m1 := hm.ex q1
    have e125 : S1.1 125 = S.1 125 := by
      funext j
      exact q1.2 125 j (by omega)
    have hC := v.2.2.1
    have w1 : S1.1 125 1 = nI C := by rw [e125]; exact hC.1
    have w2 : fv1 (S1.1 125) f 1 = nI fb := by rw [e125]; exact v.2.2.2.1
    have es : nI R - 1 = nI (R - 1) := by rw [L1, q_sub (by omega)]
    have n1 : nI r + 1 = nI (r + 1) := by rw [L1, q_add]
    have ev : f_X8_voteBy (nI (edf (S1.1 125) C f r fb)) (nI (edf (S1.1 125) C f (r + 1) fb)) = some (encM (VS (S.1 125) C R f fb r)) := by
      rw [e_voteBy (edf_em hC.2.2) (edf_em hC.2.2), e125]
      unfold VS
      rw [if_pos (by omega)]
    obtain ⟨S2, k1, k2, k3⟩ := e_counts m1 (o := VS (S.1 125) C R f fb r) (g := 1) q2 (VS_rng r)
    rw [n1, ck8 m1, m1.2.1, ck_t (show ina S1 10 125 0 from inaN m1.1 rfl rfl (by decide) (by decide) (show 0 < 867 by omega)), C0, e125, hR.1, es, if_neg (by rw [q_le (by omega) (by omega)]; omega), ck8 m1, e_edgesIn m1 v.1 (by omega) w1 hC.2.1 hC.2.2 w2 v.2.2.2.2, bnd_s, ck8 m1, e_edgesIn m1 v.1 (by omega) w1 hC.2.1 hC.2.2 w2 v.2.2.2.2, bnd_s, ev, bnd_s, ck8 m1, show (1 : Int32) = nI 1 from rfl, k1, bnd_s]
    exact ⟨S2, ⟨q1.tr k2, fun i hi => k3 i hi⟩, rfl⟩) (fun S1 kk hP => by
    unfold f_X8_slantOf_B6
    have m1 := hm.ex hP.1
    have e0 : S1.1 125 0 = nI R := by rw [hP.1.2 125 0 (by omega)]; exact hR.1
    have es : nI R - 1 = nI (R - 1) := by rw [L1, q_sub (by omega)]
    rw [ck8 m1, m1.2.1, ck_t (show ina S1 10 125 0 from inaN m1.1 rfl rfl (by decide) (by decide) (show 0 < 867 by omega)), C0, e0, es, if_pos (Int32.le_refl _)]) (R - 1) 0 FU S1 (by omega) (by show R - 1 < 1000000; omega) ⟨p2, fun i hi => p3 i hi⟩
  rw [show nI 0 = (0 : Int32) from rfl] at g2
  have m2 := hm.ex x2
  obtain ⟨o, k1, k2⟩ := e_mostVoted m2 y2 (fun i => by
    have := tly_le (V := VS (S.1 125) C R f fb) (g := fun _ => 1) (G := 1) (fun _ => Nat.le_refl _) i (R - 1)
    omega)
  rw [g2, ck8 m2, k1, bnd_s]
  refine ⟨o, S2, rfl, x2, k2.ext (fun i hi => tly_cut (by omega) (fun x h1 h2 => ?_))⟩
  unfold VS
  rw [if_neg (by omega)]
theorem slant_told {N : Nat} {S : St} (h : INV N S) {f fc : Nat} (h4 : S.1 5 4 = nI fc) (f5 : fc ≤ 5) (hf : f < fc) : ∃ o S1 S2, f_X6_voteOnSlant S 30 5 (S.2.1 (5 + 3) f) = some S1 ∧ CSh S1 ∧ f_X6_told S1 30 = some (encC o) ∧ MSh S1 ∧ S1.1 125 = S.1 125 ∧ f_X8_slantOf S1 124 (nI f) = some (encM o, S2) ∧ MSh S2 ∧ S2.1 125 = S.1 125 ∧ INV N S2 ∧ ∀ k, o = some k → k.natAbs < 9 := by
  have h0 := h
  obtain ⟨st, len, i1, i2, i3, i4, i5, i6, i7⟩ := h
  have hs := i1.1
  obtain ⟨tc, fc', bl, R, C, hn⟩ := i1.2.2.1
  obtain ⟨tm, hok⟩ := i5.of hn.2.1 hn.1.2.1 hn.2.2.2.2.2.2.2.1.2.1 hn.2.2.2.2.2.2.2.1.2.2
  have hfc : fc' = fc := by
    have := hn.2.2.2.2.2.2.2.1
    rw [← q_eq (by omega) (by omega), ← this.1, h4]
  subst hfc
  obtain ⟨fb, S1, v, p1, p2, p3⟩ := e_voteOnSlant hs hn hok.2.2.2.1.2.1 hf
  have hsc : Ch SC S S1 := p2.ch (fun x j q => by unfold PV at q; unfold SC; omega)
  have e125 : S1.1 125 = S.1 125 := (hsc.2 125 (by unfold SC; omega)).1
  have s1 := hs.ex p2
  have m1 := i2.ex p2
  obtain ⟨o, k1, k2⟩ := e_told s1 (T := fun i => tly (VS (S.1 125) C R f fb) (fun _ => 1) i 10) p3 one_le
  rw [← e125] at v
  obtain ⟨o', S2, q1, q2, q3⟩ := e_slantOf m1 v
  rw [e125] at q3
  have := k2.uniq q3
  subst this
  refine ⟨o, S1, S2, p1, s1, k1, m1, e125, q1, m1.ex q2, ?_, (h0.scr hsc p2.r).msc (q2.wk (fun x j q => Or.inr (Or.inl q))), fun k hk => ?_⟩
  · funext j
    rw [q2.2 125 j (by omega), e125]
  · subst hk
    have := k2.rng
    omega
theorem op_slant {N : Nat} {S : St} (h : INV N S) (a : Int32) : Op N S (fun S => f_X7_slant S 4 a) (fun S => f_X8_slant S 124 a) := by
  obtain ⟨fc, h4, h36, f5, hs, hm⟩ := h.fc
  have e4 : ∀ S1 : St, CSh S1 → S1.2.1 4 4 = 30 := fun S1 q => q.2.1.2.2.2.1
  have e0 : S.2.1 4 0 = 5 := hs.2.1.1
  by_cases ha : 0 ≤ a ∧ a ≤ nI fc - 1
  · obtain ⟨f, rfl, hf⟩ := idx_ex (by omega) ha
    have hb := ((hs.sc sc5).2.2.2.1 f (by omega)).rg
    obtain ⟨o, S1, S2, p1, s1, k1, m1, e125, q1, m2, e2, hI, hr⟩ := slant_told h h4 f5 hf
    refine ⟨encC o, S1, S2, ?_, ?_, hI.mono (by omega)⟩
    · show f_X7_slant S 4 (nI f) = _
      unfold f_X7_slant
      rw [ck7 hs, e0, ck5 hs, c_frameAt_t hs sc5 h4 f5 hf, bnd_s, if_neg (by omega), ck7 hs, ck7 hs, e4 S hs, ck30 hs, p1, bnd_s, ck7 s1, e4 S1 s1, ck30 s1, k1, bnd_s]
    · show f_X8_slant S1 124 (nI f) = _
      unfold f_X8_slant
      rw [ck8 m1, e_isFrame m1, e125, h36, if_pos ha, bnd_s, if_neg (by decide), ck8 m1, q1, bnd2_s, ← encMC hr]
      by_cases c : encM o = -1000000
      · rw [if_pos c, if_pos c]
      · rw [if_neg c, if_neg c]
  · refine Op.no h (-10000001) ?_ ?_
    · show f_X7_slant S 4 a = _
      unfold f_X7_slant
      rw [ck7 hs, e0, ck5 hs, c_frameAt_f hs sc5 h4 a ha f5, bnd_s, if_pos rfl]
    · show f_X8_slant S 124 a = _
      unfold f_X8_slant
      rw [ck8 hm, e_isFrame hm, h36, if_neg ha, bnd_s, if_pos rfl]
theorem op_slantSpeed {N : Nat} {S : St} (h : INV N S) (a : Int32) : Op N S (fun S => f_X7_slantSpeed S 4 a) (fun S => f_X8_slantSpeed S 124 a) := by
  have h0 := h
  obtain ⟨fc, h4, h36, f5, hs, hm⟩ := h.fc
  obtain ⟨st, len, i1, i2, i3, i4, i5, i6, i7⟩ := h
  obtain ⟨tc, fc', bl, R', C', hn⟩ := i1.2.2.1
  have e4 : ∀ S1 : St, CSh S1 → S1.2.1 4 4 = 30 := fun S1 q => q.2.1.2.2.2.1
  have e0 : S.2.1 4 0 = 5 := hs.2.1.1
  have g2 : f_X3_setting S 5 2 = some (S.1 125 2) := by rw [L2, c_setting hs sc5 (by omega), hn.1.1 2 (by omega)]
  have c2 : (2 : Int32).toNatClampNeg = 2 := rfl
  have ck2 : ∀ (S1 : St), MSh S1 → ∀ o : Option (Int32 × St), chk (ina S1 10 125 2) o = o := fun S1 q o => ck_t (inaN q.1 rfl rfl (by decide) (by decide) (show 2 < 867 by omega)) o
  by_cases ha : 0 ≤ a ∧ a ≤ nI fc - 1
  · obtain ⟨f, rfl, hf⟩ := idx_ex (by omega) ha
    have hb := ((hs.sc sc5).2.2.2.1 f (by omega)).rg
    by_cases hd : S.1 125 2 = 0
    · refine Op.no h0 (-10000002) ?_ ?_
      · show f_X7_slantSpeed S 4 (nI f) = _
        unfold f_X7_slantSpeed
        rw [ck7 hs, e0, ck5 hs, c_frameAt_t hs sc5 h4 f5 hf, bnd_s, if_neg (by omega), ck7 hs, ck5 hs, g2, bnd_s, if_pos hd]
      · show f_X8_slantSpeed S 124 (nI f) = _
        unfold f_X8_slantSpeed
        simp only [c2]
        rw [ck8 hm, e_isFrame hm, h36, if_pos ha, bnd_s, if_neg (by decide), ck8 hm, hm.2.1, ck2 S hm, if_pos hd]
    · obtain ⟨o, S1, S2, p1, s1, k1, m1, e125, q1, m2, e2, hI, hr⟩ := slant_told h0 h4 f5 hf
      cases o with
      | none =>
        refine ⟨-10000004, S1, S2, ?_, ?_, hI.mono (by omega)⟩
        · show f_X7_slantSpeed S 4 (nI f) = _
          unfold f_X7_slantSpeed
          rw [ck7 hs, e0, ck5 hs, c_frameAt_t hs sc5 h4 f5 hf, bnd_s, if_neg (by omega), ck7 hs, ck5 hs, g2, bnd_s, if_neg hd, ck7 hs, ck7 hs, e4 S hs, ck30 hs, p1, bnd_s, ck7 s1, e4 S1 s1, ck30 s1, k1, bnd_s, if_pos (show encC none = (-10000004 : Int32) from rfl)]
        · show f_X8_slantSpeed S1 124 (nI f) = _
          unfold f_X8_slantSpeed
          simp only [c2]
          rw [ck8 m1, e_isFrame m1, e125, h36, if_pos ha, bnd_s, if_neg (by decide), ck8 m1, m1.2.1, ck2 S1 m1, e125, if_neg hd, ck8 m1, q1, bnd2_s, if_pos (show encM none = (-1000000 : Int32) from rfl)]
      | some k =>
        have hk := hr k rfl
        refine ⟨iI k * 100 / S.1 125 2, S1, S2, ?_, ?_, hI.mono (by omega)⟩
        · show f_X7_slantSpeed S 4 (nI f) = _
          unfold f_X7_slantSpeed
          rw [ck7 hs, e0, ck5 hs, c_frameAt_t hs sc5 h4 f5 hf, bnd_s, if_neg (by omega), ck7 hs, ck5 hs, g2, bnd_s, if_neg hd, ck7 hs, ck7 hs, e4 S hs, ck30 hs, p1, bnd_s, ck7 s1, e4 S1 s1, ck30 s1, k1, bnd_s, if_neg (show ¬ encC (some k) = (-10000004 : Int32) from encC_no hk), ck_t hd]
          rfl
        · show f_X8_slantSpeed S1 124 (nI f) = _
          unfold f_X8_slantSpeed
          simp only [c2]
          rw [ck8 m1, e_isFrame m1, e125, h36, if_pos ha, bnd_s, if_neg (by decide), ck8 m1, m1.2.1, ck2 S1 m1, e125, if_neg hd, ck8 m1, q1, bnd2_s, if_neg (show ¬ encM (some k) = (-1000000 : Int32) from encM_no hk), ck8 m2, m2.2.1, ck2 S2 m2, e2, ck_t hd, Int32.mul_comm]
          rfl
  · refine Op.no h0 (-10000001) ?_ ?_
    · show f_X7_slantSpeed S 4 a = _
      unfold f_X7_slantSpeed
      rw [ck7 hs, e0, ck5 hs, c_frameAt_f hs sc5 h4 a ha f5, bnd_s, if_pos rfl]
    · show f_X8_slantSpeed S 124 a = _
      unfold f_X8_slantSpeed
      rw [ck8 hm, e_isFrame hm, h36, if_neg ha, bnd_s, if_pos rfl]
