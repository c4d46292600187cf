/-! TWO FRAMES: shift, vote, voters, dissent, weighed, speed -/
theorem INV.fc {N : Nat} {S : St} (h : INV N S) : ∃ fc, S.1 5 4 = nI fc ∧ S.1 125 36 = nI fc ∧ fc ≤ 5 ∧ CSh S ∧ MSh S := by
  obtain ⟨st, len, i1, i2, i3, i4, i5, i6, i7⟩ := h
  obtain ⟨tc, fc, bl, R, C, hn⟩ := i1.2.2.1
  exact ⟨fc, hn.2.2.2.2.2.2.2.1.1, hn.2.2.2.2.2.2.2.1.2.1, hn.2.2.2.2.2.2.2.1.2.2, i1.1, i2⟩
/-- a frame of the row w, as votes need it -/
def FvO (w : Wf) (R C f fb : Nat) : Prop := f < 5 ∧ (w 0 = nI R ∧ 1 ≤ R ∧ R ≤ 10) ∧ (w 1 = nI C ∧ 1 ≤ C ∧ C ≤ 16) ∧ fv1 w f 1 = nI fb ∧ fb < 1024
theorem pair_on {N : Nat} {S : St} (h : INV N S) {fc : Nat} (h4 : S.1 5 4 = nI fc) {a b : Int32} (hp : (0 ≤ a ∧ a ≤ nI fc - 1) ∧ (0 ≤ b ∧ b ≤ nI fc - 1) ∧ a ≠ b) : ∃ f1 f2 R C fb1 fb2 S1, (a = nI f1 ∧ b = nI f2 ∧ f1 < fc ∧ f2 < fc) ∧ FvO (S.1 125) R C f1 fb1 ∧ FvO (S.1 125) R C f2 fb2 ∧ f_X7_voteOn S 4 a b = some S1 ∧ Ex PV S S1 ∧ (∀ x, x < 10 → S1.1 33 x = encC (VV (S.1 125) C R f1 fb1 f2 fb2 x)) ∧ (∀ i, i < 17 → S1.1 34 i = nI (tly (VV (S.1 125) C R f1 fb1 f2 fb2) (fun _ => 1) i 10)) ∧ CSh S1 ∧ MSh S1 ∧ S1.1 125 = S.1 125 ∧ INV N S1 := by
  have h0 := h
  obtain ⟨st, len, i1, i2, i3, i4, i5, i6, i7⟩ := h
  have hs := i1.1
  obtain ⟨tc, fc', bl, R, C, hn⟩ := i1.2.2.1
  obtain ⟨tm, hok⟩ := i5.of hn.2.1 hn.1.2.1 hn.2.2.2.2.2.2.2.1.2.1 hn.2.2.2.2.2.2.2.1.2.2
  obtain ⟨g4, w36, f5⟩ := hn.2.2.2.2.2.2.2.1
  have hfc : fc' = fc ∨ ¬ fc < 2147483648 := by
    by_cases c : fc < 2147483648
    · left
      rw [← q_eq (by omega) c, ← g4, h4]
    · exact Or.inr c
  have hE : nI fc = nI fc' := by rw [← h4, g4]
  rw [hE] at hp
  obtain ⟨f1, e1, l1⟩ := idx_ex (by omega) hp.1
  obtain ⟨f2, e2, l2⟩ := idx_ex (by omega) hp.2.1
  obtain ⟨fb1, fb2, S1, ⟨a1, a2⟩, ⟨b1, b2⟩, p1, p2, p3, p4⟩ := e_voteOn hs hn hok.2.2.2.1.2.1 l1 l2
  have hsc : Ch SC S S1 := p2.ch (fun x j q => by unfold PV at q; unfold SC; omega)
  have e125 : S1.1 125 = S.1 125 := (hsc.2 125 (by unfold SC; omega)).1
  have hR := hn.2.2.1
  have hC := hn.2.2.2.1
  have lf : ∀ f, f < fc' → f < fc := fun f hf => by
    rcases hfc with c | c
    · omega
    · omega
  exact ⟨f1, f2, R, C, fb1, fb2, S1, ⟨e1, e2, lf _ l1, lf _ l2⟩, ⟨by omega, hR, ⟨hC.1, by omega, hC.2.2⟩, a2, a1⟩, ⟨by omega, hR, ⟨hC.1, by omega, hC.2.2⟩, b2, b1⟩, by rw [e1, e2]; exact p1, p2, p3, p4, hs.ex p2, i2.ex p2, e125, h0.scr hsc p2.r⟩
theorem one_le {V : Nat → Option Int} : ∀ i, tly V (fun _ => 1) i 10 < 1000000 := fun i => by
  have := tly_le (V := V) (g := fun _ => 1) (G := 1) (fun _ => Nat.le_refl _) i 10
  omega
/-- both tell the same of two frames -/
theorem pair_told {N : Nat} {S1 : St} (hI : INV N S1) (s1 : CSh S1) (m1 : MSh S1) {R C f1 fb1 f2 fb2 : Nat} (v1 : FvO (S1.1 125) R C f1 fb1) (v2 : FvO (S1.1 125) R C f2 fb2) (hT : ∀ i, i < 17 → S1.1 34 i = nI (tly (VV (S1.1 125) C R f1 fb1 f2 fb2) (fun _ => 1) i 10)) : ∃ o S2, f_X6_told S1 30 = some (encC o) ∧ f_X8_toldBy S1 124 (nI f1) (nI f2) 0 = some (encM o, S2) ∧ MSh S2 ∧ S2.1 125 = S1.1 125 ∧ INV N S2 ∧ ∀ k, o = some k → k.natAbs < 9 := by
  obtain ⟨o, p1, p2⟩ := e_told s1 (T := fun i => tly (VV (S1.1 125) C R f1 fb1 f2 fb2) (fun _ => 1) i 10) hT one_le
  obtain ⟨o', S2, q1, q2, q3⟩ := e_toldBy m1 (a3 := 0) (g := fun _ => 1) v1.1 v2.1 v1.2.1.1 v1.2.1.2.2 v1.2.2.1.1 v1.2.2.1.2.1 v1.2.2.1.2.2 v1.2.2.2.1 v1.2.2.2.2 v2.2.2.2.1 v2.2.2.2.2 (fun _ => by decide) (Or.inl ⟨rfl, fun _ => rfl⟩)
  have := p2.uniq q3
  subst this
  refine ⟨o, S2, p1, q1, m1.ex q2, ?_, hI.msc (q2.wk (fun x j q => Or.inr (Or.inl q))), fun k hk => ?_⟩
  · funext j
    exact q2.2 125 j (by omega)
  · subst hk
    have := p2.rng
    omega
theorem encMC {o : Option Int} (h : ∀ k, o = some k → k.natAbs < 9) : (if encM o = -1000000 then (-10000004 : Int32) else encM o) = encC o := by
  cases o with
  | none => rfl
  | some k => rw [if_neg (show ¬ encM (some k) = -1000000 from encM_no (h k rfl))]; rfl
theorem op_shift {N : Nat} {S : St} (h : INV N S) (a b : Int32) : Op N S (fun S => f_X7_shift S 4 a b) (fun S => f_X8_shift S 124 a b) := by
  obtain ⟨fc, h4, h36, f5, hs, hm⟩ := h.fc
  have e0 : ∀ S1 : St, CSh S1 → S1.2.1 4 4 = 30 := fun S1 q => q.2.1.2.2.2.1
  by_cases hp : (0 ≤ a ∧ a ≤ nI fc - 1) ∧ (0 ≤ b ∧ b ≤ nI fc - 1) ∧ a ≠ b
  · obtain ⟨f1, f2, R, C, fb1, fb2, S1, ⟨e1, e2, -, -⟩, v1, v2, p1, p2, p3, p4, s1, m1, e125, hI⟩ := pair_on h h4 hp
    rw [← e125] at v1 v2 p4
    obtain ⟨o, S2, q1, q2, q3, q4, q5, q6⟩ := pair_told hI s1 m1 v1 v2 p4
    refine ⟨encC o, S1, S2, ?_, ?_, q5.mono (by omega)⟩
    · show f_X7_shift S 4 a b = _
      unfold f_X7_shift
      rw [ck7 hs, c_isPair hs h4 f5, if_pos hp, bnd_s, if_neg (by decide), ck7 hs, p1, bnd_s, ck7 s1, e0 S1 s1, ck30 s1, q1, bnd_s]
    · show f_X8_shift S1 124 a b = _
      unfold f_X8_shift
      rw [ck8 m1, e_areFrames m1 (fc := fc) (by rw [e125]; exact h36), if_pos hp, bnd_s, if_neg (by decide), ck8 m1, e1, e2, q2, bnd2_s, ← encMC q6]
      by_cases c : encM o = -1000000
      · rw [if_pos c, if_pos c]
      · rw [if_neg c, if_neg c]
  · refine Op.no h (-10000001) ?_ ?_
    · show f_X7_shift S 4 a b = _
      unfold f_X7_shift
      rw [ck7 hs, c_isPair hs h4 f5, if_neg hp, bnd_s, if_pos rfl]
    · show f_X8_shift S 124 a b = _
      unfold f_X8_shift
      rw [ck8 hm, e_areFrames hm h36, if_neg hp, bnd_s, if_pos rfl]
theorem op_weighed {N : Nat} {S : St} (h : INV N S) (hN : N ≤ 900) (a b : Int32) : Op N S (fun S => f_X7_weighed S 4 a b) (fun S => f_X8_weighed S 124 a b) := by
  obtain ⟨fc, h4, h36, f5, hs, hm⟩ := h.fc
  have e0 : ∀ S1 : St, CSh S1 → S1.2.1 4 4 = 30 := fun S1 q => q.2.1.2.2.2.1
  by_cases hp : (0 ≤ a ∧ a ≤ nI fc - 1) ∧ (0 ≤ b ∧ b ≤ nI fc - 1) ∧ a ≠ b
  · obtain ⟨f1, f2, R, C, fb1, fb2, S1, ⟨e1, e2, -, -⟩, v1, v2, p1, p2, p3, p4, s1, m1, e125, hI⟩ := pair_on h h4 hp
    rw [← e125] at v1 v2 p4 p3
    have hI2 := hI
    obtain ⟨st, len, i1, i2, i3, i4, i5, i6, i7⟩ := hI2
    obtain ⟨tc, fc', bl, R', C', hn⟩ := i1.2.2.1
    obtain ⟨tm, hok⟩ := i5.of hn.2.1 hn.1.2.1 hn.2.2.2.2.2.2.2.1.2.1 hn.2.2.2.2.2.2.2.1.2.2
    have hrg : ∀ x k, VV (S1.1 125) C R f1 fb1 f2 fb2 x = some k → k.natAbs < 9 := fun x k hk => by
      unfold VV at hk
      by_cases c : x < R
      · rw [if_pos c] at hk
        exact vt_rng _ _ hk
      · rw [if_neg c] at hk
        cases hk
    have hgb : ∀ x, gw (S1.1 125) x ≤ 1000 := fun x => Nat.min_le_right _ _
    obtain ⟨S2, t1, t2, t3⟩ := e_countVotes s1 (a1 := 5) (g := gw (S1.1 125)) p3 hrg hgb (Or.inr ⟨rfl, fun S1' he x hx => by
      have s1' := s1.ex he
      have hn' : RN S1' 5 (S1.1 125) tc fc' bl R' C' := hn.ch s1 sc5 (he.ch (A := fun x => x = 34) (fun x j q => q)) (fun d hd => by omega)
      rw [c_weightOf s1' sc5 hn' hx, gw_wt hok hN hx]⟩)
    have s2 := s1.ex t2
    have m2 := m1.ex t2
    have hsc : Ch SC S1 S2 := t2.ch (fun x j q => by unfold SC; omega)
    have e2' : S2.1 125 = S1.1 125 := (hsc.2 125 (by unfold SC; omega)).1
    have hI3 := hI.scr hsc t2.r
    have hbd : ∀ i, tly (VV (S1.1 125) C R f1 fb1 f2 fb2) (gw (S1.1 125)) i 10 < 1000000 := fun i => by
      have := tly_le (V := VV (S1.1 125) C R f1 fb1 f2 fb2) hgb i 10
      omega
    obtain ⟨o, k1, k2⟩ := e_told s2 (T := fun i => tly (VV (S1.1 125) C R f1 fb1 f2 fb2) (gw (S1.1 125)) i 10) t3 hbd
    rw [← e2'] at v1 v2
    obtain ⟨o', S3, q1, q2, q3⟩ := e_toldBy m2 (a3 := 1) (g := gw (S1.1 125)) v1.1 v2.1 v1.2.1.1 v1.2.1.2.2 v1.2.2.1.1 v1.2.2.1.2.1 v1.2.2.1.2.2 v1.2.2.2.1 v1.2.2.2.2 v2.2.2.2.1 v2.2.2.2.2 hgb (Or.inr ⟨rfl, fun x hx => by rw [e2']; exact gw_wt hok hN hx⟩)
    rw [e2'] at q3
    have := k2.uniq q3
    subst this
    have hrgo : ∀ k, o = some k → k.natAbs < 9 := fun k hk => by
      subst hk
      have := k2.rng
      omega
    have e00 : S1.2.1 4 0 = 5 := s1.2.1.1
    refine ⟨encC o, S2, S3, ?_, ?_, (hI3.msc (q2.wk (fun x j q => Or.inr (Or.inl q)))).mono (by omega)⟩
    · show f_X7_weighed S 4 a b = _
      unfold f_X7_weighed f_X6_weigh
      rw [ck7 hs, c_isPair hs h4 f5, if_pos hp, bnd_s, if_neg (by decide), ck7 hs, p1, bnd_s, ck7 s1, ck7 s1, e0 S1 s1, e00, ck30 s1, ck30 s1, t1, bnd_s, bnd_s, ck7 s2, e0 S2 s2, ck30 s2, k1, bnd_s]
    · show f_X8_weighed S2 124 a b = _
      unfold f_X8_weighed
      rw [ck8 m2, e_areFrames m2 (fc := fc) (by rw [e2', e125]; exact h36), if_pos hp, bnd_s, if_neg (by decide), ck8 m2, e1, e2, q1, bnd2_s, ← encMC hrgo]
      by_cases c : encM o = -1000000
      · rw [if_pos c, if_pos c]
      · rw [if_neg c, if_neg c]
  · refine Op.no h (-10000001) ?_ ?_
    · show f_X7_weighed S 4 a b = _
      unfold f_X7_weighed
      rw [ck7 hs, c_isPair hs h4 f5, if_neg hp, bnd_s, if_pos rfl]
    · show f_X8_weighed S 124 a b = _
      unfold f_X8_weighed
      rw [ck8 hm, e_areFrames hm h36, if_neg hp, bnd_s, if_pos rfl]
theorem om_vote {N : Nat} {S : St} (h : INV N S) (a b c : Int32) : Om N S (fun S => f_X7_vote S 4 a b c) (fun S => f_X8_vote S 124 a b c) := by
  have h0 := h
  obtain ⟨fc, h4, h36, f5, hs, hm⟩ := h.fc
  obtain ⟨st, len, i1, i2, i3, i4, i5, i6, i7⟩ := h
  obtain ⟨tc, fc', bl, R, C, hn⟩ := i1.2.2.1
  have hR := hn.2.2.1
  have hC := hn.2.2.2.1
  have e0 : ∀ S1 : St, CSh S1 → S1.2.1 4 4 = 30 := fun S1 q => q.2.1.2.2.2.1
  have hc0 : (0 : Int32) ≤ 0 ∧ (0 : Int32) ≤ nI C - 1 := ⟨by decide, by
    rw [L1, q_sub (by omega), L0, q_le (by omega) (by omega)]; omega⟩
  by_cases hp : (0 ≤ a ∧ a ≤ nI fc - 1) ∧ (0 ≤ b ∧ b ≤ nI fc - 1) ∧ a ≠ b
  · by_cases hc : 0 ≤ c ∧ c ≤ nI R - 1
    · obtain ⟨r, rfl, hr⟩ := idx_ex (by omega) hc
      obtain ⟨f1, f2, R', C', fb1, fb2, S1, ⟨e1, e2, -, -⟩, v1, v2, p1, p2, p3, p4, s1, m1, e125, hI⟩ := pair_on h0 h4 hp
      have hRR : R' = R := by
        have := v1.2.1
        rw [← q_eq (by omega) (by omega), ← this.1, hR.1]
      have ev : VV (S.1 125) C' R' f1 fb1 f2 fb2 r = vt (edf (S.1 125) C' f1 r fb1) (edf (S.1 125) C' f2 r fb2) := by
        unfold VV
        rw [if_pos (by omega)]
      have e33 : S1.2.1 30 2 = 33 := s1.2.2.2.1.2.2.1
      refine ⟨encC (VV (S.1 125) C' R' f1 fb1 f2 fb2 r), S1, ?_, ?_, hI.mono (by omega)⟩
      · show f_X7_vote S 4 a b (nI r) = _
        unfold f_X7_vote f_X6_voteOf
        rw [ck7 hs, c_isPair hs h4 f5, if_pos hp, bnd_s, if_neg (by decide), ck7 hs, c_isPlace hs hn, if_pos ⟨hc, hc0⟩, bnd_s, if_neg (by decide), ck7 hs, p1, bnd_s, ck7 s1, e0 S1 s1, ck30 s1, if_neg (by rw [L0, q_lt (by omega) (by omega)]; omega), ck30 s1, e33, ck_t (okA s1.n ar33), lnA ar33, if_neg (by rw [q_le (by omega) (by omega)]; omega), ck30 s1, ckA s1.n ar33 (by omega), q_cl (by omega), p3 r (by omega), bnd_s]
      · show f_X8_vote S1 124 a b (nI r) = _
        unfold f_X8_vote
        rw [← e125] at v1 v2 ev
        have hv := e_voteOf m1 (r := r) v1.1 v2.1 (by omega) v1.2.2.1.1 v1.2.2.1.2.1 v1.2.2.1.2.2 v1.2.2.2.1 v1.2.2.2.2 v2.2.2.2.1 v2.2.2.2.2
        rw [ck8 m1, e_areFrames m1 (fc := fc) (by rw [e125]; exact h36), if_pos hp, bnd_s, if_neg (by decide), ck8 m1, e_isRow m1, e125, hR.1, if_pos hc, bnd_s, if_neg (by decide), ck8 m1, e1, e2, hv, bnd_s, ← e125, ev, ← encMC (fun k hk => vt_rng _ _ hk)]
        by_cases z : encM (vt (edf (S1.1 125) C' f1 r fb1) (edf (S1.1 125) C' f2 r fb2)) = -1000000
        · rw [if_pos z, if_pos z]
        · rw [if_neg z, if_neg z]
    · refine Om.no h0 (-10000001) ?_ ?_
      · show f_X7_vote S 4 a b c = _
        unfold f_X7_vote
        rw [ck7 hs, c_isPair hs h4 f5, if_pos hp, bnd_s, if_neg (by decide), ck7 hs, c_isPlace hs hn, if_neg (fun q => hc q.1), bnd_s, if_pos rfl]
      · show f_X8_vote S 124 a b c = _
        unfold f_X8_vote
        rw [ck8 hm, e_areFrames hm h36, if_pos hp, bnd_s, if_neg (by decide), ck8 hm, e_isRow hm, hR.1, if_neg hc, bnd_s, if_pos rfl]
  · refine Om.no h0 (-10000001) ?_ ?_
    · show f_X7_vote S 4 a b c = _
      unfold f_X7_vote
      rw [ck7 hs, c_isPair hs h4 f5, if_neg hp, bnd_s, if_pos rfl]
    · show f_X8_vote S 124 a b c = _
      unfold f_X8_vote
      rw [ck8 hm, e_areFrames hm h36, if_neg hp, bnd_s, if_pos rfl]
