/-! THE MODEL'S VOTES -/
def PM : Nat → Nat → Prop := fun x j => x = 127 ∨ x = 129 ∨ x = 130 ∨ (x = 124 ∧ 7 ≤ j)
theorem INV.msc {N : Nat} {S S' : St} (h : INV N S) (he : Ex PM S S') : INV N S' := by
  obtain ⟨st, len, i1, i2, i3, i4, i5, i6, i7⟩ := h
  have c1 : CI S' (S.1 125) st (fun i j => S.1 126 (867 * i + j)) len (S.1 128) := i1.ch (A := fun x => 124 ≤ x) (he.ch (fun x j q => by unfold PM at q; show 124 ≤ x; omega)) (fun x hx => by omega)
  have z : ∀ x j, x ≠ 127 → x ≠ 129 → x ≠ 130 → (x = 124 → j < 7) → S'.1 x j = S.1 x j := fun x j h1 h2 h3 h4 => he.2 x j (by unfold PM; omega)
  exact INV.mk c1 (i2.ex he) (fun j hj => z _ _ (by omega) (by omega) (by omega) (by omega)) (by rw [z _ _ (by omega) (by omega) (by omega) (by omega)]; exact i3) (fun i hi j hj => z _ _ (by omega) (by omega) (by omega) (by omega)) (by rw [z _ _ (by omega) (by omega) (by omega) (by omega)]; exact i4) (fun j hj => z _ _ (by omega) (by omega) (by omega) (by omega)) i5 i6 i7
theorem e_areFrames {S : St} (hm : MSh S) {fc : Nat} (h36 : S.1 125 36 = nI fc) (a b : Int32) : f_X8_areFrames S 124 a b = some (if (0 ≤ a ∧ a ≤ nI fc - 1) ∧ (0 ≤ b ∧ b ≤ nI fc - 1) ∧ a ≠ b then 1 else 0) := by
  unfold f_X8_areFrames
  rw [ck8 hm, e_isFrame hm, h36, bnd_s]
  by_cases ha : 0 ≤ a ∧ a ≤ nI fc - 1
  · rw [if_pos ha, if_neg (by decide), ck8 hm, e_isFrame hm, h36, bnd_s]
    by_cases hb : 0 ≤ b ∧ b ≤ nI fc - 1
    · rw [if_pos hb, if_neg (by decide)]
      by_cases c : a = b
      · rw [if_pos c, if_neg (fun q => q.2.2 c)]
      · rw [if_neg c, if_pos ⟨ha, hb, c⟩]
    · rw [if_neg hb, if_pos rfl, if_neg (fun q => hb q.2.1)]
  · rw [if_neg ha, if_pos rfl, if_neg (fun q => ha q.1)]
theorem c_isPair {S : St} (hs : CSh S) {fc : Nat} (f4 : S.1 5 4 = nI fc) (f5 : fc ≤ 5) (a b : Int32) : f_X7_isPair S 4 a b = some (if (0 ≤ a ∧ a ≤ nI fc - 1) ∧ (0 ≤ b ∧ b ≤ nI fc - 1) ∧ a ≠ b then 1 else 0) := by
  unfold f_X7_isPair
  have e0 : S.2.1 4 0 = 5 := hs.2.1.1
  by_cases c : a = b
  · rw [if_pos c, if_neg (fun q => q.2.2 c)]
  · rw [if_neg c, ck7 hs, e0, ck5 hs]
    by_cases ha : 0 ≤ a ∧ a ≤ nI fc - 1
    · obtain ⟨f, rfl, hf⟩ := idx_ex (by omega) ha
      have hb1 := ((hs.sc sc5).2.2.2.1 f (by omega)).rg
      rw [c_frameAt_t hs sc5 f4 f5 hf, bnd_s, if_neg (by omega), ck7 hs, ck5 hs]
      by_cases hb : 0 ≤ b ∧ b ≤ nI fc - 1
      · obtain ⟨f', rfl, hf'⟩ := idx_ex (by omega) hb
        have hb2 := ((hs.sc sc5).2.2.2.1 f' (by omega)).rg
        rw [c_frameAt_t hs sc5 f4 f5 hf', bnd_s, if_neg (by omega), if_pos ⟨ha, hb, c⟩]
      · rw [c_frameAt_f hs sc5 f4 b hb f5, bnd_s, if_pos rfl, if_neg (fun q => hb q.2.1)]
    · rw [c_frameAt_f hs sc5 f4 a ha f5, bnd_s, if_pos rfl, if_neg (fun q => ha q.1)]
theorem cw129 {S : St} (hm : MSh S) {j : Nat} (hj : j < 17) {β : Type} (o : Option β) : chk (inw S 10 129 (nI j)) o = o := cwA hm.1 ar129 hj o
theorem ck129 {S : St} (hm : MSh S) {j : Nat} (hj : j < 17) {β : Type} (o : Option β) : chk (ina S 10 129 (nI j)) o = o := ckA hm.1 ar129 hj o
theorem MSh.e6 {S : St} (hm : MSh S) : S.2.1 124 6 = 129 := hm.2.2.2.2.2.1
theorem e_noVotes {S : St} (hm : MSh S) : ∃ S', f_X8_noVotes S 124 = some S' ∧ Ex (fun x _ => x = 129) S S' ∧ ∀ i, i < 17 → S'.1 129 i = nI 0 := by
  unfold f_X8_noVotes
  obtain ⟨S1, ⟨x1, y1⟩, g1⟩ := wl2_inv (F := f_X8_noVotes_B2 124 (fun (S_2 : St) => some S_2)) (kx := fun (S_2 : St) => some S_2) (n := 17) (fun i S' => Ex (fun x _ => x = 129) S S' ∧ ∀ j, j < i → S'.1 129 j = nI 0) (fun i S1 kk hi hP => by
    unfold f_X8_noVotes_B2
    have m1 := hm.ex hP.1
    simp only [m1.e6]
    rw [if_neg (by rw [L17, q_le (by omega) (by omega)]; omega), ck8 m1, cw129 m1 hi]
    simp only [q_cl (show i < 2147483648 by omega)]
    rw [vlt_s, L1, q_add]
    refine ⟨_, ⟨hP.1.upa, fun j hj => ?_⟩, rfl⟩
    rw [upI_at]
    by_cases c : j = i
    · rw [if_pos ⟨rfl, c⟩]; rfl
    · rw [if_neg (fun q => c q.2)]
      exact hP.2 j (by omega)) (fun S1 kk hP => by
    unfold f_X8_noVotes_B2
    rw [if_pos (by rw [L17, q_le (by omega) (by omega)]; omega)]) 17 0 FU S rfl (by decide) ⟨Ex.rf, fun j hj => by omega⟩
  exact ⟨S1, g1, x1, y1⟩
theorem e_counts {S : St} (hm : MSh S) {T : Nat → Nat} {o : Option Int} {g : Nat} (hT : ∀ i, i < 17 → S.1 129 i = nI (T i)) (hr : ∀ k, o = some k → k.natAbs < 9) : ∃ S', f_X8_counts S 124 (encM o) (nI g) = some S' ∧ Ex (fun x _ => x = 129) S S' ∧ ∀ i : Nat, i < 17 → S'.1 129 i = nI (T i + if o = some ((i : Int) - 8) then g else 0) := by
  unfold f_X8_counts
  cases o with
  | none =>
    rw [if_pos (show encM none = (-1000000 : Int32) from rfl)]
    refine ⟨S, rfl, Ex.rf, fun i hi => ?_⟩
    rw [if_neg (by simp), Nat.add_zero]
    exact hT i hi
  | some k =>
    have hk := hr k rfl
    have hno : ¬ encM (some k) = (-1000000 : Int32) := encM_no hk
    have e8 : encM (some k) + 8 = nI (k + 8).toNat := i8 hk
    have hi17 : (k + 8).toNat < 17 := by omega
    have ecl2 : (nI (k + 8).toNat).toNatClampNeg = (k + 8).toNat := q_cl (by omega)
    simp only [e8, ecl2, hm.e6]
    rw [if_neg hno, ck8 hm, ck129 hm hi17, cw129 hm hi17, vlt_s, hT _ hi17, q_add]
    refine ⟨_, rfl, Ex.rf.upa, fun i hi => ?_⟩
    rw [upI_at]
    by_cases c : i = (k + 8).toNat
    · rw [if_pos ⟨rfl, c⟩, if_pos (by congr 1; omega), c]
    · rw [if_neg (fun q => c q.2), if_neg (by
        intro e
        have := Option.some.inj e
        omega), Nat.add_zero]
      exact hT i hi
/-- the best so far, and how often it has been met again -/
def McI (T : Nat → Nat) (n b t : Nat) : Prop := b < n ∧ t ≤ n ∧ (∀ j, j < n → T j ≤ T b) ∧ (t = 0 → ∀ j, j < n → j ≠ b → T j < T b) ∧ (0 < t → ∃ j, j < n ∧ j ≠ b ∧ T j = T b)
theorem e_mostVoted {S : St} (hm : MSh S) {T : Nat → Nat} (hT : ∀ i, i < 17 → S.1 129 i = nI (T i)) (hb : ∀ i, T i < 1000000) : ∃ o, f_X8_mostVoted S 124 = some (encM o) ∧ Tld T o := by
  unfold f_X8_mostVoted
  obtain ⟨x1, x2, ⟨b, t, e1, e2, c1, c2, c3, c4, c5⟩, g⟩ := wl3_inv (F := f_X8_mostVoted_B6 S 124 (fun (y1_1 : Int32) (y2_2 : Int32) => (chk (okc S 8 124) (chk (ina S 10 (S.2.1 124 6) y1_1) (if (S.1 (S.2.1 124 6) y1_1.toNatClampNeg) = 0 then (some (-1000000)) else (if y2_2 ≤ 0 then (some (y1_1 - 8)) else (some (-1000000)))))))) (kx := (fun (y1_1 : Int32) (y2_2 : Int32) => (chk (okc S 8 124) (chk (ina S 10 (S.2.1 124 6) y1_1) (if (S.1 (S.2.1 124 6) y1_1.toNatClampNeg) = 0 then (some (-1000000)) else (if y2_2 ≤ 0 then (some (y1_1 - 8)) else (some (-1000000)))))))) (n := 17) (fun n x1 x2 => ∃ b t, x1 = nI b ∧ x2 = nI t ∧ McI T n b t) (fun i x1 x2 kk hi hP => by
    obtain ⟨b, t, rfl, rfl, c1, c2, c3, c4, c5⟩ := hP
    unfold f_X8_mostVoted_B6
    have hb1 := hb i
    have hb2 := hb b
    simp only [hm.e6, q_cl (show i < 2147483648 by omega), q_cl (show b < 2147483648 by omega), hT i hi, hT b (by omega)]
    rw [if_neg (by rw [L17, q_le (by omega) (by omega)]; omega), ck8 hm, ck129 hm hi, ck8 hm, ck129 hm (by omega), L1, q_add]
    by_cases z : T i ≤ T b
    · rw [if_pos (by rw [q_le (by omega) (by omega)]; exact z), ck8 hm, ck129 hm hi, ck8 hm, ck129 hm (by omega)]
      by_cases z2 : T i = T b
      · rw [if_pos (by rw [z2]), q_add]
        refine ⟨nI b, nI (t + 1), ⟨b, t + 1, rfl, rfl, by omega, by omega, fun j hj => ?_, fun h => by omega, fun _ => ⟨i, by omega, by omega, z2⟩⟩, rfl⟩
        by_cases cj : j = i
        · rw [cj]; exact z
        · exact c3 j (by omega)
      · rw [if_neg (by rw [q_eq (by omega) (by omega)]; exact z2), q_add]
        refine ⟨nI b, nI t, ⟨b, t, rfl, rfl, by omega, by omega, fun j hj => ?_, fun h j hj hne => ?_, fun h => ?_⟩, rfl⟩
        · by_cases cj : j = i
          · rw [cj]; exact z
          · exact c3 j (by omega)
        · by_cases cj : j = i
          · rw [cj]; omega
          · exact c4 h j (by omega) hne
        · obtain ⟨j, d1, d2, d3⟩ := c5 h
          exact ⟨j, by omega, d2, d3⟩
    · rw [if_neg (by rw [q_le (by omega) (by omega)]; exact z), q_add]
      refine ⟨nI i, nI 0, ⟨i, 0, rfl, rfl, by omega, by omega, fun j hj => ?_, fun _ j hj hne => ?_, fun h => by omega⟩, rfl⟩
      · by_cases cj : j = i
        · rw [cj]; exact Nat.le_refl _
        · have := c3 j (by omega)
          omega
      · have := c3 j (by omega)
        omega) (fun x1 x2 kk hP => by
    unfold f_X8_mostVoted_B6
    rw [if_pos (by rw [L17, q_le (by omega) (by omega)]; omega)]) 16 1 FU 0 0 rfl (by decide) ⟨0, 0, rfl, rfl, by omega, by omega, fun j hj => by rw [show j = 0 by omega]; exact Nat.le_refl _, fun _ j hj hne => by omega, fun h => by omega⟩
  rw [show nI 1 = (1 : Int32) from rfl] at g
  subst e1
  subst e2
  have hb2 := hb b
  rw [g, ck8 hm, hm.e6, ck129 hm c1]
  simp only [q_cl (show b < 2147483648 by omega), hT b c1]
  by_cases z : T b = 0
  · refine ⟨none, ?_, fun i hi hp => ?_⟩
    · rw [if_pos (by rw [z]; rfl)]
      rfl
    · have := c3 i hi
      omega
  · rw [if_neg (by rw [L0, q_eq (by omega) (by omega)]; exact z)]
    by_cases zt : t = 0
    · refine ⟨some ((b : Int) - 8), ?_, b, c1, rfl, by omega, fun j hj hne => c4 zt j hj hne⟩
      rw [if_pos (by rw [zt]; decide)]
      show some (nI b - 8) = some (iI ((b : Int) - 8))
      rw [iI_nat, show (8 : Int32) = iI 8 from rfl, iI_sub]
    · refine ⟨none, ?_, fun i hi hp => ?_⟩
      · rw [if_neg (by rw [L0, q_le (by omega) (by omega)]; omega)]
        rfl
      · obtain ⟨j, d1, d2, d3⟩ := c5 (by omega)
        by_cases ci : i = b
        · exact ⟨j, d1, by omega, by rw [ci]; omega⟩
        · exact ⟨b, c1, Ne.symm ci, c3 i hi⟩
/-- a row's weight, as a number -/
def gw (w : Wf) (x : Nat) : Nat := min (wt w x).toNatClampNeg 1000
theorem gw_wt {N : Nat} {w : Wf} {tc fc tm r : Nat} (h : OKn N w tc fc tm) (hN : N ≤ 900) (hr : r < 10) : wt w r = nI (gw w r) := by
  obtain ⟨a, e1, -, b1⟩ := h.2.2.2.2.2.2.1 r hr
  obtain ⟨d, e2, -, b2⟩ := h.2.2.2.2.2.2.2 r hr
  have e : wt w r = nI (1 + (a - d)) := by
    unfold wt
    rw [e1, e2]
    by_cases c : a ≤ d
    · rw [if_pos (by
        rw [iI_nat, iI_nat, iI_sub, show (0 : Int32) = iI 0 from rfl, iI_le (by omega) (by omega) (by omega) (by omega)]
        omega), show 1 + (a - d) = 1 by omega]
      rfl
    · rw [if_neg (by
        rw [iI_nat, iI_nat, iI_sub, show (0 : Int32) = iI 0 from rfl, iI_le (by omega) (by omega) (by omega) (by omega)]
        omega), q_sub (by omega), L1, q_add]
  unfold gw
  rw [e, q_cl (by omega), Nat.min_eq_left (by omega)]
theorem e_voteOf {S : St} (hm : MSh S) {f1 f2 r C fb1 fb2 : Nat} (hf1 : f1 < 5) (hf2 : f2 < 5) (hr : r < 10) (hC : S.1 125 1 = nI C) (hC1 : 1 ≤ C) (hC16 : C ≤ 16) (h1 : fv1 (S.1 125) f1 1 = nI fb1) (b1 : fb1 < 1024) (h2 : fv1 (S.1 125) f2 1 = nI fb2) (b2 : fb2 < 1024) : f_X8_voteOf S 124 (nI f1) (nI f2) (nI r) = some (encM (vt (edf (S.1 125) C f1 r fb1) (edf (S.1 125) C f2 r fb2))) := by
  unfold f_X8_voteOf
  rw [ck8 hm, e_edgesIn hm hf1 hr hC hC1 hC16 h1 b1, bnd_s, ck8 hm, e_edgesIn hm hf2 hr hC hC1 hC16 h2 b2, bnd_s, e_voteBy (edf_em hC16) (edf_em hC16), bnd_s]
theorem e_toldBy {S : St} (hm : MSh S) {f1 f2 R C fb1 fb2 : Nat} {a3 : Int32} {g : Nat → Nat} (hf1 : f1 < 5) (hf2 : f2 < 5) (hR : S.1 125 0 = nI R) (hR10 : R ≤ 10) (hC : S.1 125 1 = nI C) (hC1 : 1 ≤ C) (hC16 : C ≤ 16) (h1 : fv1 (S.1 125) f1 1 = nI fb1) (b1 : fb1 < 1024) (h2 : fv1 (S.1 125) f2 1 = nI fb2) (b2 : fb2 < 1024) (hg : ∀ x, g x ≤ 1000) (hw : (a3 = 0 ∧ ∀ x, g x = 1) ∨ (a3 = 1 ∧ ∀ x, x < 10 → wt (S.1 125) x = nI (g x))) : ∃ o S', f_X8_toldBy S 124 (nI f1) (nI f2) a3 = some (encM o, S') ∧ Ex (fun x _ => x = 129) S S' ∧ Tld (fun i => tly (VV (S.1 125) C R f1 fb1 f2 fb2) g i 10) o := by
  unfold f_X8_toldBy
  obtain ⟨S1, p1, p2, p3⟩ := e_noVotes hm
  rw [ck8 hm, p1, bnd_s]
  obtain ⟨S2, ⟨x2, y2⟩, g2⟩ := wl2_inv (F := f_X8_toldBy_B7 124 (nI f1) (nI f2) a3 (fun (S_5 : St) => (chk (okc S_5 8 124) (bnd (f_X8_mostVoted S_5 124) fun r6 => (some (r6, S_5)))))) (kx := (fun (S_5 : St) => (chk (okc S_5 8 124) (bnd (f_X8_mostVoted S_5 124) fun r6 => (some (r6, S_5)))))) (n := R) (fun r S' => Ex (fun x _ => x = 129) S S' ∧ ∀ i, i < 17 → S'.1 129 i = nI (tly (VV (S.1 125) C R f1 fb1 f2 fb2) g i r)) (fun r S1 kk hr hP => by
    unfold f_X8_toldBy_B7
    obtain ⟨p1, p2⟩ := hP
    have m1 := hm.ex p1
    have e125 : S1.1 125 = S.1 125 := by
      funext j
      exact p1.2 125 j (by omega)
    have ev : f_X8_voteOf S1 124 (nI f1) (nI f2) (nI r) = some (encM (VV (S.1 125) C R f1 fb1 f2 fb2 r)) := by
      rw [e_voteOf m1 hf1 hf2 (by omega) (by rw [e125]; exact hC) hC1 hC16 (by rw [e125]; exact h1) b1 (by rw [e125]; exact h2) b2, e125]
      unfold VV
      rw [if_pos hr]
    rw [ck8 m1, m1.2.1, ck_t (show ina S1 10 125 0 from inaN m1.1 rfl rfl (by decide) (by decide) (show 0 < 867 by omega)), C0, e125, hR, if_neg (by rw [q_le (by omega) (by omega)]; omega), ck8 m1, ev, bnd_s]
    have hrng : ∀ k, VV (S.1 125) C R f1 fb1 f2 fb2 r = some k → k.natAbs < 9 := fun k hk => by
      unfold VV at hk
      rw [if_pos hr] at hk
      exact vt_rng _ _ hk
    obtain ⟨S2, q1, q2, q3⟩ := e_counts m1 (g := g r) p2 hrng
    rcases hw with ⟨z1, z2⟩ | ⟨z1, z2⟩
    · unfold f_X8_toldBy_J41
      rw [z2] at q1
      rw [if_pos z1, ck8 m1, show (1 : Int32) = nI 1 from rfl, q1, bnd_s, q_add]
      exact ⟨S2, ⟨p1.tr q2, fun i hi => q3 i hi⟩, rfl⟩
    · unfold f_X8_toldBy_J41
      rw [if_neg (by rw [z1]; decide), ck8 m1, e_weightOf m1 (by omega), bnd_s, e125, z2 r (by omega), ck8 m1, q1, bnd_s, L1, q_add]
      exact ⟨S2, ⟨p1.tr q2, fun i hi => q3 i hi⟩, rfl⟩) (fun S1 kk hP => by
    unfold f_X8_toldBy_B7
    have m1 := hm.ex hP.1
    have e0 : S1.1 125 0 = nI R := by rw [hP.1.2 125 0 (by omega)]; exact hR
    rw [ck8 m1, m1.2.1, ck_t (show ina S1 10 125 0 from inaN m1.1 rfl rfl (by decide) (by decide) (show 0 < 867 by omega)), C0, e0, if_pos (Int32.le_refl _)]) R 0 FU S1 (by omega) (by show R < 1000000; omega) ⟨p2, fun i hi => p3 i hi⟩
  rw [show nI 0 = (0 : Int32) from rfl] at g2
  have m2 := hm.ex x2
  have hbd : ∀ i, tly (VV (S.1 125) C R f1 fb1 f2 fb2) g i R < 1000000 := fun i => by
    have := tly_le (V := VV (S.1 125) C R f1 fb1 f2 fb2) hg i R
    have : 1000 * R ≤ 1000 * 10 := Nat.mul_le_mul_left _ hR10
    omega
  obtain ⟨o, k1, k2⟩ := e_mostVoted m2 y2 hbd
  rw [g2, ck8 m2, k1, bnd_s]
  refine ⟨o, S2, rfl, x2, k2.ext (fun i hi => tly_cut hR10 (fun x h1 h2 => ?_))⟩
  unfold VV
  rw [if_neg (by omega)]
