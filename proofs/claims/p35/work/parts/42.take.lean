theorem rot_lt {i fc j : Nat} (hi : i < fc) (h5 : fc ≤ 5) (hj : j < 5) : rot i fc j < 5 := by
  unfold rot
  split
  · omega
  · split
    · omega
    · split <;> omega
theorem rot_sp (i fc j : Nat) : (j < i ∧ rot i fc j = j) ∨ (i ≤ j ∧ j + 1 < fc ∧ rot i fc j = j + 1) ∨ (i ≤ j ∧ j + 1 = fc ∧ rot i fc j = i) ∨ (i ≤ j ∧ fc < j + 1 ∧ rot i fc j = j) := by
  unfold rot
  by_cases c1 : j < i
  · rw [if_pos c1]; omega
  · by_cases c2 : j + 1 < fc
    · rw [if_neg c1, if_pos c2]; omega
    · by_cases c3 : j + 1 = fc
      · rw [if_neg c1, if_neg c2, if_pos c3]; omega
      · rw [if_neg c1, if_neg c2, if_neg c3]; omega
theorem rot_inj {i fc j j' : Nat} (hi : i < fc) (h : rot i fc j = rot i fc j') : j = j' := by
  have h1 := rot_sp i fc j
  have h2 := rot_sp i fc j'
  omega
theorem CSh.rota {S S' : St} {k i fc : Nat} (h : CSh S) (hk : Sc k) (hi : i < fc) (h5 : fc ≤ 5) (hn : S'.2.2 = S.2.2) (hr : ∀ x j, S'.2.1 x j = if x = k + 3 ∧ j < 5 then S.2.1 (k + 3) (rot i fc j) else S.2.1 x j) : CSh S' := by
  have hk2 := hk
  unfold Sc at hk2
  have e : ∀ x, x ≠ k + 3 → ∀ j, S'.2.1 x j = S.2.1 x j := fun x hx j => by rw [hr, if_neg (fun q => hx q.1)]
  have e3 : ∀ j, j < 5 → S'.2.1 (k + 3) j = S.2.1 (k + 3) (rot i fc j) := fun j hj => by rw [hr, if_pos ⟨rfl, hj⟩]
  obtain ⟨h1, h2, h3, h4, h6, h7, h8, h9, h10⟩ := h
  have q4 := e 4 (by omega)
  have q26 := e 26 (by omega)
  have q28 := e 28 (by omega)
  have q30 := e 30 (by omega)
  have q35 := e 35 (by omega)
  have q41 := e 41 (by omega)
  have q25 := e 25 (by omega)
  unfold CSh
  refine ⟨hn.trans h1, ?_, ?_, ?_, ?_, ?_, fun k' hk' => ?_, ?_, ?_⟩
  · simp only [q4]; exact h2
  · simp only [q26, q28]; exact h3
  · simp only [q30]; exact h4
  · simp only [q35]; exact h6
  · rw [q41]; exact h7
  · obtain ⟨s1, s2, s3, s4, s5⟩ := h8 k' hk'
    have hk3 := hk'
    unfold Sc at hk3
    have r0 := e k' (by omega)
    have r2 := e (k' + 2) (by omega)
    refine ⟨by simp only [r0]; exact s1, fun q hq => by rw [r2]; exact s2 q hq, fun F hF => ?_, ?_, ?_⟩
    · have hb := hF.rg
      obtain ⟨d, hd, hd2⟩ := hF
      rw [e F (by omega)]
      exact s3 F ⟨d, hd, hd2⟩
    · intro f hf
      by_cases hkk : k' = k
      · rw [hkk, e3 f hf]
        have := s4 (rot i fc f) (rot_lt hi h5 hf)
        rw [hkk] at this
        exact this
      · rw [e (k' + 3) (by omega)]
        exact s4 f hf
    · intro f g hf hg
      by_cases hkk : k' = k
      · rw [hkk, e3 f hf, e3 g hg]
        intro z
        have := s5 (rot i fc f) (rot i fc g) (rot_lt hi h5 hf) (rot_lt hi h5 hg)
        rw [hkk] at this
        exact rot_inj hi (this z)
      · rw [e (k' + 3) (by omega), e (k' + 3) (by omega)]
        exact s5 f g hf hg
  · simp only [q25]; exact h9
  · simp only [q25]; exact h10
theorem RN.drop {S S' : St} {k i tc fc bl R C : Nat} {w w' : Wf} (h : RN S k w tc fc bl R C) (hs : CSh S) (hk : Sc k) (hi : i < fc) (hn : S'.2.2 = S.2.2) (hI : ∀ x j, S'.1 x j = if x = k ∧ j = 4 then nI (fc - 1) else S.1 x j) (hr : ∀ x j, S'.2.1 x j = if x = k + 3 ∧ j < 5 then S.2.1 (k + 3) (rot i fc j) else S.2.1 x j) (hw : ∀ j, j < 867 → w' j = if j = 36 then nI (fc - 1) else if 37 + 162 * i ≤ j ∧ j < 37 + 162 * (fc - 1) then w (j + 162) else w j) : RN S' k w' tc (fc - 1) bl R C := by
  obtain ⟨h1, h2, h3, h4, h5, h6, h7, h8, h9, h10, h11⟩ := h
  have hb := hk.kds.2.2.2.2.2.2.2.2.2.2.2.2.2
  have lo : ∀ j, j < 36 → w' j = w j := fun j hj => by rw [hw j (by omega), if_neg (by omega), if_neg (by omega)]
  have hi2 : ∀ j, 847 ≤ j → j < 867 → w' j = w j := fun j hj hj2 => by rw [hw j hj2, if_neg (by omega), if_neg (by omega)]
  have eI : ∀ x, x ≠ k → ∀ j, S'.1 x j = S.1 x j := fun x hx j => by rw [hI, if_neg (fun q => hx q.1)]
  have eK : ∀ j, j ≠ 4 → S'.1 k j = S.1 k j := fun j hj => by rw [hI, if_neg (fun q => hj q.2)]
  refine ⟨⟨fun j hj => ?_, h1.2.1, ?_, fun q hq j hj => ?_⟩, ?_, ?_, ?_, ?_, ?_, ?_, ?_, fun f hf => ?_, fun r hr => ?_, fun r hr => ?_⟩
  · rw [eI _ (by omega), lo j (by omega)]; exact h1.1 j hj
  · rw [eK 2 (by omega)]; exact h1.2.2.1
  · have := h1.2.1
    rw [eI _ (by omega), lo _ (by omega)]; exact h1.2.2.2 q hq j hj
  · rw [lo 8 (by omega)]; exact h2
  · rw [lo 0 (by omega)]; exact h3
  · rw [lo 1 (by omega)]; exact h4
  · rw [eK 6 (by omega), lo 33 (by omega)]; exact h5
  · rw [eK 7 (by omega), lo 34 (by omega)]; exact h6
  · rw [eK 5 (by omega), lo 35 (by omega)]; exact h7
  · refine ⟨by rw [hI, if_pos ⟨rfl, rfl⟩], by rw [hw 36 (by omega), if_pos rfl], by have := h8.2.2; omega⟩
  · have f5 := h8.2.2
    rw [hr, if_pos ⟨rfl, by omega⟩]
    have hrl := rot_lt hi f5 (show f < 5 by omega)
    have hF := (hs.sc hk).2.2.2.1 (rot i fc f) hrl
    have hFb := hF.rg
    have hrf : rot i fc f < fc := by
      unfold rot
      split
      · omega
      · split
        · omega
        · omega
    have hold := h9 (rot i fc f) hrf
    have hch : Ch (fun x => x = k ∨ x = k + 3) S S' := ⟨hn, fun x hx => ⟨by
      funext j
      exact eI x (fun q => hx (Or.inl q)) j, by
      funext j
      rw [hr, if_neg (fun q => hx (Or.inr q.1))]⟩⟩
    have hold2 := hold.ch hch (by omega) (by omega)
    refine hold2.w (fun j hj => ?_) h3.2.2 h4.2.2
    rw [hw _ (by omega), if_neg (by omega)]
    unfold rot
    by_cases c1 : f < i
    · rw [if_pos c1, if_neg (by omega)]
    · rw [if_neg c1, if_pos (show f + 1 < fc by omega), if_pos (by omega)]
      congr 1
      omega
  · rw [eI _ (by omega), hi2 _ (by omega) (by omega)]; exact h10 r hr
  · rw [eI _ (by omega), hi2 _ (by omega) (by omega)]; exact h11 r hr
/-- what is in bounds for a frame to be taken -/
def Snap (w : Wf) (tc R : Nat) : Prop := Rg (w 4) 0 255 ∧ (∀ q, q < tc → Rg (w (9 + 6 * q + 5)) 0 255) ∧ ∀ r, r < R → BT w tc (w 33 + nI r * w 2)
theorem e_takeJ {S : St} (hs : CSh S) {k a tc fc bl R C : Nat} {w w' : Wf} (hk : Sc k) (ha : isL a) (h : RN S k w tc fc bl R C) (hf : fc < 5) (hsn : Snap w tc R) (ht : Tk w w' R C tc fc) : ∃ S', f_X3_takeFrame_J17 S k a = some S' ∧ CSh S' ∧ Ch (fun x => x = a ∨ (k ≤ x ∧ x < k + 20)) S S' ∧ RN S' k w' tc (fc + 1) bl R C := by
  obtain ⟨h1, h2, h3, h4, h5, h6, h7, h8, h9, h10, h11⟩ := h
  have hd := hk.kds
  have hb := hd.2.2.2.2.2.2.2.2.2.2.2.2.2
  have ok : ∀ S' : St, S'.2.2 = 124 → okc S' 3 k := fun S' q => okS q hd.1 (by omega)
  unfold f_X3_takeFrame_J17
  have hS2 : ∃ S2 : St, S2 = upI (upI S k 5 (S.1 k 5 + 1)) k 4 (nI (fc + 1)) := ⟨_, rfl⟩
  obtain ⟨S2, e2⟩ := hS2
  have n1 : (upI S k 5 (S.1 k 5 + 1)).2.2 = 124 := by rw [upI_n]; exact hs.n
  have e41 : (upI S k 5 (S.1 k 5 + 1)).1 k 4 + 1 = nI (fc + 1) := by
    rw [upI_at, if_neg (by omega), h8.1, L1, q_add]
  have s2 : CSh S2 := by
    rw [e2]
    exact hs.rf rfl rfl
  have at2 : ∀ x j, S2.1 x j = if x = k ∧ j = 4 then nI (fc + 1) else if x = k ∧ j = 5 then S.1 k 5 + 1 else S.1 x j := fun x j => by
    rw [e2, upI_at, upI_at]
  have r2 : S2.2.1 = S.2.1 := by rw [e2]; rfl
  have eI : ∀ x, x ≠ k → ∀ j, S2.1 x j = S.1 x j := fun x hx j => by rw [at2, if_neg (fun q => hx q.1), if_neg (fun q => hx q.1)]
  have eK : ∀ j, j ≠ 4 → j ≠ 5 → S2.1 k j = S.1 k j := fun j hj hj2 => by rw [at2, if_neg (fun q => hj q.2), if_neg (fun q => hj2 q.2)]
  have k4 : S2.1 k 4 = nI (fc + 1) := by rw [at2, if_pos ⟨rfl, rfl⟩]
  rw [ck_t (ok S hs.n), ck_t (ok S hs.n), vlt_s, ck_t (ok _ n1), ck_t (ok _ n1), e41, vlt_s, ← e2, ck_t (ok _ s2.n), ck_t (ok _ s2.n), k4, L1, q_sub (by omega), show fc + 1 - 1 = fc by omega, c_frameAt_t s2 hk k4 (by omega) (by omega), bnd_s]
  have hF := (s2.sc hk).2.2.2.1 fc hf
  have hFr := hF.fr s2 hk
  have hFb := hF.rg
  generalize hFF : S2.2.1 (k + 3) fc = F at hF hFr hFb
  have rt2 : RT S2 k w tc := by
    refine ⟨fun j hj => by rw [eI _ (by omega)]; exact h1.1 j hj, h1.2.1, by rw [eK 2 (by omega) (by omega)]; exact h1.2.2.1, fun q hq j hj => by rw [eI _ (by omega)]; exact h1.2.2.2 q hq j hj⟩
  obtain ⟨S4, g1, g2, g3, g4, g5⟩ := e_photograph s2 (t0 := S2.1 k 6) hk hFr ha rt2 h3.1 h3.2.2 (by rw [eK 7 (by omega) (by omega)]; exact h6.1) h6.2.2 hsn.1 hsn.2.1 (by rw [eK 6 (by omega) (by omega), h5]; exact hsn.2.2)
  rw [if_neg (by omega), ck_t (ok _ s2.n), ck_t (ok _ s2.n), g1, bnd_s]
  obtain ⟨t1, t2, t3, t4, t5, t6⟩ := ht
  have hc2 : Ch (fun x => x = k) S S2 := by
    rw [e2]
    exact Ch.up (A := fun x => x = k) (Ch.up (A := fun x => x = k) Ch.rf rfl) rfl
  have hc4 : Ch (fun x => x = a ∨ x = F ∨ x = F + 1) S2 S4 := g2.ch (fun x j q => by
    rcases q with q | q | q
    · exact Or.inl q
    · exact Or.inr (Or.inl q.1)
    · exact Or.inr (Or.inr q))
  have hca : Ch (fun x => x = a ∨ (k ≤ x ∧ x < k + 20)) S S4 := (hc2.wk (fun x q => by
    right
    omega)).tr (hc4.wk (fun x q => by
    rcases q with q | q | q
    · exact Or.inl q
    · right; omega
    · right; omega))
  have na := ha.ne hk
  have z4 : ∀ d, d ≤ 9 → ∀ j, S4.1 (k + d) j = S2.1 (k + d) j := fun d hd j => hc4.i (by
    have := na d (by omega)
    omega) j
  have z0 : ∀ j, S4.1 k j = S2.1 k j := fun j => z4 0 (by omega) j
  have s4 : CSh S4 := s2.rf g2.n g2.r
  refine ⟨S4, rfl, s4, hca, ⟨⟨fun j hj => ?_, h1.2.1, ?_, fun q hq j hj => ?_⟩, ?_, ?_, ?_, ?_, ?_, ?_, ?_, fun f hf2 => ?_, fun r hr => ?_, fun r hr => ?_⟩⟩
  · rw [z4 1 (by omega), t6 j (by omega) (by omega) (by omega) (by omega)]; exact rt2.1 j hj
  · rw [z0]; exact rt2.2.2.1
  · have := h1.2.1
    have z := z4 (6 + q) (by omega) j
    rw [← Nat.add_assoc] at z
    rw [z, t6 _ (by omega) (by omega) (by omega) (by omega)]; exact rt2.2.2.2 q hq j hj
  · rw [t6 8 (by omega) (by omega) (by omega) (by omega)]; exact h2
  · rw [t6 0 (by omega) (by omega) (by omega) (by omega)]; exact h3
  · rw [t6 1 (by omega) (by omega) (by omega) (by omega)]; exact h4
  · rw [t6 33 (by omega) (by omega) (by omega) (by omega), z0, eK 6 (by omega) (by omega)]; exact h5
  · rw [t6 34 (by omega) (by omega) (by omega) (by omega), z0, eK 7 (by omega) (by omega)]; exact h6
  · rw [t2, z0, at2, if_neg (by omega), if_pos ⟨rfl, rfl⟩, h7]
  · refine ⟨?_, t1, by omega⟩
    rw [z0]
    exact k4
  · rw [g2.r]
    by_cases hff : f = fc
    · subst hff
      rw [hFF]
      refine ⟨?_, bl, h6.2.2, ?_, g4, fun r hr hrb c hc => ?_⟩
      · rw [g3, t3, eK 6 (by omega) (by omega)]; exact h5
      · rw [t4]; exact h6.2.1
      · rw [g5 r hr hrb c (by have := h4.2.2; omega), t5 r hr c hc, eK 6 (by omega) (by omega), h5]
    · have hf3 : f < fc := by omega
      have hG := (s2.sc hk).2.2.2.1 f (by omega)
      have hGb := hG.rg
      have hne : S2.2.1 (k + 3) f ≠ F := by
        rw [← hFF]
        intro z
        exact hff ((s2.sc hk).2.2.2.2 f fc (by omega) hf z)
      have hold := h9 f hf3
      rw [← r2] at hold
      generalize S2.2.1 (k + 3) f = G at hG hGb hne hold
      have ho2 := hold.ch hc2 (by omega) (by omega)
      obtain ⟨i1, hi1, rfl⟩ := hF
      obtain ⟨i2, hi2, rfl⟩ := hG
      have n1 := na (10 + 2 * i2) (by omega)
      have n2 := na (11 + 2 * i2) (by omega)
      have ho4 := ho2.ch hc4 (by omega) (by omega)
      exact ho4.w (fun j hj => t6 _ (by omega) (by omega) (by omega) (by omega)) h3.2.2 h4.2.2
  · rw [z4 4 (by omega), eI _ (by omega), t6 _ (by omega) (by omega) (by omega) (by omega)]; exact h10 r hr
  · rw [z4 5 (by omega), eI _ (by omega), t6 _ (by omega) (by omega) (by omega) (by omega)]; exact h11 r hr
theorem e_takeFrame {S : St} (hs : CSh S) {k a tc fc bl R C : Nat} {w w1 w' : Wf} (hk : Sc k) (ha : isL a) (h : RN S k w tc fc bl R C) (hsn : Snap w tc R) (hw1 : ∀ j, j < 867 → w1 j = if fc = 5 then (if j = 36 then nI 4 else if 37 ≤ j ∧ j < 37 + 162 * 4 then w (j + 162) else w j) else w j) (ht : Tk w1 w' R C tc (if fc = 5 then 4 else fc)) : ∃ S', f_X3_takeFrame S k a = some S' ∧ CSh S' ∧ Ch (fun x => x = a ∨ (k ≤ x ∧ x < k + 20)) S S' ∧ RN S' k w' tc ((if fc = 5 then 4 else fc) + 1) bl R C := by
  have hd := hk.kds
  have hb := hd.2.2.2.2.2.2.2.2.2.2.2.2.2
  have hln : Int32.ofNat (ln (k + 3)) = nI 5 := congrArg Int32.ofNat hd.2.2.2.2.2.2.1
  have ok : okc S 3 k := okS hs.n hd.1 (by omega)
  have f4 : S.1 k 4 = nI fc := h.2.2.2.2.2.2.2.1.1
  have f5 : fc ≤ 5 := h.2.2.2.2.2.2.2.1.2.2
  have htc := h.1.2.1
  unfold f_X3_takeFrame
  have e3 : S.2.1 k 3 = k + 3 := (hs.sc hk).1.2.2.1
  simp only [e3, hln, f4]
  rw [ck_t ok, ck_t ok, ck_t (okS hs.n hd.2.2.2.2.2.1 (by omega))]
  have sn1 : (∀ j, j < 34 → w1 j = w j) → Snap w1 tc R := by
    intro e
    refine ⟨by rw [e 4 (by omega)]; exact hsn.1, fun q hq => by rw [e _ (by omega)]; exact hsn.2.1 q hq, fun r hr q hq => ?_⟩
    have := hsn.2.2 r hr q hq
    unfold B1 at this ⊢
    rw [e 33 (by omega), e 2 (by omega), pl_ext (w' := w) (fun j hj => e j (by omega)) (by omega), e _ (by omega)]
    exact this
  by_cases hf : fc = 5
  · subst hf
    rw [if_neg (by rw [q_lt (by omega) (by omega)]; omega), ck_t ok]
    obtain ⟨S1, g1, g2, g3, g4⟩ := e_dropFrame hs hk (i := 0) f4 (by omega) (by omega)
    rw [L0, g1, bnd_s]
    rw [if_pos rfl] at ht
    have hw2 : ∀ j, j < 867 → w1 j = if j = 36 then nI (5 - 1) else if 37 + 162 * 0 ≤ j ∧ j < 37 + 162 * (5 - 1) then w (j + 162) else w j := fun j hj => by
      rw [hw1 j hj, if_pos rfl]
    have r1 := h.drop hs hk (i := 0) (by omega) g2 g3 g4 hw2
    have s1 := hs.rota hk (i := 0) (show 0 < 5 by omega) (by omega) g2 g4
    obtain ⟨S2, p1, p2, p3, p4⟩ := e_takeJ s1 hk ha r1 (by omega) (sn1 (fun j hj => by rw [hw1 j (by omega), if_pos rfl, if_neg (by omega), if_neg (by omega)])) ht
    refine ⟨S2, p1, p2, Ch.tr ⟨g2, fun x hx => ?_⟩ p3, by rw [if_pos rfl]; exact p4⟩
    constructor
    · funext j
      rw [g3, if_neg (by omega)]
    · funext j
      rw [g4, if_neg (by omega)]
  · rw [if_pos (by rw [q_lt (by omega) (by omega)]; omega)]
    rw [if_neg hf] at ht
    have hw2 : ∀ j, j < 867 → w1 j = w j := fun j hj => by rw [hw1 j hj, if_neg hf]
    have ht2 : Tk w w' R C tc fc := by
      obtain ⟨t1, t2, t3, t4, t5, t6⟩ := ht
      refine ⟨t1, by rw [t2, hw2 35 (by omega)], by rw [t3, hw2 33 (by omega)], by rw [t4, hw2 34 (by omega)], fun r hr c hc => ?_, fun j hj h1 h2 h3 => by rw [t6 j hj h1 h2 h3, hw2 j hj]⟩
      rw [t5 r hr c hc, hw2 33 (by omega), hw2 2 (by omega)]
      exact sh_ext (fun j hj => hw2 j (by omega)) htc _ _ _
    obtain ⟨S2, p1, p2, p3, p4⟩ := e_takeJ hs hk ha h (by omega) hsn ht2
    exact ⟨S2, p1, p2, p3, by rw [if_neg hf]; exact p4⟩

