theorem abs_dfr {x y : Int32} {n : Nat} (h1 : 1 ≤ n) (hn : n < 1000) : ∃ v, f_J9_abs_0f7a4 (x - y) = some v ∧ (v < nI n ↔ dfr (nI n) x y = false) := by
  unfold f_J9_abs_0f7a4
  have hd : dfr (nI n) x y = false ↔ ¬ (nI n ≤ x - y ∨ nI n ≤ -(x - y)) := by
    rw [← dfr_t]
    cases dfr (nI n) x y <;> simp
  rw [hd]
  generalize x - y = d
  by_cases h : (0 : Int32) ≤ d
  · rw [if_pos h]
    refine ⟨d, rfl, ?_⟩
    have h0 : 0 ≤ d.toInt := by
      rw [Int32.le_iff_toInt_le] at h
      exact h
    have hm : d.toInt < 2147483648 := Int32.toInt_lt d
    have hneg : (-d).toInt = -d.toInt := by
      have e : -d = iI (-d.toInt) := by rw [← iI_neg, ← iI_of]
      rw [e, iI_int (by omega) (by omega)]
    rw [Int32.lt_iff_toInt_lt, Int32.le_iff_toInt_le, Int32.le_iff_toInt_le, hneg, q_int (by omega)]
    omega
  · rw [if_neg h]
    refine ⟨-d, rfl, ?_⟩
    have h0 : d.toInt < 0 := by
      rw [Int32.not_le, Int32.lt_iff_toInt_lt] at h
      exact h
    rw [Int32.lt_iff_toInt_lt, Int32.le_iff_toInt_le, Int32.le_iff_toInt_le, q_int (by omega)]
    omega
theorem c_pixelAt {S : St} (hn : S.2.2 = 124) {F r c : Nat} (hF : Fr S F) (hr : r < 10) (hc : c < 16) : f_X0_pixelAt S F (nI r) (nI c) = some (S.1 (F + 1) (16 * r + c)) := by
  unfold f_X0_pixelAt
  have hB := hF.2.2.2.2
  rw [ck_t (okS hn hF.1 hF.2.2.1), hF.2.2.2.1, L16, q_mul, q_add, c_numberIn hn hB.1 hB.2.2.2.1 hB.2.1 (by omega) (by omega), bnd_s, if_pos (by omega), show r * 16 + c = 16 * r + c by omega]
theorem c_edgesIn {S : St} (hs : CSh S) {k F r C tc fm : Nat} {w : Wf} (hk : Sc k) (hF : Fr S F) (hw : RT S k w tc) (hC : w 1 = nI C) (hC4 : 1 ≤ C) (hC16 : C ≤ 16) (h3 : Rg (w 3) 1 255) (hr : r < 10) (hm : S.1 F 1 = nI fm) (hm2 : fm < 1024) : f_X3_edgesIn S k F (nI r) = some (nI (if fm.testBit r = true then 0 else edm (w 3) C (fun c => S.1 (F + 1) (16 * r + c)))) := by
  unfold f_X3_edgesIn
  have hd := hk.kds
  have hb := hk.rg
  have ok : ∀ {β : Type} (o : Option β), chk (okc S 3 k) o = o := fun o => ck_t (okS hs.n hd.1 (by omega)) o
  have okF : ∀ {β : Type} (o : Option β), chk (okc S 0 F) o = o := fun o => ck_t (okS hs.n hF.1 hF.2.2.1) o
  rw [ok, L3, c_setting hs hk (by omega), bnd_s, okF, hm, e_holds (by omega) (by omega), bnd_s, hw.1 3 (by omega)]
  by_cases hbit : fm.testBit r = true
  · rw [if_pos hbit, if_neg (by decide), if_pos hbit]
    rfl
  · rw [if_neg hbit, if_pos rfl, if_neg hbit]
    obtain ⟨n, e3, n1, n2⟩ := h3
    unfold edm
    refine wl2_eq (kx := fun y => some y) (n := C) (fun i => nI (mk (fun c => decide (1 ≤ c) && dfr (w 3) (S.1 (F + 1) (16 * r + c)) (S.1 (F + 1) (16 * r + (c - 1)))) i)) 1 (by simp [mk]; rfl) rfl hC4 (by omega) (fun c kk h1 hc => ?_) (fun kk => ?_)
    · unfold f_X3_edgesIn_B25
      obtain ⟨v, g1, g2⟩ := abs_dfr (x := S.1 (F + 1) (16 * r + c)) (y := S.1 (F + 1) (16 * r + (c - 1))) n1 (show n < 1000 by omega)
      rw [ok, L1, c_setting hs hk (by omega), bnd_s, hw.1 1 (by omega), hC, if_neg (by rw [q_le (by omega) (by omega)]; omega), okF, c_pixelAt hs.n hF hr (by omega), bnd_s, okF, q_sub h1, c_pixelAt hs.n hF hr (by omega), bnd_s, g1, bnd_s, mk_succ, e3, q_add]
      by_cases hv : v < nI n
      · rw [if_pos hv, if_neg (by rw [g2.1 hv]; simp), Nat.or_zero]
      · have hv2 : dfr (nI n) (S.1 (F + 1) (16 * r + c)) (S.1 (F + 1) (16 * r + (c - 1))) = true := by
          cases hz : dfr (nI n) (S.1 (F + 1) (16 * r + c)) (S.1 (F + 1) (16 * r + (c - 1))) with
          | true => rfl
          | false => exact absurd (g2.2 hz) hv
        rw [if_neg hv, if_pos (by rw [hv2]; simp [h1]), q_shl 1 (by omega), q_or]
    · unfold f_X3_edgesIn_B25
      rw [ok, L1, c_setting hs hk (by omega), bnd_s, hw.1 1 (by omega), hC, if_pos (Int32.le_refl _)]
/-- the edges of a frame that a row of numbers says -/
theorem c_edges {S : St} (hs : CSh S) {k f r tc fc bl R C : Nat} {w : Wf} (hk : Sc k) (h : RN S k w tc fc bl R C) (h3 : Rg (w 3) 1 255) (hf : f < fc) (hr : r < R) : ∃ fb, fb < 1024 ∧ fv1 w f 1 = nI fb ∧ (∀ r, r < R → (fb &&& (1 <<< R - 1)).testBit r = fb.testBit r) ∧ S.1 (S.2.1 (k + 3) f) 1 = nI (fb &&& (1 <<< R - 1)) ∧ f_X3_edgesIn S k (S.2.1 (k + 3) f) (nI r) = some (nI (edf w C f r fb)) := by
  obtain ⟨b1, b2, b3, b4, b5, b6, b7, b8, b9, b10, b11⟩ := h
  have f5 := b8.2.2
  have hF := ((hs.sc hk).2.2.2.1 f (by omega)).fr hs hk
  obtain ⟨y1, fb, y2, y3, y4, y5⟩ := b9 f hf
  refine ⟨fb, y2, ?_, fun r hr => mask_low hr, y4, ?_⟩
  · unfold fv1
    rw [show 37 + 162 * f + 1 = 38 + 162 * f by omega]
    exact y3
  · have hm : fb &&& (1 <<< R - 1) < 1024 := Nat.lt_of_le_of_lt Nat.and_le_left y2
    have hr10 : r < 10 := by omega
    rw [c_edgesIn hs hk hF b1 b4.1 (by omega) b4.2.2 h3 hr10 y4 hm, mask_low hr]
    unfold edf
    by_cases hb : fb.testBit r = true
    · rw [if_pos hb, if_pos hb]
    · rw [if_neg hb, if_neg hb]
      congr 2
      unfold edm
      refine mk_ext (fun c hc => ?_)
      have hb' : fb.testBit r = false := by simpa using hb
      have e : ∀ d, d < C → S.1 (S.2.1 (k + 3) f + 1) (16 * r + d) = fv1 w f (2 + 16 * r + d) := fun d hd => by
        rw [y5 r hr hb' d hd]
        unfold fv1
        congr 1
        omega
      show (decide (1 ≤ c) && dfr (w 3) (S.1 (S.2.1 (k + 3) f + 1) (16 * r + c)) (S.1 (S.2.1 (k + 3) f + 1) (16 * r + (c - 1)))) = (decide (1 ≤ c) && dfr (w 3) (fv1 w f (2 + 16 * r + c)) (fv1 w f (2 + 16 * r + (c - 1))))
      rw [e c hc, e (c - 1) (by omega)]
theorem edm_em {thr : Int32} {C : Nat} {p : Nat → Int32} (h : C ≤ 16) : Em (edm thr C p) := by
  unfold edm
  refine ⟨Nat.lt_of_lt_of_le (mk_lt _ _) (show 2 ^ C ≤ 2 ^ 16 from Nat.pow_le_pow_right (by omega) h), ?_⟩
  rw [mk_bit]
  simp
theorem edf_em {w : Wf} {C f r fb : Nat} (h : C ≤ 16) : Em (edf w C f r fb) := by
  unfold edf
  split
  · exact ⟨by decide, by decide⟩
  · exact edm_em h

