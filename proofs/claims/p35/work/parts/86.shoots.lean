/-! WHAT HOLDS OF A FRAME JUST TAKEN -/
/-- the row behind a frame taken -/
def wsh (w : Wf) : Wf := tkf (wpre w (fcw w)) (tcw w) (fpre (fcw w))
theorem wpre_lo (w : Wf) (fc : Nat) {j : Nat} (hj : j < 36) : wpre w fc j = w j := by
  unfold wpre
  by_cases c : fc = 5
  · rw [if_pos c, if_neg (by omega), if_neg (by omega)]
  · rw [if_neg c]
theorem wsh_lo (w : Wf) {j : Nat} (hj : j < 35) : wsh w j = w j := by
  unfold wsh tkf
  rw [if_neg (by omega), if_neg (by omega), if_neg (by omega), if_neg (by omega), if_neg (by omega), wpre_lo w _ (by omega)]
theorem wsh_35 (w : Wf) : wsh w 35 = w 35 + 1 := by
  unfold wsh tkf
  rw [if_neg (by omega), if_pos rfl, wpre_lo w _ (by omega)]
theorem wsh_fc (w : Wf) (h5 : fcw w ≤ 5) : fcw (wsh w) = fpre (fcw w) + 1 := by
  show (wsh w 36).toNatClampNeg = _
  have fp : fpre (fcw w) ≤ 4 := by
    unfold fpre
    split <;> omega
  unfold wsh tkf
  rw [if_pos rfl, q_cl (by omega)]
theorem wsh_tm (w : Wf) : wsh w (37 + 162 * fpre (fcw w)) = w 33 := by
  unfold wsh tkf
  rw [if_neg (by omega), if_neg (by omega), if_pos rfl, wpre_lo w _ (by omega)]
theorem wsh_bl (w : Wf) : wsh w (38 + 162 * fpre (fcw w)) = w 34 := by
  unfold wsh tkf
  rw [if_neg (by omega), if_neg (by omega), if_neg (by omega), if_pos rfl, wpre_lo w _ (by omega)]
theorem wsh_px (w : Wf) {r c : Nat} (hr : r < 10) (hc : c < 16) (h4 : tcw w ≤ 4) : wsh w (39 + 162 * fpre (fcw w) + 16 * r + c) = sh (wsh w) (tcw w) r c (w 33 + nI r * w 2) := by
  have e1 : (39 + 162 * fpre (fcw w) + 16 * r + c - (39 + 162 * fpre (fcw w))) / 16 = r := by omega
  have e2 : (39 + 162 * fpre (fcw w) + 16 * r + c - (39 + 162 * fpre (fcw w))) % 16 = c := by omega
  have e3 : sh (wsh w) (tcw w) r c (w 33 + nI r * w 2) = sh (wpre w (fcw w)) (tcw w) r c (w 33 + nI r * w 2) := sh_ext (fun j hj => by rw [wsh_lo w (by omega), wpre_lo w _ (by omega)]) h4 r c _
  rw [e3]
  show tkf (wpre w (fcw w)) (tcw w) (fpre (fcw w)) _ = _
  unfold tkf
  rw [if_neg (by omega), if_neg (by omega), if_neg (by omega), if_neg (by omega), if_pos (by omega), e1, e2, wpre_lo w _ (show 33 < 36 by omega), wpre_lo w _ (show 2 < 36 by omega)]
theorem wl3_once {α α2 β : Type} {F : (α → α2 → Int32 → Option β) → α → α2 → Int32 → Option β} {kx : α → α2 → Option β} {a : α} {b : α2} {x : Int32} (h : ∀ k, F k a b x = kx a b) : wl3 F FU a b x = kx a b := h _
section KC
variable {S : St} {w : Wf} {st : Nat} {h : Nat → Wf}
theorem wsh_is (w : Wf) : tcw (wsh w) = tcw w ∧ blw (wsh w) = blw w ∧ Rw (wsh w) = Rw w ∧ Cw (wsh w) = Cw w ∧ tmw (wsh w) = tmw w := by
  unfold tcw blw Rw Cw tmw
  rw [wsh_lo w (by omega), wsh_lo w (by omega), wsh_lo w (by omega), wsh_lo w (by omega), wsh_lo w (by omega)]
  exact ⟨rfl, rfl, rfl, rfl, rfl⟩
theorem wsh_fbo (k : Kc S w st h) : fbo (wsh w) (fpre (fcw w)) = blw w := by
  have e : fv1 (wsh w) (fpre (fcw w)) 1 = w 34 := by
    unfold fv1
    rw [show 37 + 162 * fpre (fcw w) + 1 = 38 + 162 * fpre (fcw w) by omega, wsh_bl]
  unfold fbo
  rw [e]
  rfl
/-- the columns of one row of the new frame -/
theorem l_shootC {S2 : St} {st2 : Nat} {h2 : Nat → Wf} (k : Kc S w st h) (k2 : Kc S2 (wsh w) st2 h2) (ht : tmw w ≤ 10000) {r : Nat} (hr : r < Rw w) (a4 : Int32) (kx : St → Int32 → Option (Int32 × St)) : ∃ S3, wl3 (f_L_shoots_B141 4 (w 33) a4 (nI (Cw w)) (nI (blw w &&& (1 <<< Rw w - 1))) (nI (fpre (fcw w))) (nI r) kx) FU S2 1 0 = kx S3 1 ∧ Kc S3 (wsh w) st2 h2 := by
  have hR := k.rn.2.2.1
  have hC := k.rn.2.2.2.1
  have hb := k.rn.2.2.2.2.2.1.2.2
  have t4 := k.rn.1.2.1
  have f5 := k.rn.2.2.2.2.2.2.2.1.2.2
  obtain ⟨i1, i2, i3, i4, i5⟩ := wsh_is w
  have hr2 := pow2_R k
  have hml : blw w &&& (1 <<< Rw w - 1) < 1024 := Nat.lt_of_le_of_lt Nat.and_le_left hb
  have hm : (blw w &&& (1 <<< Rw w - 1)).testBit r = (blw w).testBit r := by
    rw [Nat.testBit_and, Nat.one_shiftLeft, Nat.testBit_two_pow_sub_one]
    simp [hr]
  have hfp : fpre (fcw w) < fcw (wsh w) := by
    rw [wsh_fc w f5]
    omega
  have hfbo := wsh_fbo k
  by_cases hbit : (blw w).testBit r = true
  · refine ⟨S2, ?_, k2⟩
    refine wl3_once (fun kk => ?_)
    unfold f_L_shoots_B141
    rw [if_neg (show ¬ nI (Cw w) ≤ 0 by rw [L0, q_le (by omega) (by omega)]; omega), if_neg (by decide), e_Lhas (by omega) (by omega), bnd_s, hm, if_pos hbit, if_neg (by decide)]
  · have hbit' : (blw w).testBit r = false := by simpa using hbit
    obtain ⟨d, hd, -, hd9⟩ := k.ok.2.2.2.1.1
    have w33 : w 33 = nI (tmw w) := k.ok.2.2.1.1
    have hrd : r * d ≤ 9 * 9 := Nat.mul_le_mul (by omega) hd9
    have et : w 33 + nI r * w 2 = nI (tmw w + r * d) := by rw [w33, hd, q_mul, q_add]
    obtain ⟨S3, b, ⟨p1, p2⟩, q⟩ := wl3_inv (F := f_L_shoots_B141 4 (w 33) a4 (nI (Cw w)) (nI (blw w &&& (1 <<< Rw w - 1))) (nI (fpre (fcw w))) (nI r) kx) (kx := kx) (n := Cw w) (fun _ S' b => Kc S' (wsh w) st2 h2 ∧ b = 1) (fun c S' b kk hc hP => by
      obtain ⟨k3, rfl⟩ := hP
      have s3 := k3.cs
      have p1 := k_pixel k3 hfp (r := r) (c := c) (by rw [i3]; exact hr) (by rw [i4]; exact hc) (by rw [hfbo]; exact hbit')
      rw [wsh_px w (by omega) (by omega) t4] at p1
      obtain ⟨S4, g1, k4⟩ := k_shows k3 (r := r) (c := c) (n := tmw w + r * d) (by rw [i3]; exact hr) (by rw [i4]; exact hc) (by omega)
      rw [i1] at g1
      refine ⟨S4, 1, ⟨k4, rfl⟩, ?_⟩
      unfold f_L_shoots_B141
      rw [if_neg (by rw [q_le (by omega) (by omega)]; omega), if_neg (by decide), e_Lhas (by omega) (by omega), bnd_s, hm, if_neg hbit, if_pos rfl, ck7 s3, p1, bnd_s, ck7 s3, k_count12 k3, bnd_s, ck7 s3, wsh_lo w (show 2 < 35 by omega), et, g1, bnd2_s, if_pos rfl, L1, q_add]) (fun S' b kk hP => by
      unfold f_L_shoots_B141
      rw [if_pos (Int32.le_refl _)]) (Cw w) 0 FU S2 1 (by omega) (by show Cw w < 1000000; omega) ⟨k2, rfl⟩
    rw [show nI 0 = (0 : Int32) from rfl] at q
    exact ⟨S3, by rw [q, p2], p1⟩
theorem l_shootR {S2 : St} {st2 : Nat} {h2 : Nat → Wf} (k : Kc S w st h) (k2 : Kc S2 (wsh w) st2 h2) (ht : tmw w ≤ 10000) (kx : St → Int32 → Option (Int32 × St)) : ∃ S3, wl3 (f_L_shoots_B126 4 (w 33) (nI (Rw w)) (nI (Cw w)) (nI (blw w &&& (1 <<< Rw w - 1))) (nI (fpre (fcw w))) kx) FU S2 1 0 = kx S3 1 ∧ Kc S3 (wsh w) st2 h2 := by
  have hR := k.rn.2.2.1
  obtain ⟨S3, b, ⟨p1, p2⟩, q⟩ := wl3_inv (F := f_L_shoots_B126 4 (w 33) (nI (Rw w)) (nI (Cw w)) (nI (blw w &&& (1 <<< Rw w - 1))) (nI (fpre (fcw w))) kx) (kx := kx) (n := Rw w) (fun _ S' b => Kc S' (wsh w) st2 h2 ∧ b = 1) (fun r S' b kk hr hP => by
    obtain ⟨k3, rfl⟩ := hP
    obtain ⟨S4, g1, k4⟩ := l_shootC k k3 ht hr (nI (Rw w)) (fun (S_15 : St) (y8_14 : Int32) => (kk S_15 y8_14 (nI r + 1)))
    refine ⟨S4, 1, ⟨k4, rfl⟩, ?_⟩
    unfold f_L_shoots_B126
    rw [if_neg (by rw [q_le (by omega) (by omega)]; omega), if_neg (by decide), g1, L1, q_add]) (fun S' b kk hP => by
    unfold f_L_shoots_B126
    rw [if_pos (Int32.le_refl _)]) (Rw w) 0 FU S2 1 (by omega) (by show Rw w < 1000000; omega) ⟨k2, rfl⟩
  rw [show nI 0 = (0 : Int32) from rfl] at q
  exact ⟨S3, by rw [q, p2], p1⟩
/-- all rows of the new frame that see fit -/
theorem wsh_fit (k : Kc S w st h) : nI (mk (fitD (wsh w) (tcw (wsh w)) (Cw (wsh w)) (fpre (fcw w)) (fbo (wsh w) (fpre (fcw w)))) (Rw (wsh w))) = nI (1 <<< Rw w - 1) &&& (nI (blw w &&& (1 <<< Rw w - 1)) ^^^ (-1)) := by
  have hR := k.rn.2.2.1
  have hC := k.rn.2.2.2.1
  have t4 := k.rn.1.2.1
  have hr2 := pow2_R k
  obtain ⟨i1, i2, i3, i4, i5⟩ := wsh_is w
  rw [q_andn (by omega), i1, i3, i4, wsh_fbo k]
  congr 1
  apply Nat.eq_of_testBit_eq
  intro r
  rw [mk_bit, mk_bit, Nat.testBit_and, Nat.one_shiftLeft, Nat.testBit_two_pow_sub_one]
  unfold fitD
  by_cases hr : r < Rw w
  · have hf : fit1 (wsh w) (wsh w) (tcw w) (Cw w) (fpre (fcw w)) r (fv1 (wsh w) (fpre (fcw w)) 0 + nI r * wsh w 2) = true := by
      unfold fit1
      rw [allF_iff]
      intro c _ hc
      rw [decide_eq_true_eq]
      have e0 : fv1 (wsh w) (fpre (fcw w)) 0 = w 33 := wsh_tm w
      have e1 : fv1 (wsh w) (fpre (fcw w)) (2 + 16 * r + c) = wsh w (39 + 162 * fpre (fcw w) + 16 * r + c) := by
        unfold fv1
        congr 1
        omega
      rw [e0, e1, wsh_px w (by omega) (by omega) t4, wsh_lo w (show 2 < 35 by omega)]
    rw [hf]
    simp [hr, show r < 31 by omega]
  · simp [hr]
theorem l_shoots (k : Kc S w st h) (ht : tmw w ≤ 10000) : ∃ S2, f_L_shoots S 4 = some (1, S2) ∧ Kc S2 (wsh w) (hst st) (hps st h w) := by
  have hs := k.cs
  have hR := k.rn.2.2.1
  have f5 := k.rn.2.2.2.2.2.2.2.1.2.2
  have hr2 := pow2_R k
  obtain ⟨i1, i2, i3, i4, i5⟩ := wsh_is w
  obtain ⟨S2, g1, k2⟩ := k_shoot k
  have k2 : Kc S2 (wsh w) (hst st) (hps st h w) := k2
  have s2 := k2.cs
  have hfp : fpre (fcw w) < fcw (wsh w) := by
    rw [wsh_fc w f5]
    omega
  have fp4 : fpre (fcw w) ≤ 4 := by
    unfold fpre
    split <;> omega
  obtain ⟨S3, g3, k3⟩ := l_shootR k k2 ht (fun (S_17 : St) (y8_16 : Int32) => (f_L_shoots_J214 S_17 4 (nI (Rw w)) (nI (blw w &&& (1 <<< Rw w - 1))) (nI (fpre (fcw w))) y8_16))
  have s3 := k3.cs
  obtain ⟨S4, g4, k4⟩ := k_fitting k3 hfp
  obtain ⟨S5, g5, k5⟩ := l_frame k4 hfp (by rw [wsh_tm w, wsh_lo w (by omega)]; exact Int32.lt_irrefl)
  refine ⟨S5, ?_, k5⟩
  have hsh : (1 : Int32) <<< (nI (Rw w) &&& 31) = nI (1 <<< Rw w) := q_shl 1 (by omega)
  have es : nI (1 <<< Rw w) - (1 : Int32) = nI (1 <<< Rw w - 1) := by rw [L1, q_sub (by omega)]
  have er : nI (fpre (fcw w) + 1) - 1 = nI (fpre (fcw w)) := by
    rw [L1, q_sub (by omega)]
    congr 1
  have ea : nI (fpre (fcw w)) + 1 = nI (fpre (fcw w) + 1) := by rw [L1, q_add]
  have tail : f_L_shoots_J67 S2 4 (w 33) (w 35) (nI (Rw w)) (nI (Cw w)) (nI (blw w &&& (1 <<< Rw w - 1))) (nI (fpre (fcw w))) (nI (fpre (fcw w))) (nI (fpre (fcw w))) = some (1, S5) := by
    unfold f_L_shoots_J67
    rw [if_pos rfl, ck7 s2, k_count1 k2, bnd_s, if_pos (by rw [wsh_fc w f5, ea]), ck7 s2, k_count4 k2, bnd_s, if_pos (wsh_35 w), ck7 s2, k_frame0 k2 hfp, bnd_s, if_pos (wsh_tm w), ck7 s2, k_frame1 k2 hfp, bnd_s, if_pos (by rw [wsh_fbo k, i3])]
    unfold f_L_shoots_J121
    rw [g3]
    unfold f_L_shoots_J214
    rw [if_neg (by decide), ck7 s3, g4, bnd2_s, hsh, es, if_pos (wsh_fit k), g5, bnd2_s, if_neg (by decide)]
  unfold f_L_shoots
  rw [ck7 hs, k_count2 k, bnd_s, ck7 hs, k_count1 k, bnd_s, ck7 hs, k_count4 k, bnd_s, ck7 hs, k_count10 k, bnd_s, ck7 hs, k_count11 k, bnd_s, e_Lblinded k, bnd_s, ck7 hs, g1, bnd2_s, hsh, es, q_and, er]
  by_cases c : fcw w = 5
  · rw [if_pos (by rw [c]; decide)]
    have e4 : (4 : Int32) = nI (fpre (fcw w)) := by
      unfold fpre
      rw [if_pos c]
      rfl
    rw [e4]
    exact tail
  · rw [if_neg (by rw [L5, q_le (by omega) (by omega)]; omega)]
    have e4 : nI (fcw w) = nI (fpre (fcw w)) := by
      unfold fpre
      rw [if_neg c]
    rw [e4]
    exact tail
end KC
