/-! WHAT HOLDS OF A FRAME -/
section KC
variable {S : St} {w : Wf} {st : Nat} {h : Nat → Wf}
theorem k_count10 (k : Kc S w st h) : f_X7_count S 4 10 = some (nI (Rw w)) := by
  have e : f_X7_count S 4 10 = some (w 0) := k_countS k (i := 0) (by omega)
  rw [e, k.rn.2.2.1.1]
theorem k_count11 (k : Kc S w st h) : f_X7_count S 4 11 = some (nI (Cw w)) := by
  have e : f_X7_count S 4 11 = some (w 1) := k_countS k (i := 1) (by omega)
  rw [e, k.rn.2.2.2.1.1]
theorem k_count12 (k : Kc S w st h) : f_X7_count S 4 12 = some (w 2) := k_countS k (i := 2) (by omega)
theorem k_count13 (k : Kc S w st h) : f_X7_count S 4 13 = some (w 3) := k_countS k (i := 3) (by omega)
theorem k_count15 (k : Kc S w st h) : f_X7_count S 4 15 = some (w 5) := k_countS k (i := 5) (by omega)
/-- the edges of a row of a frame -/
def edr (w : Wf) (f r : Nat) : Nat := edm (w 3) (Cw w) (fun c => w (39 + 162 * f + 16 * r + c))
theorem edr_bit (w : Wf) (f r : Nat) {c : Nat} (h1 : 1 ≤ c) (h2 : c < Cw w) : (edr w f r).testBit c = dfr (w 3) (w (39 + 162 * f + 16 * r + c)) (w (39 + 162 * f + 16 * r + (c - 1))) := by
  unfold edr edm
  rw [mk_bit]
  simp [h1, h2]
theorem edr_lt (w : Wf) (f r : Nat) : edr w f r < 2 ^ Cw w := mk_lt _ _
theorem edr_0 (w : Wf) (f r : Nat) : edr w f r &&& 1 = 0 := by
  have hb : (edr w f r).testBit 0 = false := by
    unfold edr edm
    rw [mk_bit]
    simp
  rw [Nat.and_one_is_mod]
  rw [Nat.testBit_zero] at hb
  have : ¬ edr w f r % 2 = 1 := by simpa using hb
  omega
theorem edr_edf {f r : Nat} (hb : (fbo w f).testBit r = false) : edf w (Cw w) f r (fbo w f) = edr w f r := by
  unfold edf edr
  rw [if_neg (show ¬ (fbo w f).testBit r = true by rw [hb]; decide)]
  congr 1
  funext c
  unfold fv1
  congr 1
  omega
theorem pow2_C (k : Kc S w st h) : (2 : Nat) ^ Cw w ≤ 65536 ∧ 1 <<< Cw w = 2 ^ Cw w := by
  have hC := k.rn.2.2.2.1.2.2
  refine ⟨?_, Nat.one_shiftLeft _⟩
  have : (2 : Nat) ^ Cw w ≤ 2 ^ 16 := Nat.pow_le_pow_right (by omega) hC
  omega
theorem pow2_R (k : Kc S w st h) : 1 <<< Rw w ≤ 1024 ∧ 1 ≤ 1 <<< Rw w := by
  have hR := k.rn.2.2.1.2.2
  rw [Nat.one_shiftLeft]
  have : (2 : Nat) ^ Rw w ≤ 2 ^ 10 := Nat.pow_le_pow_right (by omega) hR
  exact ⟨by omega, Nat.one_le_two_pow⟩
theorem l_frameB (k : Kc S w st h) {f r : Nat} (hf : f < fcw w) (hr : r < Rw w) (hb : (fbo w f).testBit r = false) (a2 a5 a6 : Int32) (kx : Int32 → Option (Int32 × St)) : wl2 (f_L_frameHolds_B175 S 4 (nI f) a2 (nI (Cw w)) (w 3) a5 a6 (nI r) (nI (edr w f r)) kx) FU 1 1 = kx 1 := by
  have hs := k.cs
  have hC := k.rn.2.2.2.1
  have hR := k.rn.2.2.1
  have hp := (pow2_C k).1
  have hlt := edr_lt w f r
  refine wl2_eq (kx := kx) (n := Cw w) (fun _ => (1 : Int32)) 1 rfl rfl (by omega) (by omega) (fun c kk h1 hc => ?_) (fun kk => ?_)
  · unfold f_L_frameHolds_B175
    have p1 := k_pixel k hf hr hc hb
    have p2 := k_pixel k hf hr (show c - 1 < Cw w by omega) hb
    have es : nI c - 1 = nI (c - 1) := by rw [L1, q_sub h1]
    have ea : nI c + 1 = nI (c + 1) := by rw [L1, q_add]
    simp only [es, ea]
    rw [if_neg (by rw [q_le (by omega) (by omega)]; omega), if_neg (by decide), ck7 hs, p1, bnd_s, ck7 hs, p2, bnd_s, e_Lhas (by omega) (by omega), bnd_s, edr_bit w f r h1 hc]
    by_cases c1 : w 3 ≤ w (39 + 162 * f + 16 * r + c) - w (39 + 162 * f + 16 * r + (c - 1))
    · rw [if_pos c1, if_pos (show (if dfr (w 3) (w (39 + 162 * f + 16 * r + c)) (w (39 + 162 * f + 16 * r + (c - 1))) = true then (1 : Int32) else 0) = 1 by rw [if_pos (dfr_t.2 (Or.inl c1))])]
    · rw [if_neg c1]
      by_cases c2 : -(w (39 + 162 * f + 16 * r + c) - w (39 + 162 * f + 16 * r + (c - 1))) < w 3
      · have hd : ¬ dfr (w 3) (w (39 + 162 * f + 16 * r + c)) (w (39 + 162 * f + 16 * r + (c - 1))) = true := fun z => (dfr_t.1 z).elim c1 (fun y => Int32.not_le.mpr c2 y)
        rw [if_pos c2, if_pos (show (if dfr (w 3) (w (39 + 162 * f + 16 * r + c)) (w (39 + 162 * f + 16 * r + (c - 1))) = true then (1 : Int32) else 0) = 0 by rw [if_neg hd])]
      · rw [if_neg c2, if_pos (show (if dfr (w 3) (w (39 + 162 * f + 16 * r + c)) (w (39 + 162 * f + 16 * r + (c - 1))) = true then (1 : Int32) else 0) = 1 by rw [if_pos (dfr_t.2 (Or.inr (Int32.not_lt.mp c2)))])]
  · unfold f_L_frameHolds_B175
    rw [if_pos (Int32.le_refl _)]
theorem fbm_lt (k : Kc S w st h) (f : Nat) : fbo w f &&& (1 <<< Rw w - 1) < 1 <<< Rw w := by
  have := (pow2_R k).2
  have h1 : fbo w f &&& (1 <<< Rw w - 1) ≤ 1 <<< Rw w - 1 := Nat.and_le_right
  omega
theorem l_frameR (k : Kc S w st h) {f : Nat} (hf : f < fcw w) (kx : Int32 → Int32 → Option (Int32 × St)) : wl3 (f_L_frameHolds_B70 S 4 (nI f) (nI (Rw w)) (nI (Cw w)) (w 3) (nI (fbo w f &&& (1 <<< Rw w - 1))) kx) FU 0 1 0 = kx (nI (ecs w (Cw w) f (fbo w f) (Rw w))) 1 := by
  have hs := k.cs
  have hC := k.rn.2.2.2.1
  have hR := k.rn.2.2.1
  obtain ⟨g1, g2, g4, g3, g5⟩ := k_fb k hf
  have hm := fbm_lt k f
  have hr2 := pow2_R k
  have hc2 := pow2_C k
  obtain ⟨a, b, ⟨e1, e2⟩, q⟩ := wl3_inv (F := f_L_frameHolds_B70 S 4 (nI f) (nI (Rw w)) (nI (Cw w)) (w 3) (nI (fbo w f &&& (1 <<< Rw w - 1))) kx) (kx := kx) (n := Rw w) (fun r a b => a = nI (ecs w (Cw w) f (fbo w f) r) ∧ b = 1) (fun r a b kk hr hP => by
    obtain ⟨rfl, rfl⟩ := hP
    refine ⟨_, 1, ⟨rfl, rfl⟩, ?_⟩
    have hlt := edr_lt w f r
    have ea : nI r + 1 = nI (r + 1) := by rw [L1, q_add]
    have es : nI (Cw w) - 1 = nI (Cw w - 1) := by rw [L1, q_sub (by omega)]
    unfold f_L_frameHolds_B70
    simp only [ea, es]
    rw [if_neg (by rw [q_le (by omega) (by omega)]; omega), if_neg (by decide), ck7 hs]
    have hh : f_L_has (nI (fbo w f &&& (1 <<< Rw w - 1))) (nI r) = some (if (fbo w f).testBit r = true then 1 else 0) := by
      rw [e_Lhas (by omega) (by omega), g3 r hr]
    have hsum : ecs w (Cw w) f (fbo w f) (r + 1) = ecs w (Cw w) f (fbo w f) r + pc (edf w (Cw w) f r (fbo w f)) 17 := rfl
    by_cases hb : (fbo w f).testBit r = true
    · have p0 : f_X7_pixel S 4 (nI f) (nI r) 0 = some (-10000004) := k_pixelNo k hf hr (c := 0) (by omega) hb
      have p1 := k_pixelNo k hf hr (c := Cw w - 1) (by omega) hb
      have hz : edf w (Cw w) f r (fbo w f) = 0 := by
        unfold edf
        rw [if_pos hb]
      have hpz : pc 0 17 = 0 := by decide
      rw [k_edgesNo k hf hr hb, bnd_s, hh, bnd_s, if_pos hb, if_neg (by decide), if_pos rfl, ck7 hs, p0, bnd_s, if_pos rfl, ck7 hs, p1, bnd_s, if_pos rfl, hsum, hz, hpz]
      rfl
    · have hb' : (fbo w f).testBit r = false := by simpa using hb
      have he : f_X7_edges S 4 (nI f) (nI r) = some (nI (edr w f r)) := k_edges k hf hr hb'
      have hsh : (1 : Int32) <<< (nI (Cw w) &&& 31) = nI (1 <<< Cw w) := q_shl 1 (by omega)
      have h01 : (nI (edr w f r) &&& 1) = 0 := by rw [L1, q_and, edr_0]; rfl
      rw [he, bnd_s, hh, bnd_s, if_neg hb, if_pos rfl, if_neg (show ¬ nI (edr w f r) < 0 by rw [L0, q_lt (by omega) (by omega)]; omega), hsh, if_neg (show ¬ nI (1 <<< Cw w) ≤ nI (edr w f r) by rw [q_le (by omega) (by omega)]; omega), if_pos h01]
      unfold f_L_frameHolds_J170
      rw [l_frameB k hf hr hb']
      unfold f_L_frameHolds_J252
      rw [e_Lbits (by omega), bnd_s, q_add, hsum, edr_edf hb', ea]) (fun a b kk hP => by
    unfold f_L_frameHolds_B70
    rw [if_pos (Int32.le_refl _)]) (Rw w) 0 FU 0 1 (by omega) (by show Rw w < 1000000; omega) ⟨rfl, rfl⟩
  rw [show nI 0 = (0 : Int32) from rfl] at q
  rw [q, e1, e2]
theorem fitD_and (k : Kc S w st h) {f : Nat} : mk (fitD w (tcw w) (Cw w) f (fbo w f)) (Rw w) &&& (fbo w f &&& (1 <<< Rw w - 1)) = 0 := by
  apply Nat.eq_of_testBit_eq
  intro i
  rw [Nat.testBit_and, mk_bit, Nat.testBit_and, Nat.zero_testBit]
  unfold fitD
  cases (fbo w f).testBit i <;> simp
theorem l_frame (k : Kc S w st h) {f : Nat} (hf : f < fcw w) (hT : ¬ w 33 < w (37 + 162 * f)) : ∃ S2, f_L_frameHolds S 4 (nI f) = some (1, S2) ∧ Kc S2 w st h := by
  have hs := k.cs
  have hR := k.rn.2.2.1
  have hm := fbm_lt k f
  have hr2 := pow2_R k
  obtain ⟨S2, g1, k2⟩ := k_fitting k hf
  refine ⟨S2, ?_, k2⟩
  have hsh : (1 : Int32) <<< (nI (Rw w) &&& 31) = nI (1 <<< Rw w) := q_shl 1 (by omega)
  unfold f_L_frameHolds
  rw [ck7 hs, k_count10 k, bnd_s, ck7 hs, k_count11 k, bnd_s, ck7 hs, k_count13 k, bnd_s, ck7 hs, k_frame1 k hf, bnd_s, if_neg (show ¬ nI (fbo w f &&& (1 <<< Rw w - 1)) < 0 by rw [L0, q_lt (by omega) (by omega)]; omega), hsh, if_neg (show ¬ nI (1 <<< Rw w) ≤ nI (fbo w f &&& (1 <<< Rw w - 1)) by rw [q_le (by omega) (by omega)]; omega), ck7 hs, k_frame0 k hf, bnd_s, ck7 hs, k_count2 k, bnd_s, if_neg hT]
  unfold f_L_frameHolds_J65
  rw [l_frameR k hf]
  unfold f_L_frameHolds_J268
  rw [if_neg (by decide), ck7 hs, k_frame2 k hf, bnd_s, if_pos rfl, ck7 hs, g1, bnd2_s, if_pos (show nI (mk (fitD w (tcw w) (Cw w) f (fbo w f)) (Rw w)) &&& nI (fbo w f &&& (1 <<< Rw w - 1)) = 0 by rw [q_and, fitD_and k]; rfl)]
end KC
