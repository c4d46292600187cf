section KC
variable {S : St} {w : Wf} {st : Nat} {h : Nat → Wf}
/-! rowOf, frameOf, pixel, edges, shows -/
theorem k_rowOf (k : Kc S w st h) {r : Nat} (hr : r < 10) : f_X7_rowOf S 4 (nI r) 0 = some (if (blw w).testBit r = true then 1 else 0) := by
  have hs := k.cs
  have hn := k.rn
  have e0 : S.2.1 4 0 = 5 := hs.2.1.1
  have hbl := hn.2.2.2.2.2.1
  have ha : (0 : Int32) ≤ nI r ∧ nI r ≤ 9 := by
    rw [L0, L9, q_le (by omega) (by omega), q_le (by omega) (by omega)]
    omega
  unfold f_X7_rowOf
  rw [e_within, if_pos ha, bnd_s, if_neg (by decide), e_within, if_pos (by decide), bnd_s, if_neg (by decide), if_pos rfl, ck7 hs, e0, ck5 hs, hbl.1, e_holds (by omega) (by omega), bnd_s]
  by_cases z : (blw w).testBit r = true
  · rw [if_pos z, if_neg (by decide)]
  · rw [if_neg z, if_pos rfl]
/-- the rows that were blinded in the f-th frame -/
theorem k_fb (k : Kc S w st h) {f : Nat} (hf : f < fcw w) : fbo w f < 1024 ∧ fv1 w f 1 = nI (fbo w f) ∧ S.1 (S.2.1 (5 + 3) f) 1 = nI (fbo w f &&& (1 <<< Rw w - 1)) ∧ (∀ r, r < Rw w → (fbo w f &&& (1 <<< Rw w - 1)).testBit r = (fbo w f).testBit r) ∧ ∀ r, r < Rw w → (fbo w f).testBit r = false → ∀ c, c < Cw w → S.1 (S.2.1 (5 + 3) f + 1) (16 * r + c) = w (39 + 162 * f + 16 * r + c) := by
  have hs := k.cs
  have hn := k.rn
  have hR := hn.2.2.1
  obtain ⟨y1, fb, y2, y3, y4, y5⟩ := hn.2.2.2.2.2.2.2.2.1 f hf
  have g2 : fv1 w f 1 = nI fb := by
    unfold fv1
    rw [show 37 + 162 * f + 1 = 38 + 162 * f by omega]
    exact y3
  have e : fbo w f = fb := by
    unfold fbo
    rw [g2, q_cl (by omega)]
  rw [e]
  refine ⟨y2, g2, y4, fun r hr => ?_, y5⟩
  rw [Nat.testBit_and, Nat.one_shiftLeft, Nat.testBit_two_pow_sub_one]
  simp [hr]
theorem k_frame0 (k : Kc S w st h) {f : Nat} (hf : f < fcw w) : f_X7_frameOf S 4 (nI f) 0 = some (w (37 + 162 * f)) := by
  have hs := k.cs
  have hn := k.rn
  have e0 : S.2.1 4 0 = 5 := hs.2.1.1
  obtain ⟨f4, w36, f5⟩ := hn.2.2.2.2.2.2.2.1
  have hF := ((hs.sc sc5).2.2.2.1 f (by omega)).fr hs sc5
  have hFb := ((hs.sc sc5).2.2.2.1 f (by omega)).rg
  obtain ⟨y1, -⟩ := hn.2.2.2.2.2.2.2.2.1 f hf
  unfold f_X7_frameOf
  rw [ck7 hs, e0, ck5 hs, c_frameAt_t hs sc5 f4 f5 hf, bnd_s, if_neg (by omega), e_within, if_pos (by decide), bnd_s, if_neg (by decide), if_pos rfl, ck_t (okS hs.n hF.1 hF.2.2.1)]
  exact congrArg some y1
theorem k_frame1 (k : Kc S w st h) {f : Nat} (hf : f < fcw w) : f_X7_frameOf S 4 (nI f) 1 = some (nI (fbo w f &&& (1 <<< Rw w - 1))) := by
  have hs := k.cs
  have hn := k.rn
  have e0 : S.2.1 4 0 = 5 := hs.2.1.1
  obtain ⟨f4, w36, f5⟩ := hn.2.2.2.2.2.2.2.1
  have hF := ((hs.sc sc5).2.2.2.1 f (by omega)).fr hs sc5
  have hFb := ((hs.sc sc5).2.2.2.1 f (by omega)).rg
  unfold f_X7_frameOf
  rw [ck7 hs, e0, ck5 hs, c_frameAt_t hs sc5 f4 f5 hf, bnd_s, if_neg (by omega), e_within, if_pos (by decide), bnd_s, if_neg (by decide), if_neg (by decide), if_pos rfl, ck_t (okS hs.n hF.1 hF.2.2.1)]
  exact congrArg some (k_fb k hf).2.2.1
theorem k_frame2 (k : Kc S w st h) {f : Nat} (hf : f < fcw w) : f_X7_frameOf S 4 (nI f) 2 = some (nI (ecs w (Cw w) f (fbo w f) (Rw w))) := by
  have hs := k.cs
  have hn := k.rn
  have hok := k.ok
  have e0 : S.2.1 4 0 = 5 := hs.2.1.1
  obtain ⟨f4, w36, f5⟩ := hn.2.2.2.2.2.2.2.1
  have hF := ((hs.sc sc5).2.2.2.1 f (by omega)).fr hs sc5
  have hFb := ((hs.sc sc5).2.2.2.1 f (by omega)).rg
  obtain ⟨y2, g2, -⟩ := k_fb k hf
  have hR := hn.2.2.1
  have hC := hn.2.2.2.1
  have hle := ecs_le w (Cw w) f (fbo w f)
  unfold f_X7_frameOf
  rw [ck7 hs, e0, ck5 hs, c_frameAt_t hs sc5 f4 f5 hf, bnd_s, if_neg (by omega), e_within, if_pos (by decide), bnd_s, if_neg (by decide), if_neg (by decide), if_neg (by decide), ck7 hs]
  have hL : f_X7_edgeCountOf S 4 (S.2.1 (5 + 3) f) = some (nI (ecs w (Cw w) f (fbo w f) (Rw w))) := by
    unfold f_X7_edgeCountOf
    refine wl2_eq (kx := fun y => some y) (n := Rw w) (fun r => nI (ecs w (Cw w) f (fbo w f) r)) 0 rfl rfl (by omega) (by omega) (fun r kk _ hr => ?_) (fun kk => ?_)
    · unfold f_X7_edgeCountOf_B4
      obtain ⟨fb', g1', g2', g3', g4', g5'⟩ := c_edges hs sc5 hn hok.2.2.2.1.2.1 hf hr
      have hfb : fb' = fbo w f := by
        rw [← q_eq (by omega) (by omega), ← g2', ← g2]
      subst hfb
      have hem := edf_em (w := w) (f := f) (r := r) (fb := fbo w f) hC.2.2
      have := hle r
      rw [ck7 hs, e0, ck5 hs, L0, c_setting hs sc5 (by omega), bnd_s, hn.1.1 0 (by omega), hR.1, if_neg (by rw [q_le (by omega) (by omega)]; omega), ck7 hs, ck5 hs, g5', bnd_s, e_bitCount hem.1, bnd_s, L1, q_add, q_add]
      rfl
    · unfold f_X7_edgeCountOf_B4
      rw [ck7 hs, e0, ck5 hs, L0, c_setting hs sc5 (by omega), bnd_s, hn.1.1 0 (by omega), hR.1, if_pos (Int32.le_refl _)]
  rw [hL, bnd_s]
theorem k_frame5 (k : Kc S w st h) : f_X7_frameOf S 4 5 0 = some (-10000001) := by
  have hs := k.cs
  have hn := k.rn
  have e0 : S.2.1 4 0 = 5 := hs.2.1.1
  obtain ⟨f4, w36, f5⟩ := hn.2.2.2.2.2.2.2.1
  have hx : ¬ ((0 : Int32) ≤ 5 ∧ 5 ≤ nI (fcw w) - 1) := by
    rintro ⟨-, z⟩
    rw [iI_nat, show (1 : Int32) = iI 1 from rfl, iI_sub, Int32.le_iff_toInt_le, iI_int (by omega) (by omega), show (5 : Int32).toInt = 5 from rfl] at z
    omega
  unfold f_X7_frameOf
  rw [ck7 hs, e0, ck5 hs, c_frameAt_f hs sc5 f4 5 hx f5, bnd_s, if_pos rfl]
theorem k_place (k : Kc S w st h) {r c : Nat} (hr : r < Rw w) (hc : c < Cw w) : f_X7_isPlace S 4 (nI r) (nI c) = some 1 := by
  have hn := k.rn
  have hR := hn.2.2.1
  have hC := hn.2.2.2.1
  rw [c_isPlace k.cs hn, if_pos]
  rw [L1, L0, q_sub (by omega), q_sub (by omega), q_le (by omega) (by omega), q_le (by omega) (by omega), q_le (by omega) (by omega), q_le (by omega) (by omega)]
  omega
theorem k_pixelNo (k : Kc S w st h) {f r c : Nat} (hf : f < fcw w) (hr : r < Rw w) (hc : c < Cw w) (hb : (fbo w f).testBit r = true) : f_X7_pixel S 4 (nI f) (nI r) (nI c) = some (-10000004) := by
  have hs := k.cs
  have hn := k.rn
  have e0 : S.2.1 4 0 = 5 := hs.2.1.1
  obtain ⟨f4, w36, f5⟩ := hn.2.2.2.2.2.2.2.1
  have hF := ((hs.sc sc5).2.2.2.1 f (by omega)).fr hs sc5
  have hFb := ((hs.sc sc5).2.2.2.1 f (by omega)).rg
  have hR := hn.2.2.1
  obtain ⟨g1, g2, g4, g3, g5⟩ := k_fb k hf
  have hm : fbo w f &&& (1 <<< Rw w - 1) < 1024 := Nat.lt_of_le_of_lt Nat.and_le_left g1
  unfold f_X7_pixel
  rw [ck7 hs, e0, ck5 hs, c_frameAt_t hs sc5 f4 f5 hf, bnd_s, if_neg (by omega), ck7 hs, k_place k hr hc, bnd_s, if_neg (by decide), ck_t (okS hs.n hF.1 hF.2.2.1), g4, e_holds (by omega) (by omega), g3 r hr, bnd_s, if_pos hb, if_neg (by decide)]
theorem k_pixel (k : Kc S w st h) {f r c : Nat} (hf : f < fcw w) (hr : r < Rw w) (hc : c < Cw w) (hb : (fbo w f).testBit r = false) : f_X7_pixel S 4 (nI f) (nI r) (nI c) = some (w (39 + 162 * f + 16 * r + c)) := by
  have hs := k.cs
  have hn := k.rn
  have e0 : S.2.1 4 0 = 5 := hs.2.1.1
  obtain ⟨f4, w36, f5⟩ := hn.2.2.2.2.2.2.2.1
  have hF := ((hs.sc sc5).2.2.2.1 f (by omega)).fr hs sc5
  have hFb := ((hs.sc sc5).2.2.2.1 f (by omega)).rg
  have hR := hn.2.2.1
  have hC := hn.2.2.2.1
  obtain ⟨g1, g2, g4, g3, g5⟩ := k_fb k hf
  have hm : fbo w f &&& (1 <<< Rw w - 1) < 1024 := Nat.lt_of_le_of_lt Nat.and_le_left g1
  unfold f_X7_pixel
  rw [ck7 hs, e0, ck5 hs, c_frameAt_t hs sc5 f4 f5 hf, bnd_s, if_neg (by omega), ck7 hs, k_place k hr hc, bnd_s, if_neg (by decide), ck_t (okS hs.n hF.1 hF.2.2.1), g4, e_holds (by omega) (by omega), g3 r hr, bnd_s, if_neg (show ¬ (fbo w f).testBit r = true by rw [hb]; decide), if_pos rfl, ck_t (okS hs.n hF.1 hF.2.2.1), c_pixelAt hs.n hF (by omega) (by omega), bnd_s, g5 r hr hb c hc]
theorem k_edgesNo (k : Kc S w st h) {f r : Nat} (hf : f < fcw w) (hr : r < Rw w) (hb : (fbo w f).testBit r = true) : f_X7_edges S 4 (nI f) (nI r) = some (-10000004) := by
  have hs := k.cs
  have hn := k.rn
  have e0 : S.2.1 4 0 = 5 := hs.2.1.1
  obtain ⟨f4, w36, f5⟩ := hn.2.2.2.2.2.2.2.1
  have hF := ((hs.sc sc5).2.2.2.1 f (by omega)).fr hs sc5
  have hFb := ((hs.sc sc5).2.2.2.1 f (by omega)).rg
  have hR := hn.2.2.1
  have hC := hn.2.2.2.1
  obtain ⟨g1, g2, g4, g3, g5⟩ := k_fb k hf
  have hm : fbo w f &&& (1 <<< Rw w - 1) < 1024 := Nat.lt_of_le_of_lt Nat.and_le_left g1
  have hp : f_X7_isPlace S 4 (nI r) 0 = some 1 := k_place k hr (c := 0) (by omega)
  unfold f_X7_edges
  rw [ck7 hs, e0, ck5 hs, c_frameAt_t hs sc5 f4 f5 hf, bnd_s, if_neg (by omega), ck7 hs, hp, bnd_s, if_neg (by decide), ck_t (okS hs.n hF.1 hF.2.2.1), g4, e_holds (by omega) (by omega), g3 r hr, bnd_s, if_pos hb, if_neg (by decide)]
theorem k_edges (k : Kc S w st h) {f r : Nat} (hf : f < fcw w) (hr : r < Rw w) (hb : (fbo w f).testBit r = false) : f_X7_edges S 4 (nI f) (nI r) = some (nI (edm (w 3) (Cw w) (fun c => w (39 + 162 * f + 16 * r + c)))) := by
  have hs := k.cs
  have hn := k.rn
  have hok := k.ok
  have e0 : S.2.1 4 0 = 5 := hs.2.1.1
  obtain ⟨f4, w36, f5⟩ := hn.2.2.2.2.2.2.2.1
  have hF := ((hs.sc sc5).2.2.2.1 f (by omega)).fr hs sc5
  have hFb := ((hs.sc sc5).2.2.2.1 f (by omega)).rg
  have hR := hn.2.2.1
  have hC := hn.2.2.2.1
  obtain ⟨g1, g2, g4, g3, g5⟩ := k_fb k hf
  have hm : fbo w f &&& (1 <<< Rw w - 1) < 1024 := Nat.lt_of_le_of_lt Nat.and_le_left g1
  have hp : f_X7_isPlace S 4 (nI r) 0 = some 1 := k_place k hr (c := 0) (by omega)
  obtain ⟨fb', g1', g2', g3', g4', g5'⟩ := c_edges hs sc5 hn hok.2.2.2.1.2.1 hf hr
  have hfb : fb' = fbo w f := by
    rw [← q_eq (by omega) (by omega), ← g2', ← g2]
  subst hfb
  have ee : edf w (Cw w) f r (fbo w f) = edm (w 3) (Cw w) (fun c => w (39 + 162 * f + 16 * r + c)) := by
    unfold edf
    rw [if_neg (by rw [hb]; decide)]
    congr 1
    funext c
    unfold fv1
    congr 1
    omega
  unfold f_X7_edges
  rw [ck7 hs, e0, ck5 hs, c_frameAt_t hs sc5 f4 f5 hf, bnd_s, if_neg (by omega), ck7 hs, hp, bnd_s, if_neg (by decide), ck_t (okS hs.n hF.1 hF.2.2.1), g4, e_holds (by omega) (by omega), g3 r hr, bnd_s, if_neg (show ¬ (fbo w f).testBit r = true by rw [hb]; decide), if_pos rfl, ck7 hs, ck5 hs, g5', bnd_s, ee]
theorem k_shows (k : Kc S w st h) {r c n : Nat} (hr : r < Rw w) (hc : c < Cw w) (hn2 : n ≤ 20000) : ∃ S1, f_X7_shows S 4 (nI r) (nI c) (nI n) = some (sh w (tcw w) r c (nI n), S1) ∧ Kc S1 w st h := by
  have hs := k.cs
  have hn := k.rn
  have hok := k.ok
  have e0 : S.2.1 4 0 = 5 := hs.2.1.1
  have e7 : S.2.1 4 7 = 43 := hs.2.1.2.2.2.2.2.2
  have hR := hn.2.2.1
  have hC := hn.2.2.2.1
  have ht : (0 : Int32) ≤ nI n ∧ nI n ≤ 20000 := by
    rw [L0, L20000, q_le (by omega) (by omega), q_le (by omega) (by omega)]
    omega
  obtain ⟨S1, p1, p2, p3⟩ := e_paint hs (m := 0) (x := -1) (t := nI n) sc5 (a := 43) (Or.inr (Or.inr rfl)) (show r < 10 by omega) hn.1 (fun q hq _ => hok.bt (by omega) q hq) (by omega)
  have s1 := hs.ex p2
  have hne : ∀ d, d ≤ 19 → 5 + d ≠ 43 := fun d hd => by omega
  have hw1 := hn.1.ex p2 hne
  have e0' : S1.2.1 4 0 = 5 := s1.2.1.1
  have e7' : S1.2.1 4 7 = 43 := s1.2.1.2.2.2.2.2.2
  have hrg : Rg (raw w r c (nI n) (tcw w)) 0 255 := raw_rg hok.2.2.2.1.2.2.1 (fun q hq => by
    obtain ⟨a, b, wd, br, P, V, h1, h2, h3, h4, h5, h6⟩ := hok.2.2.2.2.1 q hq
    exact ⟨br, h6.1, by omega, h6.2⟩)
  have hx : ∀ q, q < tcw w → nI q ≠ (-1 : Int32) := fun q hq e => by
    have := congrArg Int32.toInt e
    rw [q_int (by have := hn.1.2.1; omega)] at this
    have e2 : (-1 : Int32).toInt = -1 := by decide
    omega
  have hcc := p2.sc (fun x j q => by unfold SC; omega)
  refine ⟨S1, ?_, k.scr hcc (fun x q => q) p2.r⟩
  unfold f_X7_shows
  have p1' : f_X3_paint S 5 (nI r) (nI n) (-1) 0 43 = some S1 := p1
  rw [ck7 hs, k_place k hr hc, bnd_s, if_neg (by decide), e_within, if_pos ht, bnd_s, if_neg (by decide), ck7 hs, ck7 hs, e0, e7, ck5 hs, p1', bnd_s, ck7 s1, e7', c_numberIn s1.n (n := 16) rfl (by decide) rfl (by omega) (by omega), bnd_s, if_pos (by omega), ck7 s1, e0', ck5 s1, e_percentAt s1 sc5 hw1, bnd_s, e_dimmed, bnd_s, p3 c (by omega), rawx_raw hx, sh_dim hrg]
theorem k_showsNo (k : Kc S w st h) : f_X7_shows S 4 0 0 20001 = some (-10000001, S) := by
  have hs := k.cs
  have hn := k.rn
  have hR := hn.2.2.1
  have hC := hn.2.2.2.1
  have hp : f_X7_isPlace S 4 0 0 = some 1 := k_place k (r := 0) (c := 0) (by omega) (by omega)
  unfold f_X7_shows
  rw [ck7 hs, hp, bnd_s, if_neg (by decide), e_within, if_neg (by decide), bnd_s, if_pos rfl]
end KC
