theorem frame_time {N : Nat} {w : Wf} {tc fc tm f r : Nat} (h : OKn N w tc fc tm) (hf : f < fc) (hr : r < 10) : ∃ n : Nat, fv1 w f 0 + nI r * w 2 = nI n ∧ n ≤ 30000 := by
  obtain ⟨a, e1, -, l1⟩ := h.2.2.2.2.2.1 f hf
  obtain ⟨d, e2, -, l2⟩ := h.2.2.2.1.1
  have : r * d ≤ 9 * 9 := Nat.mul_le_mul (by omega) l2
  refine ⟨a + r * d, ?_, by omega⟩
  unfold fv1
  rw [Nat.add_zero, e1, e2, q_mul, q_add]
theorem OKn.raw {N : Nat} {w : Wf} {tc fc tm : Nat} (h : OKn N w tc fc tm) (r c : Nat) (t : Int32) : Rg (raw w r c t tc) 0 255 := raw_rg h.2.2.2.1.2.2.1 (fun q hq => by
  obtain ⟨a, b, wd, br, P, V, h1, h2, h3, h4, h5, h6⟩ := h.2.2.2.2.1 q hq
  exact ⟨br, h6.1, by omega, h6.2⟩)
theorem no_m1 {tc : Nat} (h4 : tc ≤ 4) : ∀ q, q < tc → nI q ≠ (-1 : Int32) := fun q hq e => by
  have := congrArg Int32.toInt e
  rw [q_int (by omega)] at this
  have e2 : (-1 : Int32).toInt = -1 := by decide
  omega
theorem c_rowFits {N : Nat} {S : St} (hs : CSh S) {tc fc bl R C tm f r fb : Nat} {w : Wf} (hn : RN S 5 w tc fc bl R C) (hok : OKn N w tc fc tm) (hf : f < fc) (hr : r < R) (hfb : fv1 w f 1 = nI fb) (hb : fb < 1024) (hbit : fb.testBit r = false) : ∃ S', f_X7_rowFits S 4 (S.2.1 (5 + 3) f) (nI r) (if dkb w (fv1 w f 0 + nI r * w 2) = true then w 7 else 100) = some ((if fit1 w w tc C f r (fv1 w f 0 + nI r * w 2) = true then 1 else 0), S') ∧ Ex (fun x _ => x = 43) S S' := by
  have hR := hn.2.2.1
  have hC := hn.2.2.2.1
  have f5 := hn.2.2.2.2.2.2.2.1.2.2
  have h4 := hn.1.2.1
  have hF := ((hs.sc sc5).2.2.2.1 f (by omega)).fr hs sc5
  obtain ⟨y1, fb', y2, y3, y4, y5⟩ := hn.2.2.2.2.2.2.2.2.1 f hf
  have hfb' : fb' = fb := by
    rw [← q_eq (by omega) (by omega), ← y3, ← hfb]
    unfold fv1
    rw [show 37 + 162 * f + 1 = 38 + 162 * f by omega]
  subst hfb'
  obtain ⟨n, en, ln⟩ := frame_time hok hf (show r < 10 by omega)
  have y1' : S.1 (S.2.1 (5 + 3) f) 0 = fv1 w f 0 := y1
  obtain ⟨S1, p1, p2, p3⟩ := e_paint hs (m := 0) (x := -1) (t := fv1 w f 0 + nI r * w 2) sc5 (a := 43) (Or.inr (Or.inr rfl)) (show r < 10 by omega) hn.1 (fun q hq _ => by rw [en]; exact hok.bt (by omega) q hq) (by omega)
  have p1' : f_X3_paint S 5 (nI r) (fv1 w f 0 + nI r * w 2) (-1) 0 43 = some S1 := p1
  have s1 := hs.ex p2
  have hF1 := hF.ex p2
  have e0 : S.2.1 4 0 = 5 := hs.2.1.1
  have e7 : S.2.1 4 7 = 43 := hs.2.1.2.2.2.2.2.2
  have e0' : S1.2.1 4 0 = 5 := s1.2.1.1
  have e7' : S1.2.1 4 7 = 43 := s1.2.1.2.2.2.2.2.2
  have hw1 := hn.1.ex p2 (fun d hd => by omega)
  refine ⟨S1, ?_, p2⟩
  unfold f_X7_rowFits
  rw [ck7 hs, ck7 hs, e0, e7, ck5 hs, e_timeOfRow hs sc5 hn.1 hF, bnd_s, y1', ck7 hs, ck5 hs, p1', bnd_s]
  refine (wl1_all (P := fun c => decide (fv1 w f (2 + 16 * r + c) = sh w tc r c (fv1 w f 0 + nI r * w 2))) (n := C) (rt := some (1, S1)) (rf := some (0, S1)) (fun c k hc => ?_) (fun k => ?_) C 0 FU (by omega) (by show C < 1000000; omega)).trans ?_
  · unfold f_X7_rowFits_B26
    have epx : S1.1 (S.2.1 (5 + 3) f + 1) (16 * r + c) = fv1 w f (2 + 16 * r + c) := by
      have hg := ((hs.sc sc5).2.2.2.1 f (by omega)).rg
      rw [p2.2 _ _ (by omega), y5 r hr hbit c hc]
      unfold fv1
      rw [show 37 + 162 * f + (2 + 16 * r + c) = 39 + 162 * f + 16 * r + c by omega]
    rw [ck7 s1, e0', ck5 s1, L1, c_setting s1 sc5 (by omega), bnd_s, hw1.1 1 (by omega), if_neg (by rw [hC.1, q_le (by omega) (by omega)]; omega), ck_t (okS s1.n hF1.1 hF1.2.2.1), c_pixelAt s1.n hF1 (by omega) (by omega), bnd_s, ck7 s1, e7', c_numberIn s1.n (n := 16) rfl (by decide) rfl (by omega) (by omega), bnd_s, if_pos (by omega), e_dimmed, bnd_s, p3 c (by omega), rawx_raw (no_m1 h4), sh_dim (hok.raw r c _), epx, q_add]
    by_cases c1 : fv1 w f (2 + 16 * r + c) = sh w tc r c (fv1 w f 0 + nI r * w 2)
    · rw [if_pos c1, if_pos (by rw [decide_eq_true_eq]; exact c1)]
    · rw [if_neg c1, if_neg (by rw [decide_eq_true_eq]; exact c1)]
  · unfold f_X7_rowFits_B26
    rw [ck7 s1, e0', ck5 s1, L1, c_setting s1 sc5 (by omega), bnd_s, hw1.1 1 (by omega), if_pos (by rw [hC.1]; exact Int32.le_refl _)]
  · unfold fit1
    by_cases c : allF (fun c => decide (fv1 w f (2 + 16 * r + c) = sh w tc r c (fv1 w f 0 + nI r * w 2))) 0 C = true
    · rw [if_pos c, if_pos c]
    · rw [if_neg c, if_neg c]

