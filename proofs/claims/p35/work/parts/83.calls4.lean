section KC
variable {S : St} {w : Wf} {st : Nat} {h : Nat → Wf}
/-! fitting, periods, motions -/
theorem k_fitting (k : Kc S w st h) {f : Nat} (hf : f < fcw w) : ∃ S1, f_X7_fitting S 4 (nI f) = some (nI (mk (fitD w (tcw w) (Cw w) f (fbo w f)) (Rw w)), S1) ∧ Kc S1 w st h := by
  have hs := k.cs
  have hn := k.rn
  have hok := k.ok
  have e0 : ∀ S1 : St, CSh S1 → S1.2.1 4 0 = 5 := fun S1 q => q.2.1.1
  obtain ⟨f4, w36, f5⟩ := hn.2.2.2.2.2.2.2.1
  have hR := hn.2.2.1
  have hC := hn.2.2.2.1
  have hg := ((hs.sc sc5).2.2.2.1 f (by omega)).rg
  obtain ⟨g1, g2, g4, g3, g5⟩ := k_fb k hf
  obtain ⟨S1, x, ⟨p1, p2⟩, q⟩ := wl3_inv (F := f_X7_fitting_B21 4 (S.2.1 (5 + 3) f) (fun (S_9 : St) (y3_8 : Int32) => (some (y3_8, S_9)))) (kx := fun (S_9 : St) (y3_8 : Int32) => some (y3_8, S_9)) (n := Rw w) (fun i S' m => Ex (fun x _ => x = 43) S S' ∧ m = nI (mk (fitD w (tcw w) (Cw w) f (fbo w f)) i)) (fun i S1 m kk hi hP => by
    obtain ⟨p1, rfl⟩ := hP
    unfold f_X7_fitting_B21
    have s1 := hs.ex p1
    have hn1 : RN S1 5 w (tcw w) (fcw w) (blw w) (Rw w) (Cw w) := hn.ch hs sc5 (p1.ch (A := fun x => x = 43) (fun x j q => q)) (fun d hd => by omega)
    have hF1 := (((hs.sc sc5).2.2.2.1 f (by omega)).fr hs sc5).ex p1
    have y1 : S1.1 (S.2.1 (5 + 3) f) 0 = fv1 w f 0 := by rw [p1.2 _ _ (by omega)]; exact (hn.2.2.2.2.2.2.2.2.1 f hf).1
    have hm : fbo w f &&& (1 <<< Rw w - 1) < 1024 := Nat.lt_of_le_of_lt Nat.and_le_left g1
    have g4' : S1.1 (S.2.1 (5 + 3) f) 1 = nI (fbo w f &&& (1 <<< Rw w - 1)) := by rw [p1.2 _ _ (by omega)]; exact g4
    have hset : f_X3_setting S1 5 0 = some (S1.1 (5 + 1) 0) := c_setting s1 sc5 (j := 0) (by omega)
    rw [ck7 s1, e0 S1 s1, ck5 s1, hset, bnd_s, hn1.1.1 0 (by omega), if_neg (by rw [hR.1, q_le (by omega) (by omega)]; omega), ck7 s1, ck5 s1, e_timeOfRow s1 sc5 hn1.1 hF1, bnd_s, ck_t (okS s1.n hF1.1 hF1.2.2.1), g4', e_holds (by omega) (by omega), g3 i hi, bnd_s, y1]
    have ms : mk (fitD w (tcw w) (Cw w) f (fbo w f)) (i + 1) = mk (fitD w (tcw w) (Cw w) f (fbo w f)) i ||| (if fitD w (tcw w) (Cw w) f (fbo w f) i = true then 1 <<< i else 0) := rfl
    by_cases hb : (fbo w f).testBit i = true
    · rw [if_pos hb, if_neg (by decide), L1, q_add]
      refine ⟨S1, _, ⟨p1, rfl⟩, ?_⟩
      rw [ms, if_neg (by unfold fitD; rw [hb]; simp), Nat.or_zero]
    · have hb' : (fbo w f).testBit i = false := by simpa using hb
      obtain ⟨S2, k1, k2⟩ := c_rowFits s1 hn1 hok hf hi g2 g1 hb'
      rw [p1.r] at k1
      rw [if_neg hb, if_pos rfl, ck7 s1, ck5 s1, e_percentAt s1 sc5 hn1.1, bnd_s, ck7 s1, k1, bnd2_s, L1, q_add]
      refine ⟨S2, nI (mk (fitD w (tcw w) (Cw w) f (fbo w f)) (i + 1)), ⟨p1.tr k2, rfl⟩, ?_⟩
      rw [ms]
      by_cases c : fit1 w w (tcw w) (Cw w) f i (fv1 w f 0 + nI i * w 2) = true
      · rw [if_pos c, if_neg (by decide), if_pos (show fitD w (tcw w) (Cw w) f (fbo w f) i = true by unfold fitD; rw [hb', c]; rfl), q_shl 1 (by omega), q_or]
      · rw [if_neg c, if_pos rfl, if_neg (show ¬ fitD w (tcw w) (Cw w) f (fbo w f) i = true by unfold fitD; rw [hb']; simp [c]), Nat.or_zero]) (fun S1 m kk hP => by
    obtain ⟨p1, rfl⟩ := hP
    unfold f_X7_fitting_B21
    have s1 := hs.ex p1
    have hn1 : RN S1 5 w (tcw w) (fcw w) (blw w) (Rw w) (Cw w) := hn.ch hs sc5 (p1.ch (A := fun x => x = 43) (fun x j q => q)) (fun d hd => by omega)
    have hset : f_X3_setting S1 5 0 = some (S1.1 (5 + 1) 0) := c_setting s1 sc5 (j := 0) (by omega)
    rw [ck7 s1, e0 S1 s1, ck5 s1, hset, bnd_s, hn1.1.1 0 (by omega), if_pos (by rw [hR.1]; exact Int32.le_refl _)]) (Rw w) 0 FU S 0 (by omega) (by show Rw w < 1000000; omega) ⟨Ex.rf, rfl⟩
  rw [show nI 0 = (0 : Int32) from rfl] at q
  have hsc : Ch SC S S1 := p1.ch (fun x j q => by unfold SC; omega)
  refine ⟨S1, ?_, k.scr hsc (fun x q => q) p1.r⟩
  unfold f_X7_fitting
  rw [ck7 hs, e0 S hs, ck5 hs, c_frameAt_t hs sc5 f4 f5 hf, bnd_s, if_neg (by omega), q, p2]
theorem k_periods (k : Kc S w st h) : ∃ S1, f_X7_periods S 4 = some (nI (mk (fun p => allR (fun f => allR (rokp w (tcw w) (Cw w) f p) (Rw w)) (fcw w)) 21), S1) ∧ Kc S1 w st h := by
  obtain ⟨S1, k1, k2⟩ := l_periodsC k.cs k.rn k.ok (fun (S_5 : St) (y1_4 : Int32) => (some (y1_4, S_5)))
  exact ⟨S1, k1, k.scr (k2.sc (fun x j q => by unfold SC; omega)) (fun x q => q) k2.r⟩
/-- how the motions of the q-th thing fit -/
def mfit (w : Wf) (q : Nat) (i k : Nat) : Bool := afit w (wmot w q (zP i) (zV k)) (tcw w) (fcw w) (Rw w) (Cw w)
/-- what motions answers -/
def manw (s : R5) (n : Nat) : Int32 := if n = 0 then nI s.1 else if s.1 = 0 then -10000004 else if n = 1 then s.2.1 else if n = 2 then s.2.2.1 else if n = 3 then s.2.2.2.1 else s.2.2.2.2
theorem k_motions (k : Kc S w st h) {q n : Nat} (hq : q < tcw w) (hn4 : n ≤ 4) : ∃ S1, f_X7_motions S 4 (nI q) (nI n) = some (manw (rsO (mfit w q) 35) n, S1) ∧ Kc S1 w st h := by
  have hs := k.cs
  have hn := k.rn
  have hok := k.ok
  have t4 := hn.1.2.1
  have e0 : ∀ S1 : St, CSh S1 → S1.2.1 4 0 = 5 := fun S1 q => q.2.1.1
  have e5 : ∀ S1 : St, CSh S1 → S1.2.1 4 5 = 35 := fun S1 q => q.2.1.2.2.2.2.1
  have hb : (0 : Int32) ≤ nI n ∧ nI n ≤ 4 := by
    rw [L0, L4, q_le (by omega) (by omega), q_le (by omega) (by omega)]
    omega
  obtain ⟨wd, hwd, hw1⟩ : ∃ wd, w (9 + 6 * q + 4) = nI wd ∧ wd ≤ 1600 := by
    obtain ⟨a, b, wd, br, P, V, h1, h2, h3, h4, h5, h6⟩ := hok.2.2.2.2.1 q hq
    exact ⟨wd, h5.1, h5.2.2⟩
  obtain ⟨S1, k1, k2, k3⟩ := e_run hs hn hok hq hwd hw1
  have s1 := hs.ex k2
  have hsc : Ch SC S S1 := k2.sc (fun x j q => by unfold PR at q; unfold SC; omega)
  refine ⟨S1, ?_, k.scr hsc (fun x q => q) k2.r⟩
  have hle := rsO_le (mfit w q) 35
  have k3' : H5 S1 35 6 (rsO (mfit w q) 35) := k3
  generalize rsO (mfit w q) 35 = s at k3' hle
  have hz : ∀ c : Nat, c < 5 → (nI n = nI c ↔ n = c) := fun c hc => q_eq (by omega) (by omega)
  unfold f_X7_motions f_X1_isVain manw
  rw [ck7 hs, e0 S hs, ck5 hs, c_thingAt_t hs sc5 hn.1.2.2.1 t4 hq, bnd_s, if_neg (by omega), e_within, if_pos hb, bnd_s, if_neg (by decide), ck7 hs, ck7 hs, e5 S hs, ck35 hs, k1, bnd_s]
  have J : f_X7_motions_J54 S1 4 (nI n) = (if n = 0 then some (S1.1 35 6, S1) else if n = 1 then some (S1.1 35 7, S1) else if n = 2 then some (S1.1 35 8, S1) else if n = 3 then some (S1.1 35 9, S1) else some (S1.1 35 10, S1)) := by
    unfold f_X7_motions_J54 f_X1_answer
    rw [ck7 s1, e5 S1 s1, ck35 s1]
    by_cases c0 : n = 0
    · rw [if_pos (show nI n = 0 by rw [c0]; rfl), if_pos c0, ck35 s1, bnd_s]
    · rw [if_neg (show ¬ nI n = 0 from fun z => c0 ((hz 0 (by omega)).1 z)), if_neg c0]
      by_cases c1 : n = 1
      · rw [if_pos (show nI n = 1 by rw [c1]; rfl), if_pos c1, ck35 s1, bnd_s]
      · rw [if_neg (show ¬ nI n = 1 from fun z => c1 ((hz 1 (by omega)).1 z)), if_neg c1]
        by_cases c2 : n = 2
        · rw [if_pos (show nI n = 2 by rw [c2]; rfl), if_pos c2, ck35 s1, bnd_s]
        · rw [if_neg (show ¬ nI n = 2 from fun z => c2 ((hz 2 (by omega)).1 z)), if_neg c2]
          by_cases c3 : n = 3
          · rw [if_pos (show nI n = 3 by rw [c3]; rfl), if_pos c3, ck35 s1, bnd_s]
          · rw [if_neg (show ¬ nI n = 3 from fun z => c3 ((hz 3 (by omega)).1 z)), if_neg c3, ck35 s1, bnd_s]
  rw [J]
  by_cases c0 : n = 0
  · rw [if_pos (by rw [c0]; decide), if_pos c0, if_pos c0, k3'.1]
  · rw [if_neg (by rw [L0, q_le (by omega) (by omega)]; omega), ck7 s1, e5 S1 s1, ck35 s1, ck35 s1, k3'.1, if_neg c0, if_neg c0]
    by_cases cs : s.1 = 0
    · rw [if_pos (show nI s.1 = 0 by rw [cs]; rfl), bnd_s, if_neg (by decide), if_pos cs]
    · obtain ⟨g1, g2, g3, g4⟩ := k3'.2 cs
      rw [if_neg (show ¬ nI s.1 = 0 by rw [L0, q_eq (by omega) (by omega)]; exact cs), bnd_s, if_pos rfl, if_neg cs]
      rw [show S1.1 35 7 = s.2.1 from g1, show S1.1 35 8 = s.2.2.1 from g2, show S1.1 35 9 = s.2.2.2.1 from g3, show S1.1 35 10 = s.2.2.2.2 from g4]
      by_cases c1 : n = 1
      · rw [if_pos c1, if_pos c1]
      · rw [if_neg c1, if_neg c1]
        by_cases c2 : n = 2
        · rw [if_pos c2, if_pos c2]
        · rw [if_neg c2, if_neg c2]
          by_cases c3 : n = 3
          · rw [if_pos c3, if_pos c3]
          · rw [if_neg c3, if_neg c3]
end KC
