theorem rawx_bit {w : Wf} {x : Int32} {m m' r c : Nat} {t : Int32} (h : m.testBit c = m'.testBit c) : ∀ n, rawx w x m r c t n = rawx w x m' r c t n
  | 0 => rfl
  | n + 1 => by rw [rawx_s, rawx_s, rawx_bit h n, h]
/-- the row with another motion of a thing -/
def wmot (w : Wf) (q : Nat) (P V : Int) : Wf := fun j => if j = 9 + 6 * q + 2 then iI P else if j = 9 + 6 * q + 3 then iI V else w j
theorem wmot_o (w : Wf) (q : Nat) (P V : Int) {j : Nat} (h : j ≠ 9 + 6 * q + 2) (h2 : j ≠ 9 + 6 * q + 3) : wmot w q P V j = w j := by
  unfold wmot
  rw [if_neg h, if_neg h2]
theorem wmot_p (w : Wf) (q : Nat) (P V : Int) : wmot w q P V (9 + 6 * q + 2) = iI P := if_pos rfl
theorem wmot_v (w : Wf) (q : Nat) (P V : Int) : wmot w q P V (9 + 6 * q + 3) = iI V := by
  unfold wmot
  rw [if_neg (by omega), if_pos rfl]
theorem nI_ne {i q : Nat} (hi : i < 1000) (hq : q < 1000) (h : i ≠ q) : nI i ≠ nI q := by
  rw [Ne, q_eq (by omega) (by omega)]
  exact h
theorem raw_mot {w : Wf} {q m r c : Nat} {P V : Int} {t : Int32} (hq : q < 4) (hm : m.testBit c = (decide (pl (wmot w q P V) q t ≤ nI (100 * c + 50)) && decide (nI (100 * c + 50) < pl (wmot w q P V) q t + wmot w q P V (9 + 6 * q + 4)))) : ∀ n, n ≤ 4 → raw (wmot w q P V) r c t n = rawx w (nI q) m r c t n
  | 0, _ => wmot_o w q P V (by omega) (by omega)
  | i + 1, h => by
    have ih := raw_mot hq (r := r) hm i (by omega)
    rw [rawx_s]
    unfold raw
    rw [ih, wmot_o w q P V (j := 9 + 6 * i + 5) (by omega) (by omega)]
    unfold cvb
    rw [wmot_o w q P V (j := 9 + 6 * i) (by omega) (by omega), wmot_o w q P V (j := 9 + 6 * i + 1) (by omega) (by omega)]
    by_cases c1 : i = q
    · subst c1
      rw [if_pos rfl, hm]
    · have hne : ¬ nI i = nI q := nI_ne (by omega) (by omega) c1
      have e4 : wmot w q P V (9 + 6 * i + 4) = w (9 + 6 * i + 4) := wmot_o w q P V (by omega) (by omega)
      have ep : pl (wmot w q P V) i t = pl w i t := by
        unfold pl
        rw [wmot_o w q P V (j := 9 + 6 * i + 2) (by omega) (by omega), wmot_o w q P V (j := 9 + 6 * i + 3) (by omega) (by omega)]
      rw [if_neg hne, e4, ep]
/-- what a row of a frame asks of a thing: a time, the columns it must cover, those it must not -/
def dtm (w : Wf) (f r : Nat) : Int32 := fv1 w f 0 + nI r * w 2
def dpc (w : Wf) (t : Int32) : Int32 := if dkb w t = true then w 7 else 100
def dms (w : Wf) (q tc m f r c : Nat) : Bool := !decide (rawx w (nI q) m r c (dtm w f r) tc * dpc w (dtm w f r) / 100 = fv1 w f (2 + 16 * r + c))
def dem (w : Wf) (q tc C f r : Nat) : Nat × Nat × Nat := ((dtm w f r).toNatClampNeg, mk (dms w q tc 0 f r) C, mk (dms w q tc 65535 f r) C)
def dmt (P V : Int) (W : Nat) (d : Nat × Nat × Nat) : Bool := decide (ccm (P + V * (d.1 : Int)) W &&& d.2.2 = 0) && decide (mk (fun i => d.2.1.testBit i && !((ccm (P + V * (d.1 : Int)) W).testBit i)) 31 = 0)
theorem z_bits (a : Nat) : a = 0 ↔ ∀ i, a.testBit i = false := by
  constructor
  · intro h i
    rw [h, Nat.zero_testBit]
  · intro h
    apply Nat.eq_of_testBit_eq
    intro i
    rw [h i, Nat.zero_testBit]
theorem bit65535 : ∀ c, c < 16 → Nat.testBit 65535 c = true := by decide +kernel
theorem dmt_fit {N : Nat} {w : Wf} {tc fc tm q C f r wd : Nat} {P V : Int} (hok : OKn N w tc fc tm) (hq : q < tc) (hf : f < fc) (hr : r < 10) (hC : C ≤ 16) (hwd : w (9 + 6 * q + 4) = nI wd) (hw1 : wd ≤ 1600) (hP : -1000 ≤ P ∧ P ≤ 2400) (hV : -100 ≤ V ∧ V ≤ 100) : dmt P V wd (dem w q tc C f r) = fit1 w (wmot w q P V) tc C f r (dtm w f r) := by
  have h4 := hok.1.2
  obtain ⟨n, en, ln⟩ := frame_time hok hf hr
  have et : dtm w f r = nI n := en
  have ecl : (dtm w f r).toNatClampNeg = n := by rw [et, q_cl (by omega)]
  have hVn := Int.mul_le_mul_of_nonneg_right hV.1 (show (0 : Int) ≤ (n : Int) by omega)
  have hVn2 := Int.mul_le_mul_of_nonneg_right hV.2 (show (0 : Int) ≤ (n : Int) by omega)
  have epl : pl (wmot w q P V) q (dtm w f r) = iI (P + V * (n : Int)) := by
    unfold pl
    rw [wmot_p, wmot_v, et, iI_nat, iI_mul, iI_add]
  have e4 : wmot w q P V (9 + 6 * q + 4) = nI wd := by rw [wmot_o w q P V (by omega) (by omega)]; exact hwd
  have hB : B1 (wmot w q P V) q (dtm w f r) := by
    unfold B1
    rw [epl, e4, iI_int (by omega) (by omega), q_int (by omega)]
    omega
  have hbit : ∀ c, c < 16 → (ccm (P + V * (n : Int)) wd).testBit c = (decide (pl (wmot w q P V) q (dtm w f r) ≤ nI (100 * c + 50)) && decide (nI (100 * c + 50) < pl (wmot w q P V) q (dtm w f r) + wmot w q P V (9 + 6 * q + 4))) := fun c hc => by
    have := cov_bit hB hc
    rw [epl, e4, iI_int (by omega) (by omega), q_int (by omega)] at this
    rw [this, epl, e4]
  have hsh : ∀ c, c < 16 → sh (wmot w q P V) tc r c (dtm w f r) = rawx w (nI q) (if (ccm (P + V * (n : Int)) wd).testBit c = true then 65535 else 0) r c (dtm w f r) tc * dpc w (dtm w f r) / 100 := fun c hc => by
    have hm := raw_mot (by omega) (r := r) (hbit c hc) tc h4
    have hrg : Rg (raw (wmot w q P V) r c (dtm w f r) tc) 0 255 := raw_rg (by rw [wmot_o w q P V (by omega) (by omega)]; exact hok.2.2.2.1.2.2.1) (fun i hi => by
      obtain ⟨a, b, wd, br, P', V', h1, h2, h3, h4, h5, h6⟩ := hok.2.2.2.2.1 i hi
      rw [wmot_o w q P V (by omega) (by omega)]
      exact ⟨br, h6.1, by omega, h6.2⟩)
    have hd : dkb (wmot w q P V) (dtm w f r) = dkb w (dtm w f r) := by
      unfold dkb
      rw [wmot_o w q P V (j := 5) (by omega) (by omega), wmot_o w q P V (j := 6) (by omega) (by omega)]
    rw [← sh_dim hrg, hd, wmot_o w q P V (j := 7) (by omega) (by omega), hm]
    have e2 : rawx w (nI q) (ccm (P + V * (n : Int)) wd) r c (dtm w f r) tc = rawx w (nI q) (if (ccm (P + V * (n : Int)) wd).testBit c = true then 65535 else 0) r c (dtm w f r) tc := rawx_bit (by
      by_cases z : (ccm (P + V * (n : Int)) wd).testBit c = true
      · rw [if_pos z, z, bit65535 c hc]
      · rw [if_neg z, Nat.zero_testBit]
        simpa using z) tc
    rw [e2]
    rfl
  rw [Bool.eq_iff_iff]
  unfold dmt dem fit1
  simp only [ecl]
  rw [Bool.and_eq_true, decide_eq_true_eq, decide_eq_true_eq, allF_iff, z_bits, z_bits]
  constructor
  · rintro ⟨g1, g2⟩ c _ hc
    have hc' : c < C := by omega
    rw [decide_eq_true_eq, hsh c (by omega)]
    have a1 := g1 c
    have a2 := g2 c
    rw [Nat.testBit_and, mk_bit, decide_eq_true hc', Bool.true_and] at a1
    rw [mk_bit, mk_bit, decide_eq_true hc', decide_eq_true (show c < 31 by omega), Bool.true_and, Bool.true_and] at a2
    by_cases z : (ccm (P + V * (n : Int)) wd).testBit c = true
    · rw [if_pos z]
      rw [z, Bool.true_and] at a1
      unfold dms at a1
      simp only [Bool.not_eq_false', decide_eq_true_eq] at a1
      exact a1.symm
    · rw [if_neg z]
      have z' : (ccm (P + V * (n : Int)) wd).testBit c = false := by simpa using z
      rw [z', Bool.not_false, Bool.and_true] at a2
      unfold dms at a2
      simp only [Bool.not_eq_false', decide_eq_true_eq] at a2
      exact a2.symm
  · intro g
    have gc : ∀ c, c < C → rawx w (nI q) (if (ccm (P + V * (n : Int)) wd).testBit c = true then 65535 else 0) r c (dtm w f r) tc * dpc w (dtm w f r) / 100 = fv1 w f (2 + 16 * r + c) := fun c hc => by
      have := g c (by omega) (by omega)
      rw [decide_eq_true_eq, hsh c (by omega)] at this
      exact this.symm
    constructor
    · intro i
      rw [Nat.testBit_and, mk_bit]
      by_cases hi : i < C
      · by_cases z : (ccm (P + V * (n : Int)) wd).testBit i = true
        · have := gc i hi
          rw [if_pos z] at this
          have e : dms w q tc 65535 f r i = false := by
            unfold dms
            rw [decide_eq_true this]
            rfl
          rw [e, Bool.and_false, Bool.and_false]
        · have z' : (ccm (P + V * (n : Int)) wd).testBit i = false := by simpa using z
          rw [z', Bool.false_and]
      · rw [decide_eq_false hi, Bool.false_and, Bool.and_false]
    · intro i
      rw [mk_bit, mk_bit]
      by_cases hi : i < C
      · by_cases z : (ccm (P + V * (n : Int)) wd).testBit i = true
        · rw [z, Bool.not_true, Bool.and_false, Bool.and_false]
        · have := gc i hi
          rw [if_neg z] at this
          have e : dms w q tc 0 f r i = false := by
            unfold dms
            rw [decide_eq_true this]
            rfl
          rw [e, Bool.and_false, Bool.false_and, Bool.and_false]
      · rw [decide_eq_false hi, Bool.false_and, Bool.false_and, Bool.and_false]
/-- the class's list of demands -/
def HL (S : St) (L : List (Nat × Nat × Nat)) : Prop := S.1 35 3 = nI L.length ∧ ∀ (i : Nat) (d : Nat × Nat × Nat), L[i]? = some d → S.1 36 i = nI d.1 ∧ S.1 37 i = nI d.2.1 ∧ S.1 38 i = nI d.2.2 ∧ d.1 ≤ 30000 ∧ d.2.1 < 65536 ∧ d.2.2 < 65536
def PD : Nat → Nat → Prop := fun x j => (x = 35 ∧ j = 3) ∨ (36 ≤ x ∧ x ≤ 40)
theorem ar36 : Ar 36 50 := ⟨rfl, rfl, by decide, by decide, by decide⟩
theorem ar37 : Ar 37 50 := ⟨rfl, rfl, by decide, by decide, by decide⟩
theorem ar38 : Ar 38 50 := ⟨rfl, rfl, by decide, by decide, by decide⟩
theorem l_demand {S : St} (hs : CSh S) {tc C f r q : Nat} {w : Wf} {F : Nat} (hw : RT S 5 w tc) (hC : w 1 = nI C) (hC16 : C ≤ 16) (hF : Fr S F) (hr : r < 10) (hpx : ∀ c, c < C → S.1 (F + 1) (16 * r + c) = fv1 w f (2 + 16 * r + c)) (h39 : ∀ c, c < 16 → S.1 39 c = rawx w (nI q) 0 r c (dtm w f r) tc) (h40 : ∀ c, c < 16 → S.1 40 c = rawx w (nI q) 65535 r c (dtm w f r) tc) (t : Int32) (kx : Int32 → Int32 → Option St) : wl3 (f_X1_addDemand_B55 S 35 5 F (nI r) t (dpc w (dtm w f r)) kx) FU 0 0 0 = kx (nI (mk (dms w q tc 0 f r) C)) (nI (mk (dms w q tc 65535 f r) C)) := by
  have e4 : S.2.1 35 4 = 39 := hs.2.2.2.2.1.2.2.2.1
  have e5 : S.2.1 35 5 = 40 := hs.2.2.2.2.1.2.2.2.2
  refine wl3_eq (n := C) (fun i => nI (mk (dms w q tc 0 f r) i)) (fun i => nI (mk (dms w q tc 65535 f r) i)) 0 rfl rfl rfl (by omega) (by omega) (fun c kk _ hc => ?_) (fun kk => ?_)
  · unfold f_X1_addDemand_B55
    rw [ck5 hs, L1, c_setting hs sc5 (by omega), bnd_s, hw.1 1 (by omega), hC, if_neg (by rw [q_le (by omega) (by omega)]; omega), ck_t (okS hs.n hF.1 hF.2.2.1), c_pixelAt hs.n hF hr (by omega), bnd_s, hpx c hc, ck35 hs, e4, c_numberIn hs.n (n := 16) rfl (by decide) rfl (by omega) (by omega), bnd_s, if_pos (by omega), h39 c (by omega), e_dimmed, bnd_s, mk_succ, mk_succ]
    have J : ∀ x7 x7' : Nat, x7' = x7 → f_X1_addDemand_J103 S 35 5 F (nI r) t (dpc w (dtm w f r)) kx kk (nI x7) (nI (mk (dms w q tc 65535 f r) c)) (nI c) (fv1 w f (2 + 16 * r + c)) = kk (nI x7') (nI (mk (dms w q tc 65535 f r) c ||| (if dms w q tc 65535 f r c = true then 1 <<< c else 0))) (nI (c + 1)) := by
      intro x7 x7' e
      subst e
      unfold f_X1_addDemand_J103
      rw [ck35 hs, e5, c_numberIn hs.n (n := 16) rfl (by decide) rfl (by omega) (by omega), bnd_s, if_pos (by omega), h40 c (by omega), e_dimmed, bnd_s]
      by_cases z : rawx w (nI q) 65535 r c (dtm w f r) tc * dpc w (dtm w f r) / 100 = fv1 w f (2 + 16 * r + c)
      · have e : dms w q tc 65535 f r c = false := by
          unfold dms
          rw [decide_eq_true z]
          rfl
        rw [if_pos z, e, if_neg (by decide), Nat.or_zero, L1, q_add]
      · have e : dms w q tc 65535 f r c = true := by
          unfold dms
          rw [decide_eq_false z]
          rfl
        rw [if_neg z, e, if_pos rfl, L1, q_add, q_shl 1 (by omega), q_or]
    by_cases z : rawx w (nI q) 0 r c (dtm w f r) tc * dpc w (dtm w f r) / 100 = fv1 w f (2 + 16 * r + c)
    · have e : dms w q tc 0 f r c = false := by
        unfold dms
        rw [decide_eq_true z]
        rfl
      rw [if_pos z]
      exact J _ _ (by rw [e, if_neg (by decide), Nat.or_zero])
    · have e : dms w q tc 0 f r c = true := by
        unfold dms
        rw [decide_eq_false z]
        rfl
      rw [if_neg z, q_shl 1 (by omega), q_or]
      exact J _ _ (by rw [e, if_pos rfl])
  · unfold f_X1_addDemand_B55
    rw [ck5 hs, L1, c_setting hs sc5 (by omega), bnd_s, hw.1 1 (by omega), hC, if_pos (Int32.le_refl _)]
theorem e_addDemand {N : Nat} {S : St} (hs : CSh S) {tc fc bl R C tm f r fb q : Nat} {w : Wf} {L : List (Nat × Nat × Nat)} (hn : RN S 5 w tc fc bl R C) (hok : OKn N w tc fc tm) (hf : f < fc) (hr : r < R) (hfb : fv1 w f 1 = nI fb) (hb : fb < 1024) (hbit : fb.testBit r = false) (hL : HL S L) (hl : L.length < 50) : ∃ S', f_X1_addDemand S 35 5 (nI q) (S.2.1 (5 + 3) f) (nI r) = some S' ∧ Ex PD S S' ∧ HL S' (L ++ [dem w q tc C f r]) := by
  have hR := hn.2.2.1
  have hC := hn.2.2.2.1
  have f5 := hn.2.2.2.2.2.2.2.1.2.2
  have h4 := hn.1.2.1
  have hF := ((hs.sc sc5).2.2.2.1 f (by omega)).fr hs sc5
  have hg := ((hs.sc sc5).2.2.2.1 f (by omega)).rg
  obtain ⟨y1, fb', y2, y3, y4, y5⟩ := hn.2.2.2.2.2.2.2.2.1 f hf
  have hfb' : fb' = fb := by
    rw [← q_eq (by omega) (by omega), ← y3, ← hfb]
    unfold fv1
    rw [show 37 + 162 * f + 1 = 38 + 162 * f by omega]
  subst hfb'
  obtain ⟨n, en, ln⟩ := frame_time hok hf (show r < 10 by omega)
  have en' : dtm w f r = nI n := en
  have y1' : S.1 (S.2.1 (5 + 3) f) 0 = fv1 w f 0 := y1
  have e0 : ∀ S1 : St, CSh S1 → S1.2.1 35 0 = 36 := fun S1 q => q.2.2.2.2.1.1
  have e1 : ∀ S1 : St, CSh S1 → S1.2.1 35 1 = 37 := fun S1 q => q.2.2.2.2.1.2.1
  have e2 : ∀ S1 : St, CSh S1 → S1.2.1 35 2 = 38 := fun S1 q => q.2.2.2.2.1.2.2.1
  have e4 : ∀ S1 : St, CSh S1 → S1.2.1 35 4 = 39 := fun S1 q => q.2.2.2.2.1.2.2.2.1
  have e5 : ∀ S1 : St, CSh S1 → S1.2.1 35 5 = 40 := fun S1 q => q.2.2.2.2.1.2.2.2.2
  have hbx : BX w tc (nI q) (dtm w f r) := fun i hi _ => by rw [en']; exact hok.bt (by omega) i hi
  obtain ⟨S1, p1, p2, p3⟩ := e_paint hs (m := 0) (x := nI q) (t := dtm w f r) sc5 (a := 39) (Or.inl rfl) (show r < 10 by omega) hn.1 hbx (by omega)
  have s1 := hs.ex p2
  have hn1 : RN S1 5 w tc fc bl R C := hn.ch hs sc5 (p2.ch (A := fun x => x = 39) (fun x j q => q)) (fun d hd => by omega)
  obtain ⟨S2, q1, q2, q3⟩ := e_paint s1 (m := 65535) (x := nI q) (t := dtm w f r) sc5 (a := 40) (Or.inr (Or.inl rfl)) (show r < 10 by omega) hn1.1 hbx (by omega)
  have s2 := s1.ex q2
  have hn2 : RN S2 5 w tc fc bl R C := hn1.ch s1 sc5 (q2.ch (A := fun x => x = 40) (fun x j q => q)) (fun d hd => by omega)
  have hF2 : Fr S2 (S.2.1 (5 + 3) f) := (hF.ex p2).ex q2
  have p1' : f_X3_paint S 5 (nI r) (dtm w f r) (nI q) 0 39 = some S1 := p1
  have q1' : f_X3_paint S1 5 (nI r) (dtm w f r) (nI q) 65535 40 = some S2 := q1
  have etr : f_X3_timeOfRow S 5 (S.2.1 (5 + 3) f) (nI r) = some (dtm w f r) := by
    rw [e_timeOfRow hs sc5 hn.1 hF, y1']
    rfl
  have epc : f_X3_percentAt S 5 (dtm w f r) = some (dpc w (dtm w f r)) := e_percentAt hs sc5 hn.1 _
  unfold f_X1_addDemand
  rw [ck5 hs, etr, bnd_s, ck5 hs, epc, bnd_s, ck35 hs, ck5 hs, e4 S hs, p1', bnd_s, ck35 s1, ck5 s1, e5 S1 s1, q1', bnd_s, l_demand s2 (q := q) (f := f) hn2.1 hC.1 hC.2.2 hF2 (by omega) (fun c hc => by
    rw [q2.2 _ _ (by omega), p2.2 _ _ (by omega), y5 r hr hbit c hc]
    unfold fv1
    rw [show 37 + 162 * f + (2 + 16 * r + c) = 39 + 162 * f + 16 * r + c by omega]) (fun c hc => by rw [q2.2 _ _ (by omega)]; exact p3 c hc) q3]
  have h3 : S2.1 35 3 = nI L.length := by rw [q2.2 _ _ (by omega), p2.2 _ _ (by omega)]; exact hL.1
  have ecl : (nI L.length).toNatClampNeg = L.length := q_cl (by omega)
  simp only [h3, e0 S2 s2, e1 S2 s2, e2 S2 s2, lnA ar36, lnA ar37, lnA ar38, ecl]
  rw [ck35 s2, ck35 s2, ck_t (okA s2.n ar36), if_neg (by rw [q_le (by omega) (by omega)]; omega), ck35 s2, ck35 s2, ck_t (okA s2.n ar37), if_neg (by rw [q_le (by omega) (by omega)]; omega), ck35 s2, ck35 s2, ck_t (okA s2.n ar38), if_neg (by rw [q_le (by omega) (by omega)]; omega), ck35 s2, ck35 s2, cwA s2.n ar36 hl, vlt_s]
  generalize hS3 : upI S2 36 L.length (dtm w f r) = S3
  have x3 : Ex (fun x _ => x = 36) S2 S3 := by
    rw [← hS3]
    exact Ex.rf.upa
  have s3 := s2.ex x3
  have h3' : S3.1 35 3 = nI L.length := by rw [x3.2 _ _ (by omega)]; exact h3
  simp only [h3', e1 S3 s3, ecl]
  rw [ck35 s3, ck35 s3, cwA s3.n ar37 hl, vlt_s]
  generalize hS4 : upI S3 37 L.length (nI (mk (dms w q tc 0 f r) C)) = S4
  have x4 : Ex (fun x _ => x = 37) S3 S4 := by
    rw [← hS4]
    exact Ex.rf.upa
  have s4 := s3.ex x4
  have h3'' : S4.1 35 3 = nI L.length := by rw [x4.2 _ _ (by omega)]; exact h3'
  simp only [h3'', e2 S4 s4, ecl]
  rw [ck35 s4, ck35 s4, cwA s4.n ar38 hl, vlt_s]
  generalize hS5 : upI S4 38 L.length (nI (mk (dms w q tc 65535 f r) C)) = S5
  have x5 : Ex (fun x _ => x = 38) S4 S5 := by
    rw [← hS5]
    exact Ex.rf.upa
  have s5 := s4.ex x5
  have h35 : S5.1 35 3 = nI L.length := by rw [x5.2 _ _ (by omega)]; exact h3''
  rw [ck35 s5, ck35 s5, vlt_s, h35, L1, q_add]
  have x05 : Ex (fun x _ => 36 ≤ x ∧ x ≤ 40) S S5 := ((((p2.wk (fun x j q => by omega)).tr (q2.wk (fun x j q => by omega))).tr (x3.wk (fun x j q => by omega))).tr (x4.wk (fun x j q => by omega))).tr (x5.wk (fun x j q => by omega))
  have e36 : ∀ i, S5.1 36 i = if i = L.length then dtm w f r else S.1 36 i := fun i => by
    rw [x5.2 _ _ (by omega), x4.2 _ _ (by omega), ← hS3, upI_at, q2.2 36 i (by omega), p2.2 36 i (by omega)]
    by_cases c : i = L.length
    · rw [if_pos ⟨rfl, c⟩, if_pos c]
    · rw [if_neg (fun q => c q.2), if_neg c]
  have e37 : ∀ i, S5.1 37 i = if i = L.length then nI (mk (dms w q tc 0 f r) C) else S.1 37 i := fun i => by
    rw [x5.2 _ _ (by omega), ← hS4, upI_at, x3.2 37 i (by omega), q2.2 37 i (by omega), p2.2 37 i (by omega)]
    by_cases c : i = L.length
    · rw [if_pos ⟨rfl, c⟩, if_pos c]
    · rw [if_neg (fun q => c q.2), if_neg c]
  have e38 : ∀ i, S5.1 38 i = if i = L.length then nI (mk (dms w q tc 65535 f r) C) else S.1 38 i := fun i => by
    rw [← hS5, upI_at, x4.2 38 i (by omega), x3.2 38 i (by omega), q2.2 38 i (by omega), p2.2 38 i (by omega)]
    by_cases c : i = L.length
    · rw [if_pos ⟨rfl, c⟩, if_pos c]
    · rw [if_neg (fun q => c q.2), if_neg c]
  refine ⟨_, rfl, (x05.wk (fun x j q => Or.inr q)).upp (Or.inl ⟨rfl, rfl⟩), ?_, fun i d hd => ?_⟩
  · rw [upI_at, if_pos ⟨rfl, rfl⟩, List.length_append]
    rfl
  · rw [upI_at, if_neg (by omega), upI_at, if_neg (by omega), upI_at, if_neg (by omega), e36, e37, e38]
    by_cases c : i < L.length
    · rw [if_neg (by omega), if_neg (by omega), if_neg (by omega)]
      rw [List.getElem?_append_left c] at hd
      exact hL.2 i d hd
    · have hi : i = L.length := by
        have := (List.getElem?_eq_some_iff.mp hd).1
        rw [List.length_append] at this
        simp at this
        omega
      subst hi
      rw [if_pos rfl, if_pos rfl, if_pos rfl]
      rw [List.getElem?_append_right (Nat.le_refl _), Nat.sub_self] at hd
      have hd' : dem w q tc C f r = d := by simpa using hd
      subst hd'
      have e16 : 2 ^ C ≤ 2 ^ 16 := Nat.pow_le_pow_right (by omega) hC.2.2
      have hcl : (dem w q tc C f r).1 = n := by
        show (dtm w f r).toNatClampNeg = n
        rw [en', q_cl (by omega)]
      refine ⟨?_, rfl, rfl, by omega, Nat.lt_of_lt_of_le (mk_lt _ C) e16, Nat.lt_of_lt_of_le (mk_lt _ C) e16⟩
      rw [hcl]
      exact en'

