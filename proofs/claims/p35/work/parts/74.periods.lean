def allR (P : Nat → Bool) : Nat → Bool
  | 0 => true
  | n + 1 => allR P n && P n
theorem allR_s (P : Nat → Bool) (n : Nat) : allR P (n + 1) = (allR P n && P n) := rfl
theorem allR_iff (P : Nat → Bool) : ∀ n, allR P n = true ↔ ∀ j, j < n → P j = true
  | 0 => ⟨fun _ j hj => by omega, fun _ => rfl⟩
  | n + 1 => by
    rw [allR_s, Bool.and_eq_true, allR_iff P n]
    constructor
    · intro h j hj
      by_cases c : j = n
      · rw [c]; exact h.2
      · exact h.1 j (by omega)
    · intro h
      exact ⟨fun j hj => h j (by omega), h n (by omega)⟩
theorem allF_iff (P : Nat → Bool) : ∀ m i, allF P i m = true ↔ ∀ j, i ≤ j → j < i + m → P j = true
  | 0, i => ⟨fun _ j h1 h2 => by omega, fun _ => rfl⟩
  | m + 1, i => by
    show (P i && allF P (i + 1) m) = true ↔ _
    rw [Bool.and_eq_true, allF_iff P m (i + 1)]
    constructor
    · intro h j h1 h2
      by_cases c : j = i
      · rw [c]; exact h.1
      · exact h.2 j (by omega) (by omega)
    · intro h
      exact ⟨h i (Nat.le_refl _) (by omega), fun j h1 h2 => h j (by omega) (by omega)⟩
theorem allR_ext {P Q : Nat → Bool} {n : Nat} (h : ∀ i, i < n → P i = Q i) : allR P n = allR Q n := by
  rw [Bool.eq_iff_iff, allR_iff, allR_iff]
  constructor
  · intro g j hj
    rw [← h j hj]; exact g j hj
  · intro g j hj
    rw [h j hj]; exact g j hj
def fitP (w : Wf) (tc C f r : Nat) (t p : Int32) : Bool := allF (fun c => decide (fv1 w f (2 + 16 * r + c) = raw w r c t tc * p / 100)) 0 C
theorem c_rowFitsP {N : Nat} {S : St} (hs : CSh S) {tc fc bl R C tm f r fb : Nat} {w : Wf} (hn : RN S 5 w tc fc bl R C) (hok : OKn N w tc fc tm) (hf : f < fc) (hr : r < R) (hfb : fv1 w f 1 = nI fb) (hb : fb < 1024) (hbit : fb.testBit r = false) (p : Int32) : ∃ S', f_X7_rowFits S 4 (S.2.1 (5 + 3) f) (nI r) p = some ((if fitP w tc C f r (fv1 w f 0 + nI r * w 2) p = true then 1 else 0), S') ∧ Ex (fun x _ => x = 43) S S' := by
  have hR := hn.2.2.1
  have hC := hn.2.2.2.1
  have f5 := hn.2.2.2.2.2.2.2.1.2.2
  have h4 := hn.1.2.1
  have hF := ((hs.sc sc5).2.2.2.1 f (by omega)).fr hs sc5
  obtain ⟨y1, fb', y2, y3, y4, y5⟩ := hn.2.2.2.2.2.2.2.2.1 f hf
  have hfb' : fb' = fb := by
    rw [← q_eq (by omega) (by omega), ← y3, ← hfb]
    unfold fv1
    rw [show 37 + 162 * f + 1 = 38 + 162 * f by omega]
  subst hfb'
  obtain ⟨n, en, ln⟩ := frame_time hok hf (show r < 10 by omega)
  have y1' : S.1 (S.2.1 (5 + 3) f) 0 = fv1 w f 0 := y1
  obtain ⟨S1, p1, p2, p3⟩ := e_paint hs (m := 0) (x := -1) (t := fv1 w f 0 + nI r * w 2) sc5 (a := 43) (Or.inr (Or.inr rfl)) (show r < 10 by omega) hn.1 (fun q hq _ => by rw [en]; exact hok.bt (by omega) q hq) (by omega)
  have p1' : f_X3_paint S 5 (nI r) (fv1 w f 0 + nI r * w 2) (-1) 0 43 = some S1 := p1
  have s1 := hs.ex p2
  have hF1 := hF.ex p2
  have e0 : S.2.1 4 0 = 5 := hs.2.1.1
  have e7 : S.2.1 4 7 = 43 := hs.2.1.2.2.2.2.2.2
  have e0' : S1.2.1 4 0 = 5 := s1.2.1.1
  have e7' : S1.2.1 4 7 = 43 := s1.2.1.2.2.2.2.2.2
  have hw1 := hn.1.ex p2 (fun d hd => by omega)
  refine ⟨S1, ?_, p2⟩
  unfold f_X7_rowFits
  rw [ck7 hs, ck7 hs, e0, e7, ck5 hs, e_timeOfRow hs sc5 hn.1 hF, bnd_s, y1', ck7 hs, ck5 hs, p1', bnd_s]
  refine (wl1_all (P := fun c => decide (fv1 w f (2 + 16 * r + c) = raw w r c (fv1 w f 0 + nI r * w 2) tc * p / 100)) (n := C) (rt := some (1, S1)) (rf := some (0, S1)) (fun c k hc => ?_) (fun k => ?_) C 0 FU (by omega) (by show C < 1000000; omega)).trans ?_
  · unfold f_X7_rowFits_B26
    have epx : S1.1 (S.2.1 (5 + 3) f + 1) (16 * r + c) = fv1 w f (2 + 16 * r + c) := by
      have hg := ((hs.sc sc5).2.2.2.1 f (by omega)).rg
      rw [p2.2 _ _ (by omega), y5 r hr hbit c hc]
      unfold fv1
      rw [show 37 + 162 * f + (2 + 16 * r + c) = 39 + 162 * f + 16 * r + c by omega]
    rw [ck7 s1, e0', ck5 s1, L1, c_setting s1 sc5 (by omega), bnd_s, hw1.1 1 (by omega), if_neg (by rw [hC.1, q_le (by omega) (by omega)]; omega), ck_t (okS s1.n hF1.1 hF1.2.2.1), c_pixelAt s1.n hF1 (by omega) (by omega), bnd_s, ck7 s1, e7', c_numberIn s1.n (n := 16) rfl (by decide) rfl (by omega) (by omega), bnd_s, if_pos (by omega), e_dimmed, bnd_s, p3 c (by omega), rawx_raw (no_m1 h4), epx, q_add]
    by_cases c1 : fv1 w f (2 + 16 * r + c) = raw w r c (fv1 w f 0 + nI r * w 2) tc * p / 100
    · rw [if_pos c1, if_pos (by rw [decide_eq_true_eq]; exact c1)]
    · rw [if_neg c1, if_neg (by rw [decide_eq_true_eq]; exact c1)]
  · unfold f_X7_rowFits_B26
    rw [ck7 s1, e0', ck5 s1, L1, c_setting s1 sc5 (by omega), bnd_s, hw1.1 1 (by omega), if_pos (by rw [hC.1]; exact Int32.le_refl _)]
  · unfold fitP
    by_cases c : allF (fun c => decide (fv1 w f (2 + 16 * r + c) = raw w r c (fv1 w f 0 + nI r * w 2) tc * p / 100)) 0 C = true
    · rw [if_pos c, if_pos c]
    · rw [if_neg c, if_neg c]
/-- the row with another period -/
def wper (w : Wf) (p : Nat) : Wf := fun j => if j = 5 then nI p else w j
theorem wper_o (w : Wf) (p : Nat) {j : Nat} (h : j ≠ 5) : wper w p j = w j := if_neg h
theorem raw_per (w : Wf) (p r c : Nat) (t : Int32) : ∀ tc, raw (wper w p) r c t tc = raw w r c t tc
  | 0 => wper_o w p (by decide)
  | q + 1 => by
    have e : cvb (wper w p) q r c t = cvb w q r c t := by
      unfold cvb pl
      rw [wper_o w p (show 9 + 6 * q ≠ 5 by omega), wper_o w p (show 9 + 6 * q + 1 ≠ 5 by omega), wper_o w p (show 9 + 6 * q + 2 ≠ 5 by omega), wper_o w p (show 9 + 6 * q + 3 ≠ 5 by omega), wper_o w p (show 9 + 6 * q + 4 ≠ 5 by omega)]
    unfold raw
    rw [e, raw_per w p r c t q, wper_o w p (show 9 + 6 * q + 5 ≠ 5 by omega)]
/-- whether a row fits with a period -/
def okp (w : Wf) (tc C f r : Nat) (t : Int32) (p : Nat) : Bool := if dkb (wper w p) t = true then fitP w tc C f r t (w 7) else fitP w tc C f r t 100
theorem okp_fit {N : Nat} {w : Wf} {tc fc tm : Nat} (hok : OKn N w tc fc tm) (C f r : Nat) (t : Int32) (p : Nat) : okp w tc C f r t p = fit1 w (wper w p) tc C f r t := by
  unfold okp fit1 fitP
  by_cases c : dkb (wper w p) t = true
  · rw [if_pos c]
    congr 1
    funext d
    have e : sh (wper w p) tc r d t = raw w r d t tc * w 7 / 100 := by
      unfold sh
      rw [if_pos c, raw_per, wper_o w p (show 7 ≠ 5 by decide)]
    rw [e]
  · rw [if_neg c]
    congr 1
    funext d
    have e : sh (wper w p) tc r d t = raw w r d t tc * 100 / 100 := by
      unfold sh
      rw [if_neg c, raw_per, q_dim (hok.raw r d t)]
    rw [e]
/-- the blinded rows of a frame -/
def fbo (w : Wf) (f : Nat) : Nat := (fv1 w f 1).toNatClampNeg
theorem fbo_eq {w : Wf} {f fb : Nat} (h : fv1 w f 1 = nI fb) (hb : fb < 1024) : fbo w f = fb := by
  unfold fbo
  rw [h, q_cl (by omega)]
def rokp (w : Wf) (tc C f p r : Nat) : Bool := (fbo w f).testBit r || okp w tc C f r (fv1 w f 0 + nI r * w 2) p
theorem e_darkPeriods {S : St} (hs : CSh S) {tc : Nat} {w : Wf} (hw : RT S 5 w tc) (t : Int32) : f_X7_darkPeriods S 4 t = some (nI (mk (fun p => dkb (wper w p) t) 21)) := by
  unfold f_X7_darkPeriods
  have e0 : S.2.1 4 0 = 5 := hs.2.1.1
  refine wl2_eq (kx := fun y => some y) (n := 21) (fun i => nI (mk (fun p => dkb (wper w p) t) i)) 0 rfl rfl (by omega) (by omega) (fun i kk _ hi => ?_) (fun kk => ?_)
  · unfold f_X7_darkPeriods_B4
    have h6 : f_X3_setting S 5 6 = some (w 6) := by
      have := c_setting hs sc5 (j := 6) (by omega)
      rw [hw.1 6 (by omega)] at this
      exact this
    rw [if_neg (by rw [L20, q_lt (by omega) (by omega)]; omega), ck7 hs, e0, ck5 hs, h6, bnd_s, c_isDark (nI i) (w 6) t (wper w i) (if_pos rfl) (if_neg (by decide)), bnd_s, mk_succ]
    by_cases c : dkb (wper w i) t = true
    · rw [if_pos c, if_neg (by decide), if_pos c, L1, q_add, q_shl 1 (by omega), q_or]
    · rw [if_neg c, if_pos rfl, if_neg c, Nat.or_zero, L1, q_add]
  · unfold f_X7_darkPeriods_B4
    rw [if_pos (by rw [L20, q_lt (by omega) (by omega)]; omega)]
theorem q_per1 {P : Nat → Bool} {A D : Nat} : nI (mk P 21) &&& (nI A ||| (nI D ^^^ (-1))) = nI (mk (fun i => P i && (A.testBit i || !(D.testBit i))) 21) := by
  apply Int32.toBitVec_inj.1
  show BitVec.ofNat 32 (mk P 21) &&& (BitVec.ofNat 32 A ||| (BitVec.ofNat 32 D ^^^ BitVec.allOnes 32)) = BitVec.ofNat 32 (mk (fun i => P i && (A.testBit i || !(D.testBit i))) 21)
  apply BitVec.eq_of_getLsbD_eq
  intro i hi
  simp only [BitVec.getLsbD_and, BitVec.getLsbD_or, BitVec.getLsbD_xor, BitVec.getLsbD_ofNat, BitVec.getLsbD_allOnes, mk_bit, hi, decide_true, Bool.true_and]
  cases decide (i < 21) <;> cases P i <;> cases A.testBit i <;> cases D.testBit i <;> rfl
theorem q_per0 {P : Nat → Bool} {A : Nat} : nI (mk P 21) &&& (nI A ||| 0) = nI (mk (fun i => P i && A.testBit i) 21) := by
  rw [L0, q_or, Nat.or_zero, q_and]
  congr 1
  apply Nat.eq_of_testBit_eq
  intro i
  rw [Nat.testBit_and, mk_bit, mk_bit, Bool.and_assoc]
theorem q_mk2 {P Q : Nat → Bool} {n : Nat} : mk P n &&& mk Q n = mk (fun i => P i && Q i) n := by
  apply Nat.eq_of_testBit_eq
  intro i
  rw [Nat.testBit_and, mk_bit, mk_bit, mk_bit]
  cases decide (i < n) <;> simp
theorem l_perFit {N : Nat} {S : St} (hs : CSh S) {tc fc bl R C tm f : Nat} {w : Wf} (hn : RN S 5 w tc fc bl R C) (hok : OKn N w tc fc tm) (hf : f < fc) (kx : St → Int32 → Option (Int32 × St)) : ∃ S', wl3 (f_X7_periodsFitting_B5 4 (S.2.1 (5 + 3) f) kx) FU S 2097151 0 = kx S' (nI (mk (fun p => allR (rokp w tc C f p) R) 21)) ∧ Ex (fun x _ => x = 43) S S' := by
  have hR := hn.2.2.1
  have hC := hn.2.2.2.1
  have f5 := hn.2.2.2.2.2.2.2.1.2.2
  have e0 : ∀ S1 : St, CSh S1 → S1.2.1 4 0 = 5 := fun S1 q => q.2.1.1
  have hg := ((hs.sc sc5).2.2.2.1 f (by omega)).rg
  obtain ⟨fb, g1, g2, g3, g4, -⟩ := c_edges hs sc5 hn hok.2.2.2.1.2.1 hf (show 0 < R by omega)
  have hfbo := fbo_eq g2 g1
  obtain ⟨S1, x, ⟨p1, rfl⟩, q⟩ := wl3_inv (F := f_X7_periodsFitting_B5 4 (S.2.1 (5 + 3) f) kx) (kx := kx) (n := R) (fun i S' m => Ex (fun x _ => x = 43) S S' ∧ m = nI (mk (fun p => allR (rokp w tc C f p) i) 21)) (fun i S1 m kk hi hP => by
    obtain ⟨p1, rfl⟩ := hP
    unfold f_X7_periodsFitting_B5
    have s1 := hs.ex p1
    have hn1 : RN S1 5 w tc fc bl R C := hn.ch hs sc5 (p1.ch (A := fun x => x = 43) (fun x j q => q)) (fun d hd => by omega)
    have hF1 := (((hs.sc sc5).2.2.2.1 f (by omega)).fr hs sc5).ex p1
    have y1 : S1.1 (S.2.1 (5 + 3) f) 0 = fv1 w f 0 := by rw [p1.2 _ _ (by omega)]; exact (hn.2.2.2.2.2.2.2.2.1 f hf).1
    have hm : fb &&& (1 <<< R - 1) < 1024 := Nat.lt_of_le_of_lt Nat.and_le_left g1
    have g4' : S1.1 (S.2.1 (5 + 3) f) 1 = nI (fb &&& (1 <<< R - 1)) := by rw [p1.2 _ _ (by omega)]; exact g4
    have hset : f_X3_setting S1 5 0 = some (S1.1 (5 + 1) 0) := c_setting s1 sc5 (j := 0) (by omega)
    have hset7 : f_X3_setting S1 5 7 = some (S1.1 (5 + 1) 7) := c_setting s1 sc5 (j := 7) (by omega)
    rw [ck7 s1, e0 S1 s1, ck5 s1, hset, bnd_s, hn1.1.1 0 (by omega), if_neg (by rw [hR.1, q_le (by omega) (by omega)]; omega), ck_t (okS s1.n hF1.1 hF1.2.2.1), g4', e_holds (by omega) (by omega), g3 i hi, bnd_s]
    by_cases hb : fb.testBit i = true
    · rw [if_pos hb, if_neg (by decide), L1, q_add]
      refine ⟨S1, _, ⟨p1, rfl⟩, ?_⟩
      congr 2
      refine mk_ext (fun p _ => ?_)
      have : rokp w tc C f p i = true := by
        unfold rokp
        rw [hfbo, hb, Bool.true_or]
      rw [allR_s, this, Bool.and_true]
    · have hb' : fb.testBit i = false := by simpa using hb
      obtain ⟨S2, k1, k2⟩ := c_rowFitsP s1 hn1 hok hf hi g2 g1 hb' (w 7)
      have s2 := s1.ex k2
      have hn2 : RN S2 5 w tc fc bl R C := hn1.ch s1 sc5 (k2.ch (A := fun x => x = 43) (fun x j q => q)) (fun d hd => by omega)
      obtain ⟨S3, l1, l2⟩ := c_rowFitsP s2 hn2 hok hf hi g2 g1 hb' 100
      rw [k2.r] at l1
      rw [p1.r] at k1 l1
      rw [if_neg hb, if_pos rfl, ck7 s1, ck5 s1, e_timeOfRow s1 sc5 hn1.1 hF1, bnd_s, y1, ck7 s1, e_darkPeriods s1 hn1.1, bnd_s, ck7 s1, ck5 s1, hset7, bnd_s, hn1.1.1 7 (by omega), ck7 s1, k1, bnd2_s]
      have hro : ∀ p, rokp w tc C f p i = (if dkb (wper w p) (fv1 w f 0 + nI i * w 2) = true then fitP w tc C f i (fv1 w f 0 + nI i * w 2) (w 7) else fitP w tc C f i (fv1 w f 0 + nI i * w 2) 100) := fun p => by
        unfold rokp okp
        rw [hfbo, hb', Bool.false_or]
      have hD : ∀ p, p < 21 → (mk (fun p => dkb (wper w p) (fv1 w f 0 + nI i * w 2)) 21).testBit p = dkb (wper w p) (fv1 w f 0 + nI i * w 2) := fun p hp => by
        rw [mk_bit, decide_eq_true hp, Bool.true_and]
      generalize mk (fun p => dkb (wper w p) (fv1 w f 0 + nI i * w 2)) 21 = D at hD
      have J : ∀ A : Nat, (∀ p, p < 21 → A.testBit p = (D.testBit p && fitP w tc C f i (fv1 w f 0 + nI i * w 2) (w 7))) → ∃ a' b', (Ex (fun x _ => x = 43) S a' ∧ b' = nI (mk (fun p => allR (rokp w tc C f p) (i + 1)) 21)) ∧ f_X7_periodsFitting_J67 S2 4 (S.2.1 (5 + 3) f) kx kk (nI (mk (fun p => allR (rokp w tc C f p) i) 21)) (nI i) (nI D) (nI A) = kk a' b' (nI (i + 1)) := by
        intro A hA
        unfold f_X7_periodsFitting_J67
        rw [ck7 s2, l1, bnd2_s, q_per1, q_per0, L1, q_add]
        by_cases c : fitP w tc C f i (fv1 w f 0 + nI i * w 2) 100 = true
        · rw [if_pos c, if_neg (by decide)]
          refine ⟨S3, _, ⟨(p1.tr k2).tr l2, rfl⟩, ?_⟩
          congr 2
          refine mk_ext (fun p hp => ?_)
          rw [allR_s, hro p, hA p hp, hD p hp, c]
          cases dkb (wper w p) (fv1 w f 0 + nI i * w 2) <;> cases fitP w tc C f i (fv1 w f 0 + nI i * w 2) (w 7) <;> rfl
        · have c' : fitP w tc C f i (fv1 w f 0 + nI i * w 2) 100 = false := by simpa using c
          rw [if_neg c, if_pos rfl]
          refine ⟨S3, _, ⟨(p1.tr k2).tr l2, rfl⟩, ?_⟩
          congr 2
          refine mk_ext (fun p hp => ?_)
          rw [allR_s, hro p, hA p hp, hD p hp, c']
          cases dkb (wper w p) (fv1 w f 0 + nI i * w 2) <;> cases fitP w tc C f i (fv1 w f 0 + nI i * w 2) (w 7) <;> rfl
      by_cases c : fitP w tc C f i (fv1 w f 0 + nI i * w 2) (w 7) = true
      · rw [if_pos c, if_neg (by decide)]
        exact J D (fun p hp => by rw [c, Bool.and_true])
      · have c' : fitP w tc C f i (fv1 w f 0 + nI i * w 2) (w 7) = false := by simpa using c
        rw [if_neg c, if_pos rfl]
        exact J 0 (fun p hp => by rw [c', Bool.and_false, Nat.zero_testBit])) (fun S1 m kk hP => by
    obtain ⟨p1, rfl⟩ := hP
    unfold f_X7_periodsFitting_B5
    have s1 := hs.ex p1
    have hn1 : RN S1 5 w tc fc bl R C := hn.ch hs sc5 (p1.ch (A := fun x => x = 43) (fun x j q => q)) (fun d hd => by omega)
    have hset : f_X3_setting S1 5 0 = some (S1.1 (5 + 1) 0) := c_setting s1 sc5 (j := 0) (by omega)
    rw [ck7 s1, e0 S1 s1, ck5 s1, hset, bnd_s, hn1.1.1 0 (by omega), if_pos (by rw [hR.1]; exact Int32.le_refl _)]) R 0 FU S 2097151 (by omega) (by show R < 1000000; omega) ⟨Ex.rf, by
      show (2097151 : Int32) = nI (mk (fun _ => true) 21)
      decide +kernel⟩
  exact ⟨S1, q, p1⟩

