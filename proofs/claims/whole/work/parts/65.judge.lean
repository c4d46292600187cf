/-! JUDGE -/
/-- the same where the model does something of its scratch before it keeps the state -/
theorem Op.keepM {N : Nat} {S : St} {f7 f8 : St → Option (Int32 × St)} (h : INV N S) (w' : Wf) (v : Int32) (c : ∀ S1, CSh S1 → f_X7_recordState S 4 = some S1 → Ch AR S S1 → RNe S1 5 (S.1 125) → ∃ S2, f7 S = some (v, S2) ∧ CSh S2 ∧ Ch AN S1 S2 ∧ RNe S2 5 w') (m : ∀ S1, MSh S1 → S1.1 125 = S.1 125 → ∃ Sm, Ex PM S1 Sm ∧ ∀ S2, f_X8_notes Sm 124 = some S2 → MSh S2 → S2.1 125 = S.1 125 → ∃ S3, f8 S1 = some (v, S3) ∧ Ex (fun x j => x = 125 ∨ x = 127 ∨ x = 129 ∨ x = 130 ∨ (x = 124 ∧ 7 ≤ j)) S2 S3 ∧ ∀ j, j < 867 → S3.1 125 j = w' j) (ho : OKw (N + 1) w') : Op N S f7 f8 := by
  obtain ⟨st, len, i1, i2, i3, i4, i5, i6, i7⟩ := h
  obtain ⟨S1, r1, r2, r3⟩ := e_recordState i1
  obtain ⟨S2, c1, c2, c3, c4⟩ := c S1 r2.1 r1 r3 r2.2.2.1
  have ci2 := r2.upd c2 c3 (fun x q => q) c4
  have cc : Ch (fun x => 4 ≤ x ∧ x < 124) S S2 := (r3.wk (fun x q => by unfold AR at q; omega)).tr (c3.wk (fun x q => by unfold AN at q; omega))
  have m2 := i2.ch cc (by omega)
  have e125 : S2.1 125 = S.1 125 := (cc.2 125 (by omega)).1
  have e126 : S2.1 126 = S.1 126 := (cc.2 126 (by omega)).1
  obtain ⟨Sm, xm, mm⟩ := m S2 m2 e125
  have m2' := m2.ex xm
  have zm : ∀ x j, x ≠ 127 → x ≠ 129 → x ≠ 130 → (x = 124 → j < 7) → Sm.1 x j = S2.1 x j := fun x j h1 h2 h3 h4 => xm.2 x j (by unfold PM; omega)
  have e125' : Sm.1 125 = S.1 125 := by
    rw [← e125]
    funext j
    exact zm 125 j (by omega) (by omega) (by omega) (by omega)
  have e126' : Sm.1 126 = S.1 126 := by
    rw [← e126]
    funext j
    exact zm 126 j (by omega) (by omega) (by omega) (by omega)
  obtain ⟨S3, n1, n2, n3, n4⟩ := e_notes m2' (st := st) (by rw [zm 124 2 (by omega) (by omega) (by omega) (by omega), cc.i (by omega)]; exact i3) i1.2.2.2.1.1
  have m3 := m2'.ex n2
  have e3 : S3.1 125 = S.1 125 := by
    rw [← e125']
    funext j
    exact n2.2 125 j (by unfold PN; omega)
  obtain ⟨S4, k1, k2, k3⟩ := mm S3 n1 m3 e3
  refine ⟨v, S2, S4, c1, k1, ?_⟩
  have c24 : Ch (fun x => 124 ≤ x) S2 S4 := ((xm.ch (fun x j q => by unfold PM at q; show 124 ≤ x; omega)).tr (n2.ch (fun x j q => by unfold PN at q; show 124 ≤ x; omega))).tr (k2.ch (fun x j q => by show 124 ≤ x; omega))
  refine INV.mk (ci2.ch c24 (fun x hx => by omega)) (m3.ex k2) k3 ?_ (fun i hi j hj => ?_) ?_ (fun j hj => ?_) ho (fun i hi => ?_) (fun j hj => i7 j hj)
  · rw [k2.2 124 2 (by omega)]; exact n3
  · rw [k2.2 126 _ (by omega), n4 i hi j hj, e125', e126']
  · rw [k2.2 124 5 (by omega), n2.2 124 5 (by unfold PN; omega), zm 124 5 (by omega) (by omega) (by omega) (by omega), cc.i (by omega)]; exact i4
  · rw [k2.2 128 _ (by omega), n2.2 128 _ (by unfold PN; omega), zm 128 _ (by omega) (by omega) (by omega) (by omega), cc.i (by omega)]
  · unfold hst at hi
    unfold hps
    by_cases hs : st = 4
    · rw [if_pos hs] at hi
      simp only [if_pos hs]
      by_cases c : i < 3
      · rw [if_pos c]
        exact (i6 (i + 1) (by omega)).mono (by omega)
      · rw [if_neg c]
        exact i5.mono (by omega)
    · rw [if_neg hs] at hi
      simp only [if_neg hs]
      by_cases c : i = st
      · rw [if_pos c]
        exact i5.mono (by omega)
      · rw [if_neg c]
        exact (i6 i (by omega)).mono (by omega)
theorem pc_add {a b c : Nat} : ∀ {n : Nat}, (∀ i, i < n → a.testBit i = (b.testBit i || c.testBit i) ∧ ¬ (b.testBit i = true ∧ c.testBit i = true)) → pc a n = pc b n + pc c n
  | 0, _ => rfl
  | n + 1, h => by
    obtain ⟨h1, h2⟩ := h n (by omega)
    have ih := pc_add (a := a) (b := b) (c := c) (n := n) (fun i hi => h i (by omega))
    show pc a n + (if a.testBit n = true then 1 else 0) = pc b n + (if b.testBit n = true then 1 else 0) + (pc c n + (if c.testBit n = true then 1 else 0))
    rw [ih, h1]
    cases hb : b.testBit n with
    | true =>
      cases hc : c.testBit n with
      | true => exact absurd ⟨hb, hc⟩ h2
      | false => simp; omega
    | false =>
      cases hc : c.testBit n with
      | true => simp; omega
      | false => simp
/-- a row of numbers behind a judgement: A agree, D do not -/
def wjud (w : Wf) (A D : Nat) : Wf := fun j => if 847 ≤ j ∧ j < 857 then w j + nI (if A.testBit (j - 847) = true then 1 else 0) else if 857 ≤ j ∧ j < 867 then w j + nI (if D.testBit (j - 857) = true then 1 else 0) else w j
theorem wjud_lo {w : Wf} {A D j : Nat} (h : j < 847) : wjud w A D j = w j := by
  unfold wjud
  rw [if_neg (by omega), if_neg (by omega)]
theorem wjud_a {w : Wf} {A D r : Nat} (h : r < 10) : wjud w A D (847 + r) = w (847 + r) + nI (if A.testBit r = true then 1 else 0) := by
  unfold wjud
  rw [if_pos (by omega), show 847 + r - 847 = r by omega]
theorem wjud_d {w : Wf} {A D r : Nat} (h : r < 10) : wjud w A D (857 + r) = w (857 + r) + nI (if D.testBit r = true then 1 else 0) := by
  unfold wjud
  rw [if_neg (by omega), if_pos (by omega), show 857 + r - 857 = r by omega]
theorem Rg.bit {x : Int32} {N : Nat} (h : Rg x 0 N) (hN : N < 1000000) (c : Bool) : Rg (x + nI (if c = true then 1 else 0)) 0 (N + 1) := by
  obtain ⟨n, rfl, -, h2⟩ := h
  rw [q_add]
  refine ⟨_, rfl, Nat.zero_le _, ?_⟩
  cases c <;> simp <;> omega
theorem OKw.jud {N : Nat} {w : Wf} {A D : Nat} (h : OKw N w) (hN : N ≤ 900) : OKw (N + 1) (wjud w A D) := by
  obtain ⟨tc, fc, tm, a1, a2, a3, a4, a5, a6, a7, a8⟩ := h
  have t4 := a1.2
  have f5 := a2.2
  refine ⟨tc, fc, tm, by rw [wjud_lo (by omega)]; exact a1, by rw [wjud_lo (by omega)]; exact a2, by rw [wjud_lo (by omega)]; exact a3, by rw [wjud_lo (by omega), wjud_lo (by omega), wjud_lo (by omega), wjud_lo (by omega), wjud_lo (by omega), wjud_lo (by omega)]; exact a4, fun q hq => ?_, fun f hf => by rw [wjud_lo (by omega)]; exact a6 f hf, fun r hr => by rw [wjud_a hr]; exact (a7 r hr).bit (by omega) _, fun r hr => by rw [wjud_d hr]; exact (a8 r hr).bit (by omega) _⟩
  have := a5 q hq
  unfold TOk at *
  rw [wjud_lo (by omega), wjud_lo (by omega), wjud_lo (by omega), wjud_lo (by omega), wjud_lo (by omega), wjud_lo (by omega)]
  exact this
theorem ar9 : Ar 9 10 := ⟨rfl, rfl, by decide, by decide, by decide⟩
theorem ar10 : Ar 10 10 := ⟨rfl, rfl, by decide, by decide, by decide⟩
theorem e_judgeRows {S : St} (hs : CSh S) {A T : Nat} (hA : A < 2147483648) (hT : T < 2147483648) : ∃ S', f_X3_judgeRows S 5 (nI A) (nI T) = some S' ∧ Ex (fun x _ => x = 9 ∨ x = 10) S S' ∧ ∀ r, r < 10 → S'.1 9 r = S.1 9 r + nI (if A.testBit r = true then 1 else 0) ∧ S'.1 10 r = S.1 10 r + nI (if (!(A.testBit r) && T.testBit r) = true then 1 else 0) := by
  unfold f_X3_judgeRows
  obtain ⟨S1, ⟨x1, y1⟩, g⟩ := wl2_inv (F := f_X3_judgeRows_B2 5 (nI A) (nI T) (fun (S_5 : St) => some S_5)) (kx := fun (S_5 : St) => some S_5) (n := 10) (fun i S' => Ex (fun x _ => x = 9 ∨ x = 10) S S' ∧ ∀ r, r < 10 → S'.1 9 r = (if r < i then S.1 9 r + nI (if A.testBit r = true then 1 else 0) else S.1 9 r) ∧ S'.1 10 r = (if r < i then S.1 10 r + nI (if (!(A.testBit r) && T.testBit r) = true then 1 else 0) else S.1 10 r)) (fun i S1 kk hi hP => by
    unfold f_X3_judgeRows_B2
    obtain ⟨p1, p2⟩ := hP
    have s1 := hs.ex p1
    have e8 : S1.2.1 5 8 = 9 := (s1.sc sc5).1.2.2.2.1
    have e9 : S1.2.1 5 9 = 10 := (s1.sc sc5).1.2.2.2.2
    have ecl : (nI i).toNatClampNeg = i := q_cl (by omega)
    have pi := p2 i hi
    rw [if_neg (by omega), if_neg (by omega)] at pi
    simp only [e8, e9, lnA ar9, lnA ar10, ecl]
    rw [ck5 s1, ck_t (okA s1.n ar9), if_neg (by rw [q_le (by omega) (by omega)]; omega), ck5 s1, ck_t (okA s1.n ar10), if_neg (by rw [q_le (by omega) (by omega)]; omega), e_holds hA (by omega), bnd_s]
    have z0 : ∀ x : Int32, x + nI 0 = x := fun x => Int32.add_zero x
    by_cases ca : A.testBit i = true
    · rw [if_pos ca, if_neg (by decide), ck5 s1, ckA s1.n ar9 hi, cwA s1.n ar9 hi, vlt_s, L1, q_add]
      refine ⟨_, ⟨p1.upp (Or.inl rfl), fun r hr => ?_⟩, rfl⟩
      rw [upI_at, upI_at, if_neg (show ¬ (10 = 9 ∧ r = i) by omega)]
      by_cases c : r = i
      · subst c
        rw [if_pos ⟨rfl, rfl⟩, if_pos (by omega), if_pos (by omega), pi.1, pi.2, ca]
        refine ⟨rfl, ?_⟩
        simp [z0]
      · rw [if_neg (fun q => c q.2)]
        have : (r < i + 1) = (r < i) := by apply propext; omega
        simp only [this]
        exact p2 r hr
    · have ca' : A.testBit i = false := by simpa using ca
      rw [if_neg ca, if_pos rfl, e_holds hT (by omega), bnd_s]
      by_cases ct : T.testBit i = true
      · rw [if_pos ct, if_neg (by decide), ck5 s1, ckA s1.n ar10 hi, cwA s1.n ar10 hi, vlt_s, L1, q_add]
        refine ⟨_, ⟨p1.upp (Or.inr rfl), fun r hr => ?_⟩, rfl⟩
        rw [upI_at, upI_at, if_neg (show ¬ (9 = 10 ∧ r = i) by omega)]
        by_cases c : r = i
        · subst c
          rw [if_pos (show r < r + 1 by omega), if_pos (show 10 = 10 ∧ r = r from ⟨rfl, rfl⟩), if_pos (show r < r + 1 by omega), pi.1, pi.2, ca', ct]
          refine ⟨?_, rfl⟩
          simp [z0]
        · rw [if_neg (show ¬ (10 = 10 ∧ r = i) from fun q => c q.2)]
          have : (r < i + 1) = (r < i) := by apply propext; omega
          simp only [this]
          exact p2 r hr
      · have ct' : T.testBit i = false := by simpa using ct
        rw [if_neg ct, if_pos rfl, L1, q_add]
        refine ⟨S1, ⟨p1, fun r hr => ?_⟩, rfl⟩
        by_cases c : r = i
        · subst c
          rw [if_pos (show r < r + 1 by omega), if_pos (show r < r + 1 by omega), pi.1, pi.2, ca', ct']
          simp [z0]
        · have : (r < i + 1) = (r < i) := by apply propext; omega
          simp only [this]
          exact p2 r hr) (fun S1 kk hP => by
    unfold f_X3_judgeRows_B2
    have s1 := hs.ex hP.1
    have e8 : S1.2.1 5 8 = 9 := (s1.sc sc5).1.2.2.2.1
    simp only [e8, lnA ar9]
    rw [ck5 s1, ck_t (okA s1.n ar9), if_pos (by rw [q_le (by omega) (by omega)]; omega)]) 10 0 FU S rfl (by decide) ⟨Ex.rf, fun r hr => by rw [if_neg (by omega), if_neg (by omega)]; exact ⟨rfl, rfl⟩⟩
  refine ⟨S1, g, x1, fun r hr => ?_⟩
  have := y1 r hr
  rw [if_pos hr, if_pos hr] at this
  exact this
