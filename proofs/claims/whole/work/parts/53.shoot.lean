/-! SHOOT -/
/-- the same where the new row is known by what holds of it -/
theorem Op.keepQ {N : Nat} {S : St} {f7 f8 : St → Option (Int32 × St)} (h : INV N S) (Q : Wf → Prop) (v : Int32) (c : ∀ S1, CSh S1 → f_X7_recordState S 4 = some S1 → RNe S1 5 (S.1 125) → ∃ S2, f7 S = some (v, S2) ∧ CSh S2 ∧ Ch AN S1 S2 ∧ ∀ w', Q w' → RNe S2 5 w') (m : ∀ S1 S2, MSh S1 → S1.1 125 = S.1 125 → f_X8_notes S1 124 = some S2 → MSh S2 → S2.1 125 = S.1 125 → ∃ S3, f8 S1 = some (v, S3) ∧ Ex (fun x j => x = 125 ∨ x = 127 ∨ x = 129 ∨ x = 130 ∨ (x = 124 ∧ 7 ≤ j)) S2 S3 ∧ Q (S3.1 125)) (ho : ∀ w', Q w' → OKw (N + 1) w') : Op N S f7 f8 := by
  obtain ⟨st, len, i1, i2, i3, i4, i5, i6, i7⟩ := h
  obtain ⟨S1, r1, r2, r3⟩ := e_recordState i1
  obtain ⟨S2, c1, c2, c3, c4⟩ := c S1 r2.1 r1 r2.2.2.1
  have cc : Ch (fun x => 4 ≤ x ∧ x < 124) S S2 := (r3.wk (fun x q => by unfold AR at q; omega)).tr (c3.wk (fun x q => by unfold AN at q; omega))
  have m2 := i2.ch cc (by omega)
  have e125 : S2.1 125 = S.1 125 := (cc.2 125 (by omega)).1
  have e126 : S2.1 126 = S.1 126 := (cc.2 126 (by omega)).1
  obtain ⟨S3, n1, n2, n3, n4⟩ := e_notes m2 (st := st) (by rw [cc.i (by omega)]; exact i3) i1.2.2.2.1.1
  have m3 := m2.ex n2
  have e3 : S3.1 125 = S.1 125 := by
    rw [← e125]
    funext j
    exact n2.2 125 j (by unfold PN; omega)
  obtain ⟨S4, k1, k2, k3⟩ := m S2 S3 m2 e125 n1 m3 e3
  have ci2 := r2.upd c2 c3 (fun x q => q) (c4 _ k3)
  refine ⟨v, S2, S4, c1, k1, ?_⟩
  have c24 : Ch (fun x => 124 ≤ x) S2 S4 := (n2.ch (fun x j q => by unfold PN at q; show 124 ≤ x; omega)).tr (k2.ch (fun x j q => by show 124 ≤ x; omega))
  refine INV.mk (ci2.ch c24 (fun x hx => by omega)) (m3.ex k2) (fun _ _ => rfl) ?_ (fun i hi j hj => ?_) ?_ (fun j hj => ?_) (ho _ k3) (fun i hi => ?_) (fun j hj => i7 j hj)
  · rw [k2.2 124 2 (by omega)]; exact n3
  · rw [k2.2 126 _ (by omega), n4 i hi j hj, e125, e126]
  · rw [k2.2 124 5 (by omega), n2.2 124 5 (by unfold PN; omega), cc.i (by omega)]; exact i4
  · rw [k2.2 128 _ (by omega), n2.2 128 _ (by unfold PN; omega), cc.i (by omega)]
  · unfold hst at hi
    unfold hps
    by_cases hs : st = 4
    · rw [if_pos hs] at hi
      simp only [if_pos hs]
      by_cases c : i < 3
      · rw [if_pos c]
        exact (i6 (i + 1) (by omega)).mono (by omega)
      · rw [if_neg c]
        exact i5.mono (by omega)
    · rw [if_neg hs] at hi
      simp only [if_neg hs]
      by_cases c : i = st
      · rw [if_pos c]
        exact i5.mono (by omega)
      · rw [if_neg c]
        exact (i6 i (by omega)).mono (by omega)
/-- a row that has taken a frame -/
def tkf (w : Wf) (tc fc : Nat) : Wf := fun j => if j = 36 then nI (fc + 1) else if j = 35 then w 35 + 1 else if j = 37 + 162 * fc then w 33 else if j = 38 + 162 * fc then w 34 else if 39 + 162 * fc ≤ j ∧ j < 199 + 162 * fc then sh w tc ((j - (39 + 162 * fc)) / 16) ((j - (39 + 162 * fc)) % 16) (w 33 + nI ((j - (39 + 162 * fc)) / 16) * w 2) else w j
theorem tkf_tk {w : Wf} {R C tc fc : Nat} (hR : R ≤ 10) (hC : C ≤ 16) : Tk w (tkf w tc fc) R C tc fc := by
  unfold Tk tkf
  refine ⟨if_pos rfl, by rw [if_neg (by omega), if_pos rfl], by rw [if_neg (by omega), if_neg (by omega), if_pos rfl], by rw [if_neg (by omega), if_neg (by omega), if_neg (by omega), if_pos rfl], fun r hr c hc => ?_, fun j hj h1 h2 h3 => by rw [if_neg h2, if_neg h1, if_neg (by omega), if_neg (by omega), if_neg (by omega)]⟩
  have e1 : (39 + 162 * fc + 16 * r + c - (39 + 162 * fc)) / 16 = r := by omega
  have e2 : (39 + 162 * fc + 16 * r + c - (39 + 162 * fc)) % 16 = c := by omega
  rw [if_neg (by omega), if_neg (by omega), if_neg (by omega), if_neg (by omega), if_pos (by omega), e1, e2]
theorem RN.tk {S : St} {k R C tc fc bl : Nat} {w w' w'' : Wf} (h : RN S k w' tc (fc + 1) bl R C) (t' : Tk w w' R C tc fc) (t'' : Tk w w'' R C tc fc) (h4 : fc ≤ 4) : RN S k w'' tc (fc + 1) bl R C := by
  obtain ⟨b1, b2, b3, b4, b5, b6, b7, b8, b9, b10, b11⟩ := h
  obtain ⟨p1, p2, p3, p4, p5, p6⟩ := t'
  obtain ⟨q1, q2, q3, q4, q5, q6⟩ := t''
  have t4 := b1.2.1
  have e : ∀ j, j < 867 → j ≠ 35 → j ≠ 36 → (j < 37 + 162 * fc ∨ 199 + 162 * fc ≤ j) → w'' j = w' j := fun j h1 h2 h3 h4 => (q6 j h1 h2 h3 h4).trans (p6 j h1 h2 h3 h4).symm
  refine ⟨⟨fun j hj => by rw [e j (by omega) (by omega) (by omega) (by omega)]; exact b1.1 j hj, t4, b1.2.2.1, fun q hq j hj => by rw [e _ (by omega) (by omega) (by omega) (by omega)]; exact b1.2.2.2 q hq j hj⟩, by rw [e 8 (by omega) (by omega) (by omega) (by omega)]; exact b2, by rw [e 0 (by omega) (by omega) (by omega) (by omega)]; exact b3, by rw [e 1 (by omega) (by omega) (by omega) (by omega)]; exact b4, by rw [e 33 (by omega) (by omega) (by omega) (by omega)]; exact b5, by rw [e 34 (by omega) (by omega) (by omega) (by omega)]; exact b6, by rw [q2, ← p2]; exact b7, ⟨b8.1, q1, b8.2.2⟩, fun f hf => ?_, fun r hr => by rw [e _ (by omega) (by omega) (by omega) (by omega)]; exact b10 r hr, fun r hr => by rw [e _ (by omega) (by omega) (by omega) (by omega)]; exact b11 r hr⟩
  by_cases c : f < fc
  · exact (b9 f hf).w (fun j hj => e _ (by omega) (by omega) (by omega) (by omega)) b3.2.2 b4.2.2
  · have : f = fc := by omega
    subst this
    obtain ⟨y1, fb, y2, y3, y4, y5⟩ := b9 f hf
    refine ⟨by rw [q3, ← p3]; exact y1, fb, y2, by rw [q4, ← p4]; exact y3, y4, fun r hr hrb c hc => ?_⟩
    rw [q5 r hr c hc, ← p5 r hr c hc]
    exact y5 r hr hrb c hc
theorem Tk.from {w1 w2 w' : Wf} {R C tc fc : Nat} (h : Tk w1 w' R C tc fc) (e : ∀ j, j < 867 → w1 j = w2 j) (h4 : tc ≤ 4) : Tk w2 w' R C tc fc := by
  obtain ⟨t1, t2, t3, t4, t5, t6⟩ := h
  refine ⟨t1, by rw [t2, e 35 (by omega)], by rw [t3, e 33 (by omega)], by rw [t4, e 34 (by omega)], fun r hr c hc => ?_, fun j hj h1 h2 h3 => by rw [t6 j hj h1 h2 h3, e j hj]⟩
  rw [t5 r hr c hc, e 33 (by omega), e 2 (by omega)]
  exact sh_ext (fun j hj => e j (by omega)) h4 _ _ _
theorem OKn.tk {N : Nat} {w w' : Wf} {R C tc fc tm : Nat} (h : OKn N w tc fc tm) (t : Tk w w' R C tc fc) (hf : fc ≤ 4) : OKn N w' tc (fc + 1) tm := by
  obtain ⟨b1, b2, b3, b4, b5, b6, b7, b8⟩ := h
  obtain ⟨p1, p2, p3, p4, p5, p6⟩ := t
  have t4 := b1.2
  have e : ∀ j, j < 867 → j ≠ 35 → j ≠ 36 → (j < 37 + 162 * fc ∨ 199 + 162 * fc ≤ j) → w' j = w j := p6
  refine ⟨by rw [e 8 (by omega) (by omega) (by omega) (by omega)]; exact b1, ⟨p1, by omega⟩, by rw [e 33 (by omega) (by omega) (by omega) (by omega)]; exact b3, by rw [e 2 (by omega) (by omega) (by omega) (by omega), e 3 (by omega) (by omega) (by omega) (by omega), e 4 (by omega) (by omega) (by omega) (by omega), e 5 (by omega) (by omega) (by omega) (by omega), e 6 (by omega) (by omega) (by omega) (by omega), e 7 (by omega) (by omega) (by omega) (by omega)]; exact b4, fun q hq => ?_, fun f hf2 => ?_, fun r hr => by rw [e _ (by omega) (by omega) (by omega) (by omega)]; exact b7 r hr, fun r hr => by rw [e _ (by omega) (by omega) (by omega) (by omega)]; exact b8 r hr⟩
  · have := b5 q hq
    unfold TOk at *
    rw [e _ (by omega) (by omega) (by omega) (by omega), e _ (by omega) (by omega) (by omega) (by omega), e _ (by omega) (by omega) (by omega) (by omega), e _ (by omega) (by omega) (by omega) (by omega), e _ (by omega) (by omega) (by omega) (by omega), e _ (by omega) (by omega) (by omega) (by omega)]
    exact this
  · by_cases c : f < fc
    · rw [e _ (by omega) (by omega) (by omega) (by omega)]
      exact b6 f c
    · have : f = fc := by omega
      subst this
      rw [p3, b3.1]
      exact ⟨tm, rfl, by omega, b3.2⟩
/-- the row before a frame is taken: the oldest frame gone if there are five -/
def wpre (w : Wf) (fc : Nat) : Wf := fun j => if fc = 5 then (if j = 36 then nI 4 else if 37 ≤ j ∧ j < 37 + 162 * 4 then w (j + 162) else w j) else w j
def fpre (fc : Nat) : Nat := if fc = 5 then 4 else fc
theorem OKn.pre {N : Nat} {w : Wf} {tc fc tm : Nat} (h : OKn N w tc fc tm) : OKn N (wpre w fc) tc (fpre fc) tm := by
  unfold fpre
  by_cases c : fc = 5
  · subst c
    rw [if_pos rfl]
    refine h.drop (i := 0) (by omega) (fun j hj => ?_)
    unfold wpre wdrop
    rw [if_pos rfl]
  · rw [if_neg c]
    have : wpre w fc = w := by
      funext j
      unfold wpre
      rw [if_neg c]
    rw [this]
    exact h
theorem op_shoot {N : Nat} {S : St} (h : INV N S) : Op N S (fun S => f_X7_shoot S 4) (fun S => f_X8_shoot S 124) := by
  have h0 := h
  obtain ⟨st, len, i1, i2, i3, i4, i5, i6, i7⟩ := h
  have hs := i1.1
  obtain ⟨tc, fc, bl, R, C, hn⟩ := i1.2.2.1
  obtain ⟨tm, hok⟩ := i5.of hn.2.1 hn.1.2.1 hn.2.2.2.2.2.2.2.1.2.1 hn.2.2.2.2.2.2.2.1.2.2
  obtain ⟨f4, w36, f5⟩ := hn.2.2.2.2.2.2.2.1
  have t4 := hn.1.2.1
  have fp : fpre fc ≤ 4 := by
    unfold fpre
    split <;> omega
  refine Op.keepQ h0 (fun w' => Tk (wpre (S.1 125) fc) w' R C tc (fpre fc)) (nI (fpre fc + 1)) (fun S1 s1 r1 q1 => ?_) (fun S1 S2 m1 e1 n1 m2 e2 => ?_) (fun w' t => OKw.mono ⟨tc, fpre fc + 1, tm, hok.pre.tk t fp⟩ (by omega))
  · obtain ⟨tc', fc', bl', R', C', q1⟩ := q1
    have hfc : fc' = fc := by
      rw [← q_eq (by have := q1.2.2.2.2.2.2.2.1.2.2; omega) (by omega), ← q1.2.2.2.2.2.2.2.1.2.1, w36]
    have htc : tc' = tc := by
      rw [← q_eq (by have := q1.1.2.1; omega) (by omega), ← q1.2.1, hn.2.1]
    have hR : R' = R := by
      rw [← q_eq (by have := q1.2.2.1.2.2; omega) (by have := hn.2.2.1.2.2; omega), ← q1.2.2.1.1, hn.2.2.1.1]
    have hC : C' = C := by
      rw [← q_eq (by have := q1.2.2.2.1.2.2; omega) (by have := hn.2.2.2.1.2.2; omega), ← q1.2.2.2.1.1, hn.2.2.2.1.1]
    subst hfc
    subst htc
    subst hR
    subst hC
    have e0' : S1.2.1 4 0 = 5 := s1.2.1.1
    have e7' : S1.2.1 4 7 = 43 := s1.2.1.2.2.2.2.2.2
    obtain ⟨S2, g1, g2, g3, g4⟩ := e_takeFrame s1 (a := 43) (w1 := wpre (S.1 125) fc') (w' := tkf (wpre (S.1 125) fc') tc' (fpre fc')) sc5 (Or.inr (Or.inr rfl)) q1 (hok.snap q1.2.2.1.2.2) (fun _ _ => rfl) (tkf_tk q1.2.2.1.2.2 q1.2.2.2.1.2.2)
    have e0'' : S2.2.1 4 0 = 5 := g2.2.1.1
    refine ⟨S2, ?_, g2, g3.wk (fun x q => by unfold AN; omega), fun w' t => ⟨tc', fpre fc' + 1, bl', R', C', g4.tk (tkf_tk q1.2.2.1.2.2 q1.2.2.2.1.2.2) t fp⟩⟩
    show f_X7_shoot S 4 = _
    unfold f_X7_shoot
    rw [ck7 hs, r1, bnd_s, ck7 s1, ck7 s1, e0', e7', ck5 s1, g1, bnd_s, ck7 g2, e0'', ck5 g2, g4.2.2.2.2.2.2.2.1.1]
    rfl
  · obtain ⟨S3, S4, g1, g2, g3, g4⟩ := e_takes m2.1 (a := 125) (R := R) (C := C) (tc := tc) (fc := fc) (Or.inl rfl) (by rw [e2]; exact hn.2.2.1.1) hn.2.2.1.2.2 (by rw [e2]; exact hn.2.2.2.1.1) hn.2.2.2.1.2.2 (by rw [e2]; exact hn.2.1) t4 (by rw [e2]; exact w36) f5
    have m4 := m2.ex g2
    refine ⟨S4, ?_, g2.wk (fun x j q => Or.inl q), g3.from (fun j hj => by rw [g4 j hj, e2]; rfl) t4⟩
    show f_X8_shoot S1 124 = _
    unfold f_X8_shoot
    have c36 : (nI 36).toNatClampNeg = 36 := rfl
    simp only [L36, c36]
    rw [ck8 m1, n1, bnd_s, ck8 m2, m2.2.1, g1, bnd_s, ck8 m4, m4.2.1, ckM m4 (by omega), g3.1]
    rfl
