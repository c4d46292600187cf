theorem Rg.of {x : Int32} {lo hi : Nat} (h1 : nI lo ≤ x) (h2 : x ≤ nI hi) (hh : hi < 2147483648) (hl : lo < 2147483648) : Rg x lo hi := q_ex h1 h2 hh hl
theorem RN.set {S S' : St} {k tc fc bl R C i : Nat} {w : Wf} {b : Int32} (h : RN S k w tc fc bl R C) (hs : CSh S) (hk : Sc k) (hi : i < 8) (e : S' = upI S (k + 1) i b) (h0 : i = 0 → fc = 0 ∧ Rg b 1 10) (h1 : i = 1 → fc = 0 ∧ Rg b 4 16) : RNe S' k (fun j => if j = i then b else w j) := by
  obtain ⟨a1, a2, a3, a4, a5, a6, a7, a8, a9, a10, a11⟩ := h
  have hb := hk.rg
  have hne : ∀ x, x ≠ k + 1 → ∀ j, S'.1 x j = S.1 x j := fun x hx j => by rw [e, upI_at, if_neg (fun q => hx q.1)]
  have r' : S'.2.1 = S.2.1 := by rw [e]; rfl
  have f5 := a8.2.2
  have t4 := a1.2.1
  have hR : ∃ R', (if 0 = i then b else w 0) = nI R' ∧ (1 ≤ R' ∧ R' ≤ 10) ∧ (fc ≠ 0 → R' = R) := by
    by_cases c : 0 = i
    · obtain ⟨z, R', e1, e2, e3⟩ := h0 c.symm
      rw [if_pos c]
      exact ⟨R', e1, ⟨e2, e3⟩, fun q => absurd z q⟩
    · rw [if_neg c]
      exact ⟨R, a3.1, a3.2, fun _ => rfl⟩
  have hC : ∃ C', (if 1 = i then b else w 1) = nI C' ∧ (4 ≤ C' ∧ C' ≤ 16) ∧ (fc ≠ 0 → C' = C) := by
    by_cases c : 1 = i
    · obtain ⟨z, R', e1, e2, e3⟩ := h1 c.symm
      rw [if_pos c]
      exact ⟨R', e1, ⟨e2, e3⟩, fun q => absurd z q⟩
    · rw [if_neg c]
      exact ⟨C, a4.1, a4.2, fun _ => rfl⟩
  obtain ⟨R', r1, r2, r3⟩ := hR
  obtain ⟨C', c1, c2, c3⟩ := hC
  refine ⟨tc, fc, bl, R', C', ⟨fun j hj => ?_, t4, ?_, fun q hq j hj => ?_⟩, ?_, ⟨r1, r2⟩, ⟨c1, c2⟩, ?_, ?_, ?_, ?_, fun f hf => ?_, fun r hr => ?_, fun r hr => ?_⟩
  · rw [e, upI_at]
    by_cases c : j = i
    · rw [if_pos ⟨rfl, c⟩]
      show b = if j = i then b else w j
      rw [if_pos c]
    · rw [if_neg (fun q => c q.2)]
      show _ = if j = i then b else w j
      rw [if_neg c]
      exact a1.1 j hj
  · rw [hne k (by omega)]; exact a1.2.2.1
  · rw [hne _ (by omega)]
    show _ = if _ = i then b else _
    rw [if_neg (by omega)]
    exact a1.2.2.2 q hq j hj
  · show (if 8 = i then b else w 8) = _
    rw [if_neg (by omega)]; exact a2
  · show _ = if 33 = i then b else w 33
    rw [if_neg (by omega), hne k (by omega)]; exact a5
  · show _ ∧ (if 34 = i then b else w 34) = _ ∧ _
    rw [if_neg (by omega), hne k (by omega)]; exact a6
  · show _ = if 35 = i then b else w 35
    rw [if_neg (by omega), hne k (by omega)]; exact a7
  · show _ ∧ (if 36 = i then b else w 36) = _ ∧ _
    rw [if_neg (by omega), hne k (by omega)]; exact a8
  · have z1 := r3 (by omega)
    have z2 := c3 (by omega)
    subst z1
    subst z2
    rw [r']
    have hFb := ((hs.sc hk).2.2.2.1 f (by omega)).rg
    have hch : Ch (fun x => x = k + 1) S S' := by
      rw [e]
      exact Ch.up (A := fun x => x = k + 1) Ch.rf rfl
    refine ((a9 f hf).ch hch (by omega) (by omega)).w (fun j hj => ?_) r2.2 c2.2
    show (if _ = i then b else _) = _
    rw [if_neg (by omega)]
  · rw [hne _ (by omega)]
    show _ = if _ = i then b else _
    rw [if_neg (by omega)]; exact a10 r hr
  · rw [hne _ (by omega)]
    show _ = if _ = i then b else _
    rw [if_neg (by omega)]; exact a11 r hr
theorem OKw.set {N : Nat} {w : Wf} {i : Nat} {b : Int32} (h : OKw N w) (hi : i < 8) (hb : S00.1 1 i ≤ b ∧ b ≤ S00.1 2 i) : OKw N (fun j => if j = i then b else w j) := by
  obtain ⟨tc, fc, tm, a1, a2, a3, ⟨b2, b3, b4, b5, b6, b7⟩, a5, a6, a7, a8⟩ := h
  have t4 := a1.2
  have f5 := a2.2
  have z : ∀ j, 8 ≤ j → (if j = i then b else w j) = w j := fun j hj => if_neg (by omega)
  refine ⟨tc, fc, tm, ?_, ?_, ?_, ⟨?_, ?_, ?_, ?_, ?_, ?_⟩, fun q hq => ?_, fun f hf => ?_, fun r hr => ?_, fun r hr => ?_⟩
  · simp only [z 8 (by omega)]; exact a1
  · simp only [z 36 (by omega)]; exact a2
  · simp only [z 33 (by omega)]; exact a3
  · by_cases c : i = 2
    · subst c; exact Rg.of (lo := 0) (hi := 9) hb.1 hb.2 (by decide) (by decide)
    · simp only [if_neg (show ¬ 2 = i by omega)]; exact b2
  · by_cases c : i = 3
    · subst c; exact Rg.of (lo := 1) (hi := 255) hb.1 hb.2 (by decide) (by decide)
    · simp only [if_neg (show ¬ 3 = i by omega)]; exact b3
  · by_cases c : i = 4
    · subst c; exact Rg.of (lo := 0) (hi := 255) hb.1 hb.2 (by decide) (by decide)
    · simp only [if_neg (show ¬ 4 = i by omega)]; exact b4
  · by_cases c : i = 5
    · subst c; exact Rg.of (lo := 0) (hi := 20) hb.1 hb.2 (by decide) (by decide)
    · simp only [if_neg (show ¬ 5 = i by omega)]; exact b5
  · by_cases c : i = 6
    · subst c; exact Rg.of (lo := 0) (hi := 20) hb.1 hb.2 (by decide) (by decide)
    · simp only [if_neg (show ¬ 6 = i by omega)]; exact b6
  · by_cases c : i = 7
    · subst c; exact Rg.of (lo := 0) (hi := 100) hb.1 hb.2 (by decide) (by decide)
    · simp only [if_neg (show ¬ 7 = i by omega)]; exact b7
  · have := a5 q hq
    unfold TOk at *
    simp only [z _ (show 8 ≤ 9 + 6 * q by omega), z _ (show 8 ≤ 9 + 6 * q + 1 by omega), z _ (show 8 ≤ 9 + 6 * q + 2 by omega), z _ (show 8 ≤ 9 + 6 * q + 3 by omega), z _ (show 8 ≤ 9 + 6 * q + 4 by omega), z _ (show 8 ≤ 9 + 6 * q + 5 by omega)]
    exact this
  · simp only [z _ (show 8 ≤ 37 + 162 * f by omega)]; exact a6 f hf
  · simp only [z _ (show 8 ≤ 847 + r by omega)]; exact a7 r hr
  · simp only [z _ (show 8 ≤ 857 + r by omega)]; exact a8 r hr
