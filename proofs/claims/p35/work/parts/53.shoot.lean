/-- a row that has taken a frame -/
def tkf (w : Wf) (tc fc : Nat) : Wf := fun j => if j = 36 then nI (fc + 1) else if j = 35 then w 35 + 1 else if j = 37 + 162 * fc then w 33 else if j = 38 + 162 * fc then w 34 else if 39 + 162 * fc ≤ j ∧ j < 199 + 162 * fc then sh w tc ((j - (39 + 162 * fc)) / 16) ((j - (39 + 162 * fc)) % 16) (w 33 + nI ((j - (39 + 162 * fc)) / 16) * w 2) else w j
theorem tkf_tk {w : Wf} {R C tc fc : Nat} (hR : R ≤ 10) (hC : C ≤ 16) : Tk w (tkf w tc fc) R C tc fc := by
  unfold Tk tkf
  refine ⟨if_pos rfl, by rw [if_neg (by omega), if_pos rfl], by rw [if_neg (by omega), if_neg (by omega), if_pos rfl], by rw [if_neg (by omega), if_neg (by omega), if_neg (by omega), if_pos rfl], fun r hr c hc => ?_, fun j hj h1 h2 h3 => by rw [if_neg h2, if_neg h1, if_neg (by omega), if_neg (by omega), if_neg (by omega)]⟩
  have e1 : (39 + 162 * fc + 16 * r + c - (39 + 162 * fc)) / 16 = r := by omega
  have e2 : (39 + 162 * fc + 16 * r + c - (39 + 162 * fc)) % 16 = c := by omega
  rw [if_neg (by omega), if_neg (by omega), if_neg (by omega), if_neg (by omega), if_pos (by omega), e1, e2]
theorem RN.tk {S : St} {k R C tc fc bl : Nat} {w w' w'' : Wf} (h : RN S k w' tc (fc + 1) bl R C) (t' : Tk w w' R C tc fc) (t'' : Tk w w'' R C tc fc) (h4 : fc ≤ 4) : RN S k w'' tc (fc + 1) bl R C := by
  obtain ⟨b1, b2, b3, b4, b5, b6, b7, b8, b9, b10, b11⟩ := h
  obtain ⟨p1, p2, p3, p4, p5, p6⟩ := t'
  obtain ⟨q1, q2, q3, q4, q5, q6⟩ := t''
  have t4 := b1.2.1
  have e : ∀ j, j < 867 → j ≠ 35 → j ≠ 36 → (j < 37 + 162 * fc ∨ 199 + 162 * fc ≤ j) → w'' j = w' j := fun j h1 h2 h3 h4 => (q6 j h1 h2 h3 h4).trans (p6 j h1 h2 h3 h4).symm
  refine ⟨⟨fun j hj => by rw [e j (by omega) (by omega) (by omega) (by omega)]; exact b1.1 j hj, t4, b1.2.2.1, fun q hq j hj => by rw [e _ (by omega) (by omega) (by omega) (by omega)]; exact b1.2.2.2 q hq j hj⟩, by rw [e 8 (by omega) (by omega) (by omega) (by omega)]; exact b2, by rw [e 0 (by omega) (by omega) (by omega) (by omega)]; exact b3, by rw [e 1 (by omega) (by omega) (by omega) (by omega)]; exact b4, by rw [e 33 (by omega) (by omega) (by omega) (by omega)]; exact b5, by rw [e 34 (by omega) (by omega) (by omega) (by omega)]; exact b6, by rw [q2, ← p2]; exact b7, ⟨b8.1, q1, b8.2.2⟩, fun f hf => ?_, fun r hr => by rw [e _ (by omega) (by omega) (by omega) (by omega)]; exact b10 r hr, fun r hr => by rw [e _ (by omega) (by omega) (by omega) (by omega)]; exact b11 r hr⟩
  by_cases c : f < fc
  · exact (b9 f hf).w (fun j hj => e _ (by omega) (by omega) (by omega) (by omega)) b3.2.2 b4.2.2
  · have : f = fc := by omega
    subst this
    obtain ⟨y1, fb, y2, y3, y4, y5⟩ := b9 f hf
    refine ⟨by rw [q3, ← p3]; exact y1, fb, y2, by rw [q4, ← p4]; exact y3, y4, fun r hr hrb c hc => ?_⟩
    rw [q5 r hr c hc, ← p5 r hr c hc]
    exact y5 r hr hrb c hc
theorem OKn.tk {N : Nat} {w w' : Wf} {R C tc fc tm : Nat} (h : OKn N w tc fc tm) (t : Tk w w' R C tc fc) (hf : fc ≤ 4) : OKn N w' tc (fc + 1) tm := by
  obtain ⟨b1, b2, b3, b4, b5, b6, b7, b8⟩ := h
  obtain ⟨p1, p2, p3, p4, p5, p6⟩ := t
  have t4 := b1.2
  have e : ∀ j, j < 867 → j ≠ 35 → j ≠ 36 → (j < 37 + 162 * fc ∨ 199 + 162 * fc ≤ j) → w' j = w j := p6
  refine ⟨by rw [e 8 (by omega) (by omega) (by omega) (by omega)]; exact b1, ⟨p1, by omega⟩, by rw [e 33 (by omega) (by omega) (by omega) (by omega)]; exact b3, by rw [e 2 (by omega) (by omega) (by omega) (by omega), e 3 (by omega) (by omega) (by omega) (by omega), e 4 (by omega) (by omega) (by omega) (by omega), e 5 (by omega) (by omega) (by omega) (by omega), e 6 (by omega) (by omega) (by omega) (by omega), e 7 (by omega) (by omega) (by omega) (by omega)]; exact b4, fun q hq => ?_, fun f hf2 => ?_, fun r hr => by rw [e _ (by omega) (by omega) (by omega) (by omega)]; exact b7 r hr, fun r hr => by rw [e _ (by omega) (by omega) (by omega) (by omega)]; exact b8 r hr⟩
  · have := b5 q hq
    unfold TOk at *
    rw [e _ (by omega) (by omega) (by omega) (by omega), e _ (by omega) (by omega) (by omega) (by omega), e _ (by omega) (by omega) (by omega) (by omega), e _ (by omega) (by omega) (by omega) (by omega), e _ (by omega) (by omega) (by omega) (by omega), e _ (by omega) (by omega) (by omega) (by omega)]
    exact this
  · by_cases c : f < fc
    · rw [e _ (by omega) (by omega) (by omega) (by omega)]
      exact b6 f c
    · have : f = fc := by omega
      subst this
      rw [p3, b3.1]
      exact ⟨tm, rfl, by omega, b3.2⟩
/-- the row before a frame is taken: the oldest frame gone if there are five -/
def wpre (w : Wf) (fc : Nat) : Wf := fun j => if fc = 5 then (if j = 36 then nI 4 else if 37 ≤ j ∧ j < 37 + 162 * 4 then w (j + 162) else w j) else w j
def fpre (fc : Nat) : Nat := if fc = 5 then 4 else fc
theorem OKn.pre {N : Nat} {w : Wf} {tc fc tm : Nat} (h : OKn N w tc fc tm) : OKn N (wpre w fc) tc (fpre fc) tm := by
  unfold fpre
  by_cases c : fc = 5
  · subst c
    rw [if_pos rfl]
    refine h.drop (i := 0) (by omega) (fun j hj => ?_)
    unfold wpre wdrop
    rw [if_pos rfl]
  · rw [if_neg c]
    have : wpre w fc = w := by
      funext j
      unfold wpre
      rw [if_neg c]
    rw [this]
    exact h
