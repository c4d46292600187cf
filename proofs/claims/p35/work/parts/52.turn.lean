theorem RN.th {S S' : St} {k tc fc bl R C q : Nat} {w w' : Wf} (h : RN S k w tc fc bl R C) (hs : CSh S) (hk : Sc k) (hq : q < tc) (he : Ex (fun x _ => x = k + 6 + q) S S') (h6 : ∀ j, j < 6 → S'.1 (k + 6 + q) j = w' (9 + 6 * q + j)) (hw : ∀ j, j < 867 → ¬ (9 + 6 * q ≤ j ∧ j < 15 + 6 * q) → w' j = w j) : RN S' k w' tc fc bl R C := by
  obtain ⟨b1, b2, b3, b4, b5, b6, b7, b8, b9, b10, b11⟩ := h
  have hb := hk.rg
  have f5 := b8.2.2
  have t4 := b1.2.1
  refine ⟨⟨fun j hj => by rw [he.2 _ _ (by omega), hw j (by omega) (by omega)]; exact b1.1 j hj, t4, by rw [he.2 _ _ (by omega)]; exact b1.2.2.1, fun q' hq' j hj => ?_⟩, by rw [hw 8 (by omega) (by omega)]; exact b2, by rw [hw 0 (by omega) (by omega)]; exact b3, by rw [hw 1 (by omega) (by omega)]; exact b4, by rw [he.2 _ _ (by omega), hw 33 (by omega) (by omega)]; exact b5, by rw [he.2 _ _ (by omega), hw 34 (by omega) (by omega)]; exact b6, by rw [he.2 _ _ (by omega), hw 35 (by omega) (by omega)]; exact b7, by rw [he.2 _ _ (by omega), hw 36 (by omega) (by omega)]; exact b8, fun f hf => ?_, fun r hr => by rw [he.2 _ _ (by omega), hw _ (by omega) (by omega)]; exact b10 r hr, fun r hr => by rw [he.2 _ _ (by omega), hw _ (by omega) (by omega)]; exact b11 r hr⟩
  · by_cases c : q' = q
    · subst c
      exact h6 j hj
    · rw [he.2 _ _ (by omega), hw _ (by omega) (by omega)]
      exact b1.2.2.2 q' hq' j hj
  · rw [he.r]
    have hFb := ((hs.sc hk).2.2.2.1 f (by omega)).rg
    exact ((b9 f hf).ch (A := fun x => x = k + 6 + q) (he.ch (fun x j q => q)) (by omega) (by omega)).w (fun j hj => hw _ (by omega) (by omega)) b3.2.2 b4.2.2
/-- a row with a thing that has turned -/
def wtur (w : Wf) (q : Nat) (b : Int32) : Wf := fun j => if j = 9 + 6 * q + 2 then pl w q (w 33) - b * w 33 else if j = 9 + 6 * q + 3 then b else w j
theorem OKn.tur {N : Nat} {w : Wf} {tc fc tm q : Nat} {b : Int32} (h : OKn N w tc fc tm) (hq : q < tc) (hb : -200 ≤ b ∧ b ≤ 200) : OKn N (wtur w q b) tc fc tm := by
  obtain ⟨b1, b2, b3, b4, b5, b6, b7, b8⟩ := h
  have f5 := b2.2
  have t4 := b1.2
  have wn : ∀ j, ¬ (9 + 6 * q ≤ j ∧ j < 15 + 6 * q) → wtur w q b j = w j := fun j z => by
    unfold wtur
    rw [if_neg (by omega), if_neg (by omega)]
  refine ⟨by rw [wn 8 (by omega)]; exact b1, by rw [wn 36 (by omega)]; exact b2, by rw [wn 33 (by omega)]; exact b3, by rw [wn 2 (by omega), wn 3 (by omega), wn 4 (by omega), wn 5 (by omega), wn 6 (by omega), wn 7 (by omega)]; exact b4, fun q' hq' => ?_, fun f hf => by rw [wn _ (by omega)]; exact b6 f hf, fun r hr => by rw [wn _ (by omega)]; exact b7 r hr, fun r hr => by rw [wn _ (by omega)]; exact b8 r hr⟩
  by_cases c : q' = q
  · subst c
    obtain ⟨a, b', wd, br, P, V, h1, h2, ⟨h3, h4, h5⟩, ⟨h6, h7, h8⟩, h9, h12⟩ := b5 q' hq'
    obtain ⟨V', e4, f4, g4⟩ := i_rg (lo := -200) (hi := 200) hb.1 hb.2 (by decide) (by decide) (by decide) (by decide)
    have e0 : ∀ d, d < 6 → d ≠ 2 → d ≠ 3 → wtur w q' b (9 + 6 * q' + d) = w (9 + 6 * q' + d) := fun d hd h2 h3 => by
      unfold wtur
      rw [if_neg (by omega), if_neg (by omega)]
    refine ⟨a, b', wd, br, P + V * tm - V' * tm, V', ⟨(e0 0 (by omega) (by omega) (by omega)).trans h1.1, h1.2⟩, ⟨(e0 1 (by omega) (by omega) (by omega)).trans h2.1, h2.2⟩, ⟨?_, by omega, by omega⟩, ⟨?_, f4, g4⟩, ⟨(e0 4 (by omega) (by omega) (by omega)).trans h9.1, h9.2⟩, ⟨(e0 5 (by omega) (by omega) (by omega)).trans h12.1, h12.2⟩⟩
    · unfold wtur pl
      rw [if_pos rfl, h3, h6, b3.1, e4, iI_nat tm, iI_mul, iI_mul, iI_add, iI_sub]
    · unfold wtur
      rw [if_neg (by omega), if_pos rfl]
      exact e4
  · have := b5 q' hq'
    unfold TOk at *
    rw [wn _ (by omega), wn _ (by omega), wn _ (by omega), wn _ (by omega), wn _ (by omega), wn _ (by omega)]
    exact this
def wdrop (w : Wf) (i fc : Nat) : Wf := fun j => if j = 36 then nI (fc - 1) else if 37 + 162 * i ≤ j ∧ j < 37 + 162 * (fc - 1) then w (j + 162) else w j
theorem OKn.drop {N : Nat} {w w' : Wf} {tc fc tm i : Nat} (h : OKn N w tc fc tm) (hi : i < fc) (hw : ∀ j, j < 867 → w' j = wdrop w i fc j) : OKn N w' tc (fc - 1) tm := by
  obtain ⟨b1, b2, b3, b4, b5, b6, b7, b8⟩ := h
  have f5 := b2.2
  have t4 := b1.2
  have lo : ∀ j, j < 36 → w' j = w j := fun j hj => by
    rw [hw j (by omega)]
    unfold wdrop
    rw [if_neg (by omega), if_neg (by omega)]
  have hi2 : ∀ j, 847 ≤ j → j < 867 → w' j = w j := fun j h1 h2 => by
    rw [hw j h2]
    unfold wdrop
    rw [if_neg (by omega), if_neg (by omega)]
  refine ⟨by rw [lo 8 (by omega)]; exact b1, ⟨by rw [hw 36 (by omega)]; unfold wdrop; rw [if_pos rfl], by omega⟩, by rw [lo 33 (by omega)]; exact b3, by rw [lo 2 (by omega), lo 3 (by omega), lo 4 (by omega), lo 5 (by omega), lo 6 (by omega), lo 7 (by omega)]; exact b4, fun q hq => ?_, fun f hf => ?_, fun r hr => by rw [hi2 _ (by omega) (by omega)]; exact b7 r hr, fun r hr => by rw [hi2 _ (by omega) (by omega)]; exact b8 r hr⟩
  · have := b5 q hq
    unfold TOk at *
    rw [lo _ (by omega), lo _ (by omega), lo _ (by omega), lo _ (by omega), lo _ (by omega), lo _ (by omega)]
    exact this
  · rw [hw _ (by omega)]
    unfold wdrop
    rw [if_neg (by omega)]
    by_cases c : f < i
    · rw [if_neg (by omega)]
      exact b6 f (by omega)
    · rw [if_pos (by omega), show 37 + 162 * f + 162 = 37 + 162 * (f + 1) by omega]
      exact b6 (f + 1) (by omega)
