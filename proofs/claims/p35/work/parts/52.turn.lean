def wdrop (w : Wf) (i fc : Nat) : Wf := fun j => if j = 36 then nI (fc - 1) else if 37 + 162 * i ≤ j ∧ j < 37 + 162 * (fc - 1) then w (j + 162) else w j
theorem OKn.drop {N : Nat} {w w' : Wf} {tc fc tm i : Nat} (h : OKn N w tc fc tm) (hi : i < fc) (hw : ∀ j, j < 867 → w' j = wdrop w i fc j) : OKn N w' tc (fc - 1) tm := by
  obtain ⟨b1, b2, b3, b4, b5, b6, b7, b8⟩ := h
  have f5 := b2.2
  have t4 := b1.2
  have lo : ∀ j, j < 36 → w' j = w j := fun j hj => by
    rw [hw j (by omega)]
    unfold wdrop
    rw [if_neg (by omega), if_neg (by omega)]
  have hi2 : ∀ j, 847 ≤ j → j < 867 → w' j = w j := fun j h1 h2 => by
    rw [hw j h2]
    unfold wdrop
    rw [if_neg (by omega), if_neg (by omega)]
  refine ⟨by rw [lo 8 (by omega)]; exact b1, ⟨by rw [hw 36 (by omega)]; unfold wdrop; rw [if_pos rfl], by omega⟩, by rw [lo 33 (by omega)]; exact b3, by rw [lo 2 (by omega), lo 3 (by omega), lo 4 (by omega), lo 5 (by omega), lo 6 (by omega), lo 7 (by omega)]; exact b4, fun q hq => ?_, fun f hf => ?_, fun r hr => by rw [hi2 _ (by omega) (by omega)]; exact b7 r hr, fun r hr => by rw [hi2 _ (by omega) (by omega)]; exact b8 r hr⟩
  · have := b5 q hq
    unfold TOk at *
    rw [lo _ (by omega), lo _ (by omega), lo _ (by omega), lo _ (by omega), lo _ (by omega), lo _ (by omega)]
    exact this
  · rw [hw _ (by omega)]
    unfold wdrop
    rw [if_neg (by omega)]
    by_cases c : f < i
    · rw [if_neg (by omega)]
      exact b6 f (by omega)
    · rw [if_pos (by omega), show 37 + 162 * f + 162 = 37 + 162 * (f + 1) by omega]
      exact b6 (f + 1) (by omega)
