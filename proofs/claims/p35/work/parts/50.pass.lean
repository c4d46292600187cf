theorem RN.sc {S S' : St} {k tc fc bl R C bl' : Nat} {w w' : Wf} {t : Int32} (h : RN S k w tc fc bl R C) (hs : CSh S) (hk : Sc k) (r' : S'.2 = S.2) (e : ∀ x j, S'.1 x j = if x = k ∧ j = 6 then t else if x = k ∧ j = 7 then nI bl' else S.1 x j) (hw : ∀ j, j < 867 → w' j = if j = 33 then t else if j = 34 then nI bl' else w j) (hb : bl' < 1024) : RN S' k w' tc fc bl' R C := by
  obtain ⟨a1, a2, a3, a4, a5, a6, a7, a8, a9, a10, a11⟩ := h
  have hbk := hk.rg
  have hne : ∀ x, x ≠ k → ∀ j, S'.1 x j = S.1 x j := fun x hx j => by rw [e, if_neg (fun q => hx q.1), if_neg (fun q => hx q.1)]
  have hk' : ∀ j, j ≠ 6 → j ≠ 7 → S'.1 k j = S.1 k j := fun j h1 h2 => by rw [e, if_neg (fun q => h1 q.2), if_neg (fun q => h2 q.2)]
  have ww : ∀ j, j < 867 → j ≠ 33 → j ≠ 34 → w' j = w j := fun j h0 h1 h2 => by rw [hw j h0, if_neg h1, if_neg h2]
  have f5 := a8.2.2
  have t4 := a1.2.1
  refine ⟨⟨fun j hj => by rw [hne _ (by omega), ww j (by omega) (by omega) (by omega)]; exact a1.1 j hj, t4, by rw [hk' 2 (by omega) (by omega)]; exact a1.2.2.1, fun q hq j hj => by rw [hne _ (by omega), ww _ (by omega) (by omega) (by omega)]; exact a1.2.2.2 q hq j hj⟩, by rw [ww 8 (by omega) (by omega) (by omega)]; exact a2, by rw [ww 0 (by omega) (by omega) (by omega)]; exact a3, by rw [ww 1 (by omega) (by omega) (by omega)]; exact a4, by rw [e, if_pos ⟨rfl, rfl⟩, hw 33 (by omega), if_pos rfl], ⟨by rw [e, if_neg (by omega), if_pos ⟨rfl, rfl⟩], by rw [hw 34 (by omega), if_neg (by omega), if_pos rfl], hb⟩, by rw [hk' 5 (by omega) (by omega), ww 35 (by omega) (by omega) (by omega)]; exact a7, by rw [hk' 4 (by omega) (by omega), ww 36 (by omega) (by omega) (by omega)]; exact a8, fun f hf => ?_, fun r hr => by rw [hne _ (by omega), ww _ (by omega) (by omega) (by omega)]; exact a10 r hr, fun r hr => by rw [hne _ (by omega), ww _ (by omega) (by omega) (by omega)]; exact a11 r hr⟩
  have er : S'.2.1 = S.2.1 := by rw [r']
  rw [er]
  have hFb := ((hs.sc hk).2.2.2.1 f (by omega)).rg
  have hch : Ch (fun x => x = k) S S' := ⟨by rw [r'], fun x hx => ⟨by
    funext j
    exact hne x hx j, by rw [er]⟩⟩
  exact ((a9 f hf).ch hch (by omega) (by omega)).w (fun j hj => ww _ (by omega) (by omega) (by omega)) a3.2.2 a4.2.2
theorem OKn.cong {N : Nat} {w w' : Wf} {tc fc tm : Nat} (h : OKn N w tc fc tm) (hw : ∀ j, j < 867 → j ≠ 0 → j ≠ 1 → j ≠ 34 → j ≠ 35 → w' j = w j) : OKn N w' tc fc tm := by
  obtain ⟨a1, a2, a3, a4, a5, a6, a7, a8⟩ := h
  have t4 := a1.2
  have f5 := a2.2
  have e : ∀ j, 2 ≤ j → j < 34 → w' j = w j := fun j h1 h2 => hw j (by omega) (by omega) (by omega) (by omega) (by omega)
  have e2 : ∀ j, 36 ≤ j → j < 867 → w' j = w j := fun j h1 h2 => hw j (by omega) (by omega) (by omega) (by omega) (by omega)
  refine ⟨by rw [e 8 (by omega) (by omega)]; exact a1, by rw [e2 36 (by omega) (by omega)]; exact a2, by rw [e 33 (by omega) (by omega)]; exact a3, by rw [e 2 (by omega) (by omega), e 3 (by omega) (by omega), e 4 (by omega) (by omega), e 5 (by omega) (by omega), e 6 (by omega) (by omega), e 7 (by omega) (by omega)]; exact a4, fun q hq => ?_, fun f hf => by rw [e2 _ (by omega) (by omega)]; exact a6 f hf, fun r hr => by rw [e2 _ (by omega) (by omega)]; exact a7 r hr, fun r hr => by rw [e2 _ (by omega) (by omega)]; exact a8 r hr⟩
  have := a5 q hq
  unfold TOk at *
  rw [e _ (by omega) (by omega), e _ (by omega) (by omega), e _ (by omega) (by omega), e _ (by omega) (by omega), e _ (by omega) (by omega), e _ (by omega) (by omega)]
  exact this
/-- time goes on -/
theorem OKn.later {N : Nat} {w w' : Wf} {tc fc tm d : Nat} (h : OKn N w tc fc tm) (hd : tm + d ≤ 20000) (hw : ∀ j, j < 867 → w' j = if j = 33 then nI (tm + d) else w j) : OKn N w' tc fc (tm + d) := by
  obtain ⟨a1, a2, a3, a4, a5, a6, a7, a8⟩ := h
  have t4 := a1.2
  have f5 := a2.2
  have e : ∀ j, j < 867 → j ≠ 33 → w' j = w j := fun j h1 h2 => by rw [hw j h1, if_neg h2]
  refine ⟨by rw [e 8 (by omega) (by omega)]; exact a1, by rw [e 36 (by omega) (by omega)]; exact a2, ⟨by rw [hw 33 (by omega), if_pos rfl], hd⟩, by rw [e 2 (by omega) (by omega), e 3 (by omega) (by omega), e 4 (by omega) (by omega), e 5 (by omega) (by omega), e 6 (by omega) (by omega), e 7 (by omega) (by omega)]; exact a4, fun q hq => ?_, fun f hf => by rw [e _ (by omega) (by omega)]; exact a6 f hf, fun r hr => by rw [e _ (by omega) (by omega)]; exact a7 r hr, fun r hr => by rw [e _ (by omega) (by omega)]; exact a8 r hr⟩
  obtain ⟨a, b, wd, br, P, V, h1, h2, ⟨h3, h4, h5⟩, ⟨h6, h7, h8⟩, h9, h12⟩ := a5 q hq
  have m := vmul (t := d) h7 h8
  have ed : V * ((tm + d : Nat) : Int) = V * tm + V * d := by
    rw [Int.natCast_add, Int.mul_add]
  refine ⟨a, b, wd, br, P, V, by rw [e _ (by omega) (by omega)]; exact h1, by rw [e _ (by omega) (by omega)]; exact h2, ⟨by rw [e _ (by omega) (by omega)]; exact h3, by rw [ed]; omega, by rw [ed]; omega⟩, ⟨by rw [e _ (by omega) (by omega)]; exact h6, h7, h8⟩, by rw [e _ (by omega) (by omega)]; exact h9, by rw [e _ (by omega) (by omega)]; exact h12⟩
