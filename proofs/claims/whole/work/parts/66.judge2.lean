theorem RN.jud {S S' : St} {tc fc bl R C A D : Nat} {w : Wf} (h : RN S 5 w tc fc bl R C) (hs : CSh S) (he : Ex (fun x _ => x = 9 ∨ x = 10) S S') (h9 : ∀ r, r < 10 → S'.1 9 r = S.1 9 r + nI (if A.testBit r = true then 1 else 0)) (h10 : ∀ r, r < 10 → S'.1 10 r = S.1 10 r + nI (if D.testBit r = true then 1 else 0)) : RN S' 5 (wjud w A D) tc fc bl R C := by
  obtain ⟨b1, b2, b3, b4, b5, b6, b7, b8, b9, b10, b11⟩ := h
  have f5 := b8.2.2
  have t4 := b1.2.1
  refine ⟨⟨fun j hj => by rw [he.2 _ _ (by omega), wjud_lo (by omega)]; exact b1.1 j hj, t4, by rw [he.2 _ _ (by omega)]; exact b1.2.2.1, fun q hq j hj => by rw [he.2 _ _ (by omega), wjud_lo (by omega)]; exact b1.2.2.2 q hq j hj⟩, by rw [wjud_lo (by omega)]; exact b2, by rw [wjud_lo (by omega)]; exact b3, by rw [wjud_lo (by omega)]; exact b4, by rw [he.2 _ _ (by omega), wjud_lo (by omega)]; exact b5, by rw [he.2 _ _ (by omega), wjud_lo (by omega)]; exact b6, by rw [he.2 _ _ (by omega), wjud_lo (by omega)]; exact b7, by rw [he.2 _ _ (by omega), wjud_lo (by omega)]; exact b8, fun f hf => ?_, fun r hr => ?_, fun r hr => ?_⟩
  · rw [he.r]
    have hFb := ((hs.sc sc5).2.2.2.1 f (by omega)).rg
    exact ((b9 f hf).ch (A := fun x => x = 9 ∨ x = 10) (he.ch (fun x j q => q)) (by omega) (by omega)).w (fun j hj => wjud_lo (by omega)) b3.2.2 b4.2.2
  · rw [wjud_a hr, ← b10 r hr]
    exact h9 r hr
  · rw [wjud_d hr, ← b11 r hr]
    exact h10 r hr
theorem bit_nI {A i : Nat} : (if A.testBit i = true then (1 : Int32) else 0) = nI (if A.testBit i = true then 1 else 0) := by
  by_cases h : A.testBit i = true
  · rw [if_pos h, if_pos h]; rfl
  · rw [if_neg h, if_neg h]; rfl
theorem e_judB {S : St} (hm : MSh S) {A D : Nat} (hA : A < 2147483648) (hD : D < 2147483648) (kx : St → Option (Int32 × St)) : ∃ S', wl2 (f_X8_judge_B56 124 (nI A) (nI D) kx) FU S 0 = kx S' ∧ Ex (fun x _ => x = 125) S S' ∧ ∀ j, j < 867 → S'.1 125 j = wjud (S.1 125) A D j := by
  obtain ⟨S1, ⟨x1, y1⟩, g⟩ := wl2_inv (F := f_X8_judge_B56 124 (nI A) (nI D) kx) (kx := kx) (n := 10) (fun i S' => Ex (fun x _ => x = 125) S S' ∧ ∀ j, j < 867 → S'.1 125 j = if (847 ≤ j ∧ j < 847 + i) ∨ (857 ≤ j ∧ j < 857 + i) then wjud (S.1 125) A D j else S.1 125 j) (fun i S1 kk hi hP => by
    unfold f_X8_judge_B56
    obtain ⟨p1, p2⟩ := hP
    have m1 := hm.ex p1
    have c1 : (nI (847 + i)).toNatClampNeg = 847 + i := q_cl (by omega)
    have c2 : (nI (857 + i)).toNatClampNeg = 857 + i := q_cl (by omega)
    have v1 : S1.1 125 (847 + i) = S.1 125 (847 + i) := by rw [p2 _ (by omega), if_neg (by omega)]
    have v2 : S1.1 125 (857 + i) = S.1 125 (857 + i) := by rw [p2 _ (by omega), if_neg (by omega)]
    have bA : (nI A >>> (nI i &&& 31)) &&& 1 = nI (if A.testBit i = true then 1 else 0) := by rw [q_bitv hA (by omega), bit_nI]
    have bD : (nI D >>> (nI i &&& 31)) &&& 1 = nI (if D.testBit i = true then 1 else 0) := by rw [q_bitv hD (by omega), bit_nI]
    simp only [L847, L857, q_add, c1, c2, m1.2.1, bA, bD, vlt_s, upI_r]
    have m2 : MSh (upI S1 125 (847 + i) (S1.1 125 (847 + i) + nI (if A.testBit i = true then 1 else 0))) := m1
    rw [if_neg (by rw [L10, q_le (by omega) (by omega)]; omega), ck8 m1, ckM m1 (by omega), cwM m1 (by omega), ck8 m2, ckM m2 (by omega), cwM m2 (by omega), L1, q_add]
    refine ⟨_, ⟨(p1.upa).upa, fun j hj => ?_⟩, rfl⟩
    rw [upI_at, upI_at, upI_at]
    by_cases cd : j = 857 + i
    · subst cd
      rw [if_pos ⟨rfl, rfl⟩, if_neg (by omega), v2, if_pos (show (847 ≤ 857 + i ∧ 857 + i < 847 + (i + 1)) ∨ (857 ≤ 857 + i ∧ 857 + i < 857 + (i + 1)) by omega), wjud_d hi]
    · rw [if_neg (fun q => cd q.2)]
      by_cases ca : j = 847 + i
      · subst ca
        rw [if_pos ⟨rfl, rfl⟩, v1, if_pos (show (847 ≤ 847 + i ∧ 847 + i < 847 + (i + 1)) ∨ (857 ≤ 847 + i ∧ 847 + i < 857 + (i + 1)) by omega), wjud_a hi]
      · rw [if_neg (fun q => ca q.2), p2 j hj]
        have : ((847 ≤ j ∧ j < 847 + i) ∨ (857 ≤ j ∧ j < 857 + i)) = ((847 ≤ j ∧ j < 847 + (i + 1)) ∨ (857 ≤ j ∧ j < 857 + (i + 1))) := by
          apply propext; omega
        simp only [this]) (fun S1 kk hP => by
    unfold f_X8_judge_B56
    rw [if_pos (by rw [L10, q_le (by omega) (by omega)]; omega)]) 10 0 FU S rfl (by decide) ⟨Ex.rf, fun j hj => by rw [if_neg (by omega)]⟩
  refine ⟨S1, g, x1, fun j hj => ?_⟩
  rw [y1 j hj]
  by_cases c : (847 ≤ j ∧ j < 847 + 10) ∨ (857 ≤ j ∧ j < 857 + 10)
  · rw [if_pos c]
  · rw [if_neg c, wjud_lo (by omega)]
