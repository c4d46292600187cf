/-! THE MODEL TAKES A FRAME, DROPS ONE, ADDS A THING -/
theorem pl_ext {w w' : Wf} (h : ∀ j, j < 33 → w j = w' j) {q : Nat} (hq : q < 4) (t : Int32) : pl w q t = pl w' q t := by
  unfold pl
  rw [h _ (by omega), h _ (by omega)]
theorem cvb_ext {w w' : Wf} (h : ∀ j, j < 33 → w j = w' j) {q : Nat} (hq : q < 4) (r c : Nat) (t : Int32) : cvb w q r c t = cvb w' q r c t := by
  unfold cvb
  rw [pl_ext h hq, h _ (by omega), h _ (by omega), h _ (by omega)]
theorem raw_ext {w w' : Wf} (h : ∀ j, j < 33 → w j = w' j) (r c : Nat) (t : Int32) : ∀ {tc : Nat}, tc ≤ 4 → raw w r c t tc = raw w' r c t tc
  | 0, _ => h 4 (by omega)
  | q + 1, h4 => by
    unfold raw
    rw [cvb_ext h (by omega), h _ (by omega), raw_ext h r c t (by omega)]
theorem dkb_ext {w w' : Wf} (h : ∀ j, j < 33 → w j = w' j) (t : Int32) : dkb w t = dkb w' t := by
  unfold dkb
  rw [h 5 (by omega), h 6 (by omega)]
theorem sh_ext {w w' : Wf} (h : ∀ j, j < 33 → w j = w' j) {tc : Nat} (h4 : tc ≤ 4) (r c : Nat) (t : Int32) : sh w tc r c t = sh w' tc r c t := by
  unfold sh
  rw [dkb_ext h, raw_ext h r c t h4, h 7 (by omega)]
theorem e_drops {S : St} (hn : S.2.2 = 131) {a i fc : Nat} (ha : isW a) (hfc : S.1 a 36 = nI fc) (h5 : fc ≤ 5) (hi : i < fc) : ∃ S', f_X8_drops S a (nI i) = some S' ∧ Ex (fun x _ => x = a) S S' ∧ ∀ j, j < 867 → S'.1 a j = if j = 36 then nI (fc - 1) else if 37 + 162 * i ≤ j ∧ j < 37 + 162 * (fc - 1) then S.1 a (j + 162) else S.1 a j := by
  unfold f_X8_drops
  rw [L37, L162, q_mul, q_add]
  obtain ⟨S', h1, h2⟩ := wl2_inv (F := f_X8_drops_B9 a (fun S_2 => chk (ina S_2 10 a 36) (chk (inw S_2 10 a 36) (vlt (upI S_2 a (36 : Int32).toNatClampNeg ((S_2.1 a (36 : Int32).toNatClampNeg) - 1)) fun S_3 => some S_3)))) (kx := fun S_2 => chk (ina S_2 10 a 36) (chk (inw S_2 10 a 36) (vlt (upI S_2 a (36 : Int32).toNatClampNeg ((S_2.1 a (36 : Int32).toNatClampNeg) - 1)) fun S_3 => some S_3))) (n := 37 + 162 * (fc - 1)) (fun x S' => 37 + 162 * i ≤ x ∧ Ex (fun x _ => x = a) S S' ∧ ∀ j, j < 867 → S'.1 a j = if 37 + 162 * i ≤ j ∧ j < x then S.1 a (j + 162) else S.1 a j) (fun x S1 kk hx hP => by
    unfold f_X8_drops_B9
    have hn1 : S1.2.2 = 131 := by rw [hP.2.1.n, hn]
    have e36 : S1.1 a 36 = nI fc := by rw [hP.2.2 36 (by omega), if_neg (by omega), hfc]
    simp only [L36, ckW hn1 ha (show 36 < 867 by omega), q_cl (show 36 < 2147483648 by omega), e36]
    rw [L37, L162, L1, q_sub (by omega), q_mul, q_add, q_add, q_add]
    have hlo := hP.1
    rw [if_neg (by rw [q_le (by omega) (by omega)]; omega), ckW hn1 ha (by omega), cwW hn1 ha (by omega), q_cl (by omega), q_cl (by omega), vlt_s]
    refine ⟨_, ⟨by omega, hP.2.1.tr (Ex.up rfl), fun j hj => ?_⟩, rfl⟩
    rw [upI_at]
    by_cases hj2 : j = x
    · subst hj2
      rw [if_pos ⟨rfl, rfl⟩, if_pos (by omega), hP.2.2 _ (by omega), if_neg (by omega)]
    · rw [if_neg (by omega), hP.2.2 j hj]
      have : (37 + 162 * i ≤ j ∧ j < x) = (37 + 162 * i ≤ j ∧ j < x + 1) := by
        apply propext; omega
      simp only [this]) (fun S1 kk hP => by
    unfold f_X8_drops_B9
    have hn1 : S1.2.2 = 131 := by rw [hP.2.1.n, hn]
    have e36 : S1.1 a 36 = nI fc := by rw [hP.2.2 36 (by omega), if_neg (by omega), hfc]
    simp only [L36, ckW hn1 ha (show 36 < 867 by omega), q_cl (show 36 < 2147483648 by omega), e36]
    rw [L37, L162, L1, q_sub (by omega), q_mul, q_add, if_pos (Int32.le_refl _)]) (162 * (fc - 1 - i)) (37 + 162 * i) FU S (by omega) (by show _ < 1000000; omega) ⟨Nat.le_refl _, Ex.rf, fun j hj => by rw [if_neg (by omega)]⟩
  rw [h2]
  have hn1 : S'.2.2 = 131 := by rw [h1.2.1.n, hn]
  have e36 : S'.1 a 36 = nI fc := by rw [h1.2.2 36 (by omega), if_neg (by omega), hfc]
  simp only [L36, ckW hn1 ha (show 36 < 867 by omega), cwW hn1 ha (show 36 < 867 by omega), q_cl (show 36 < 2147483648 by omega), e36, vlt_s]
  refine ⟨_, rfl, h1.2.1.tr (Ex.up rfl), fun j hj => ?_⟩
  rw [upI_at]
  by_cases hj : j = 36
  · rw [if_pos ⟨rfl, hj⟩, if_pos hj, L1, q_sub (by omega)]
  · rw [if_neg (fun z => hj z.2), if_neg hj]
    exact h1.2.2 j (by omega)
