/-! THE MODEL TAKES A FRAME: all that is in the row then -/
def takf (w : Wf) (R C tc fc : Nat) : Wf := fun j => if j = 36 then nI (fc + 1) else if j = 35 then w 35 + 1 else if j = 37 + 162 * fc then w 33 else if j = 38 + 162 * fc then w 34 else if (39 + 162 * fc ≤ j ∧ j < 199 + 162 * fc) ∧ (j - (39 + 162 * fc)) / 16 < R ∧ (j - (39 + 162 * fc)) % 16 < C then sh w tc ((j - (39 + 162 * fc)) / 16) ((j - (39 + 162 * fc)) % 16) (w 33 + nI ((j - (39 + 162 * fc)) / 16) * w 2) else w j
theorem takf_tk {w : Wf} {R C tc fc : Nat} (hR : R ≤ 10) (hC : C ≤ 16) : Tk w (takf w R C tc fc) R C tc fc := by
  unfold Tk takf
  refine ⟨if_pos rfl, by rw [if_neg (by omega), if_pos rfl], by rw [if_neg (by omega), if_neg (by omega), if_pos rfl], by rw [if_neg (by omega), if_neg (by omega), if_neg (by omega), if_pos rfl], fun r hr c hc => ?_, fun j hj h1 h2 h3 => by rw [if_neg h2, if_neg h1, if_neg (by omega), if_neg (by omega), if_neg (by omega)]⟩
  have e1 : (39 + 162 * fc + 16 * r + c - (39 + 162 * fc)) / 16 = r := by omega
  have e2 : (39 + 162 * fc + 16 * r + c - (39 + 162 * fc)) % 16 = c := by omega
  rw [if_neg (by omega), if_neg (by omega), if_neg (by omega), if_neg (by omega), if_pos (by omega), e1, e2]
theorem takf_ext {w w' : Wf} {R C tc fc : Nat} (h : ∀ j, j < 867 → w j = w' j) (h4 : tc ≤ 4) : ∀ j, j < 867 → takf w R C tc fc j = takf w' R C tc fc j := fun j hj => by
  unfold takf
  rw [h 35 (by omega), h 33 (by omega), h 34 (by omega), h j hj, h 2 (by omega), sh_ext (fun j hj => h j (by omega)) h4]
theorem wpre_ext {w w' : Wf} {fc : Nat} (h : ∀ j, j < 867 → w j = w' j) : ∀ j, j < 867 → wpre w fc j = wpre w' fc j := fun j hj => by
  unfold wpre
  by_cases c : fc = 5
  · rw [if_pos c, if_pos c]
    by_cases c2 : j = 36
    · rw [if_pos c2, if_pos c2]
    · rw [if_neg c2, if_neg c2]
      by_cases c3 : 37 ≤ j ∧ j < 37 + 162 * 4
      · rw [if_pos c3, if_pos c3]
        exact h _ (by omega)
      · rw [if_neg c3, if_neg c3]
        exact h j hj
  · rw [if_neg c, if_neg c]
    exact h j hj
theorem l_takesX {S : St} (hn : S.2.2 = 131) {a v R C tc : Nat} (ha : isW a) (hR : S.1 a 0 = nI R) (hR10 : R ≤ 10) (hC : S.1 a 1 = nI C) (hC16 : C ≤ 16) (htc : S.1 a 8 = nI tc) (h4 : tc ≤ 4) (hv : 37 ≤ v) (hv2 : v + 162 ≤ 867) (kx : St → Option St) : ∃ S', wl2 (f_X8_takes_B43 a (nI v) kx) FU S 0 = kx S' ∧ Ex (fun x _ => x = a) S S' ∧ ∀ j, j < 867 → S'.1 a j = if (v + 2 ≤ j ∧ j < v + 162) ∧ (j - (v + 2)) / 16 < R ∧ (j - (v + 2)) % 16 < C then sh (S.1 a) tc ((j - (v + 2)) / 16) ((j - (v + 2)) % 16) (S.1 a 33 + nI ((j - (v + 2)) / 16) * S.1 a 2) else S.1 a j := by
  obtain ⟨S', h1, h2⟩ := wl2_inv (F := f_X8_takes_B43 a (nI v) kx) (kx := kx) (n := R) (fun i S' => Ex (fun x _ => x = a) S S' ∧ ∀ j, j < 867 → S'.1 a j = if (v + 2 ≤ j ∧ j < v + 162) ∧ (j - (v + 2)) / 16 < i ∧ (j - (v + 2)) % 16 < C then sh (S.1 a) tc ((j - (v + 2)) / 16) ((j - (v + 2)) % 16) (S.1 a 33 + nI ((j - (v + 2)) / 16) * S.1 a 2) else S.1 a j) (fun i S1 kk hi hP => by
    unfold f_X8_takes_B43
    have hn1 : S1.2.2 = 131 := by rw [hP.1.n, hn]
    have e0 : S1.1 a 0 = nI R := by rw [hP.2 0 (by omega), if_neg (by omega), hR]
    simp only [L0, ckW hn1 ha (show 0 < 867 by omega), q_cl (show 0 < 2147483648 by omega), e0]
    rw [if_neg (by rw [q_le (by omega) (by omega)]; omega), L1, q_add]
    obtain ⟨S3, g1, g2⟩ := wl2_inv (F := f_X8_takes_B52 a (nI v) (nI i) (fun S_6 => kk S_6 (nI (i + 1)))) (kx := fun S_6 => kk S_6 (nI (i + 1))) (n := C) (fun c S' => Ex (fun x _ => x = a) S S' ∧ ∀ j, j < 867 → S'.1 a j = if (v + 2 ≤ j ∧ j < v + 162) ∧ (((j - (v + 2)) / 16 < i ∧ (j - (v + 2)) % 16 < C) ∨ ((j - (v + 2)) / 16 = i ∧ (j - (v + 2)) % 16 < c)) then sh (S.1 a) tc ((j - (v + 2)) / 16) ((j - (v + 2)) % 16) (S.1 a 33 + nI ((j - (v + 2)) / 16) * S.1 a 2) else S.1 a j) (fun c S2 k2 hc hQ => by
      unfold f_X8_takes_B52
      have hn2 : S2.2.2 = 131 := by rw [hQ.1.n, hn]
      have f1 : S2.1 a 1 = nI C := by rw [hQ.2 1 (by omega), if_neg (by omega), hC]
      have f8 : S2.1 a 8 = nI tc := by rw [hQ.2 8 (by omega), if_neg (by omega), htc]
      have f2 : S2.1 a 2 = S.1 a 2 := by rw [hQ.2 2 (by omega), if_neg (by omega)]
      have f33 : S2.1 a 33 = S.1 a 33 := by rw [hQ.2 33 (by omega), if_neg (by omega)]
      simp only [L1, L2, L33, L16, ckW hn2 ha (show 1 < 867 by omega), ckW hn2 ha (show 2 < 867 by omega), ckW hn2 ha (show 33 < 867 by omega), q_cl (show 1 < 2147483648 by omega), q_cl (show 2 < 2147483648 by omega), q_cl (show 33 < 2147483648 by omega), f1, f2, f33, q_mul, q_add]
      rw [if_neg (by rw [q_le (by omega) (by omega)]; omega), e_shown hn2 ha f8 h4, bnd_s, cwW hn2 ha (by omega), q_cl (by omega), vlt_s]
      refine ⟨_, ⟨hQ.1.tr (Ex.up rfl), fun j hj => ?_⟩, rfl⟩
      rw [upI_at]
      by_cases he : j = v + 2 + 16 * i + c
      · have e1 : (j - (v + 2)) / 16 = i := by omega
        have e2 : (j - (v + 2)) % 16 = c := by omega
        rw [if_pos ⟨rfl, he⟩, e1, e2, if_pos (by omega)]
        exact sh_ext (fun j hj => by rw [hQ.2 j (by omega), if_neg (by omega)]) h4 _ _ _
      · rw [if_neg (fun z => he z.2), hQ.2 j hj]
        have hx : ((v + 2 ≤ j ∧ j < v + 162) ∧ (((j - (v + 2)) / 16 < i ∧ (j - (v + 2)) % 16 < C) ∨ ((j - (v + 2)) / 16 = i ∧ (j - (v + 2)) % 16 < c))) ↔ ((v + 2 ≤ j ∧ j < v + 162) ∧ (((j - (v + 2)) / 16 < i ∧ (j - (v + 2)) % 16 < C) ∨ ((j - (v + 2)) / 16 = i ∧ (j - (v + 2)) % 16 < c + 1))) := by omega
        by_cases hy : (v + 2 ≤ j ∧ j < v + 162) ∧ (((j - (v + 2)) / 16 < i ∧ (j - (v + 2)) % 16 < C) ∨ ((j - (v + 2)) / 16 = i ∧ (j - (v + 2)) % 16 < c))
        · rw [if_pos hy, if_pos (hx.1 hy)]
        · rw [if_neg hy, if_neg (fun z => hy (hx.2 z))]) (fun S2 k2 hQ => by
      unfold f_X8_takes_B52
      have hn2 : S2.2.2 = 131 := by rw [hQ.1.n, hn]
      have f1 : S2.1 a 1 = nI C := by rw [hQ.2 1 (by omega), if_neg (by omega), hC]
      simp only [L1, ckW hn2 ha (show 1 < 867 by omega), q_cl (show 1 < 2147483648 by omega), f1]
      rw [if_pos (Int32.le_refl _)]) C 0 FU S1 (by omega) (by show C < 1000000; omega) ⟨hP.1, fun j hj => by
        rw [hP.2 j hj]
        by_cases hy : (v + 2 ≤ j ∧ j < v + 162) ∧ (j - (v + 2)) / 16 < i ∧ (j - (v + 2)) % 16 < C
        · rw [if_pos hy, if_pos (by omega)]
        · rw [if_neg hy, if_neg (by omega)]⟩
    refine ⟨S3, ⟨g1.1, fun j hj => ?_⟩, g2⟩
    rw [g1.2 j hj]
    by_cases hy : (v + 2 ≤ j ∧ j < v + 162) ∧ (j - (v + 2)) / 16 < i + 1 ∧ (j - (v + 2)) % 16 < C
    · rw [if_pos hy, if_pos (by omega)]
    · rw [if_neg hy, if_neg (by omega)]) (fun S1 kk hP => by
    unfold f_X8_takes_B43
    have hn1 : S1.2.2 = 131 := by rw [hP.1.n, hn]
    have e0 : S1.1 a 0 = nI R := by rw [hP.2 0 (by omega), if_neg (by omega), hR]
    simp only [L0, ckW hn1 ha (show 0 < 867 by omega), q_cl (show 0 < 2147483648 by omega), e0]
    rw [if_pos (Int32.le_refl _)]) R 0 FU S (by omega) (by show R < 1000000; omega) ⟨Ex.rf, fun j hj => by rw [if_neg (by omega)]⟩
  exact ⟨S', h2, h1.1, h1.2⟩
theorem e_takesJX {S : St} (hn : S.2.2 = 131) {a R C tc fc : Nat} (ha : isW a) (hR : S.1 a 0 = nI R) (hR10 : R ≤ 10) (hC : S.1 a 1 = nI C) (hC16 : C ≤ 16) (htc : S.1 a 8 = nI tc) (h4 : tc ≤ 4) (hfc : S.1 a 36 = nI fc) (h5 : fc < 5) : ∃ S', f_X8_takes_J13 S a = some S' ∧ Ex (fun x _ => x = a) S S' ∧ ∀ j, j < 867 → S'.1 a j = takf (S.1 a) R C tc fc j := by
  unfold f_X8_takes_J13
  simp only [L36, L37, L162, L33, L34, L35, L1, ckW hn ha (show 36 < 867 by omega), ckW hn ha (show 33 < 867 by omega), q_cl (show 36 < 2147483648 by omega), q_cl (show 33 < 2147483648 by omega), q_cl (show 34 < 2147483648 by omega), q_cl (show 35 < 2147483648 by omega), hfc, q_mul, q_add, vlt_s]
  rw [cwW hn ha (by omega), q_cl (by omega), ckW (by rw [upI_n]; exact hn) ha (by omega), cwW (by rw [upI_n]; exact hn) ha (by omega)]
  simp only [q_cl (show 37 + 162 * fc + 1 < 2147483648 by omega)]
  generalize hS3 : upI (upI S a (37 + 162 * fc) (S.1 a 33)) a (37 + 162 * fc + 1) ((upI S a (37 + 162 * fc) (S.1 a 33)).1 a 34) = S3
  have ex3 : Ex (fun x _ => x = a) S S3 := by
    rw [← hS3]
    exact (Ex.rf.upa).upa
  have at3 : ∀ j, S3.1 a j = if j = 38 + 162 * fc then S.1 a 34 else if j = 37 + 162 * fc then S.1 a 33 else S.1 a j := by
    intro j
    rw [← hS3, upI_at, upI_at, upI_at]
    by_cases h1 : j = 38 + 162 * fc
    · rw [if_pos ⟨rfl, by omega⟩, if_pos h1, if_neg (by omega)]
    · rw [if_neg (by omega), if_neg h1]
      by_cases h2 : j = 37 + 162 * fc
      · rw [if_pos ⟨rfl, h2⟩, if_pos h2]
      · rw [if_neg (by omega), if_neg h2]
  have lo3 : ∀ j, j < 37 → S3.1 a j = S.1 a j := fun j hj => by rw [at3, if_neg (by omega), if_neg (by omega)]
  have hn3 : S3.2.2 = 131 := by rw [ex3.n, hn]
  obtain ⟨S4, g1, g2, g3⟩ := l_takesX hn3 (v := 37 + 162 * fc) ha (by rw [lo3 0 (by omega)]; exact hR) hR10 (by rw [lo3 1 (by omega)]; exact hC) hC16 (by rw [lo3 8 (by omega)]; exact htc) h4 (by omega) (by omega) (fun S_7 => chk (ina S_7 10 a (nI 36)) (chk (inw S_7 10 a (nI 36)) (vlt (upI S_7 a 36 ((S_7.1 a 36) + nI 1)) fun S_8 => chk (ina S_8 10 a (nI 35)) (chk (inw S_8 10 a (nI 35)) (vlt (upI S_8 a 35 ((S_8.1 a 35) + nI 1)) fun S_9 => some S_9)))))
  have hn4 : S4.2.2 = 131 := by rw [g2.n, hn3]
  refine ⟨upI (upI S4 a 36 (S4.1 a 36 + nI 1)) a 35 ((upI S4 a 36 (S4.1 a 36 + nI 1)).1 a 35 + nI 1), g1.trans ?_, ((ex3.tr g2).upa).upa, fun j hj => ?_⟩
  · simp only [vlt_s]
    rw [ckW hn4 ha (by omega), cwW hn4 ha (by omega), ckW (by rw [upI_n]; exact hn4) ha (by omega), cwW (by rw [upI_n]; exact hn4) ha (by omega)]
  · unfold takf
    rw [upI_at]
    by_cases c35 : j = 35
    · rw [if_pos ⟨rfl, c35⟩, if_neg (by omega), if_pos c35, upI_at, if_neg (by omega), g3 35 (by omega), if_neg (by omega), lo3 35 (by omega)]
      rfl
    · rw [if_neg (fun z => c35 z.2), upI_at]
      by_cases c36 : j = 36
      · rw [if_pos ⟨rfl, c36⟩, if_pos c36, g3 36 (by omega), if_neg (by omega), lo3 36 (by omega), hfc, q_add]
      · rw [if_neg (fun z => c36 z.2), if_neg c36, if_neg c35, g3 j hj]
        have e39 : 37 + 162 * fc + 2 = 39 + 162 * fc := by omega
        have e199 : 37 + 162 * fc + 162 = 199 + 162 * fc := by omega
        rw [e39, e199]
        by_cases hy : (39 + 162 * fc ≤ j ∧ j < 199 + 162 * fc) ∧ (j - (39 + 162 * fc)) / 16 < R ∧ (j - (39 + 162 * fc)) % 16 < C
        · rw [if_pos hy, if_neg (by omega), if_neg (by omega), if_pos hy, lo3 33 (by omega), lo3 2 (by omega)]
          exact sh_ext (fun j hj => lo3 j (by omega)) h4 _ _ _
        · rw [if_neg hy, if_neg hy, at3]
          by_cases c38 : j = 38 + 162 * fc
          · rw [if_pos c38, if_neg (by omega), if_pos c38]
          · rw [if_neg c38, if_neg c38]
theorem e_takesX {S : St} (hn : S.2.2 = 131) {a R C tc fc : Nat} (ha : isW a) (hR : S.1 a 0 = nI R) (hR10 : R ≤ 10) (hC : S.1 a 1 = nI C) (hC16 : C ≤ 16) (htc : S.1 a 8 = nI tc) (h4 : tc ≤ 4) (hfc : S.1 a 36 = nI fc) (h5 : fc ≤ 5) : ∃ S' : St, f_X8_takes S a = some S' ∧ Ex (fun x _ => x = a) S S' ∧ ∀ j, j < 867 → S'.1 a j = takf (wpre (S.1 a) fc) R C tc (fpre fc) j := by
  unfold f_X8_takes fpre
  simp only [L36, ckW hn ha (show 36 < 867 by omega), q_cl (show 36 < 2147483648 by omega), hfc]
  by_cases hf : fc = 5
  · subst hf
    rw [if_pos rfl, if_pos (show nI 5 = (5 : Int32) from rfl)]
    obtain ⟨S1, g1, g2, g3⟩ := e_drops hn ha (i := 0) hfc (by omega) (by omega)
    rw [L0, g1, bnd_s]
    have hn1 : S1.2.2 = 131 := by rw [g2.n, hn]
    have lo : ∀ j, j < 36 → S1.1 a j = S.1 a j := fun j hj => by rw [g3 j (by omega), if_neg (by omega), if_neg (by omega)]
    obtain ⟨S2, p1, p2, p3⟩ := e_takesJX hn1 ha (fc := 4) (by rw [lo 0 (by omega)]; exact hR) hR10 (by rw [lo 1 (by omega)]; exact hC) hC16 (by rw [lo 8 (by omega)]; exact htc) h4 (by rw [g3 36 (by omega), if_pos rfl]) (by omega)
    refine ⟨S2, p1, g2.tr p2, fun j hj => ?_⟩
    rw [p3 j hj]
    refine takf_ext (fun j hj => ?_) h4 j hj
    rw [g3 j hj]
    unfold wpre
    rw [if_pos rfl]
  · rw [if_neg (by rw [L5, q_eq (by omega) (by omega)]; exact hf), if_neg hf]
    obtain ⟨S2, p1, p2, p3⟩ := e_takesJX hn ha hR hR10 hC hC16 htc h4 hfc (by omega)
    refine ⟨S2, p1, p2, fun j hj => ?_⟩
    rw [p3 j hj]
    refine takf_ext (fun j hj => ?_) h4 j hj
    unfold wpre
    rw [if_neg hf]
