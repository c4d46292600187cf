theorem Ex.upa {S S' : St} {a j : Nat} {v : Int32} (h : Ex (fun x _ => x = a) S S') : Ex (fun x _ => x = a) S (upI S' a j v) := h.tr (Ex.up rfl)
theorem l_takes {S : St} (hn : S.2.2 = 131) {a v R C tc : Nat} (ha : isW a) (hR : S.1 a 0 = nI R) (hR10 : R ≤ 10) (hC : S.1 a 1 = nI C) (hC16 : C ≤ 16) (htc : S.1 a 8 = nI tc) (h4 : tc ≤ 4) (hv : 37 ≤ v) (hv2 : v + 162 ≤ 867) (kx : St → Option St) : ∃ S', wl2 (f_X8_takes_B43 a (nI v) kx) FU S 0 = kx S' ∧ Ex (fun x _ => x = a) S S' ∧ (∀ r, r < R → ∀ c, c < C → S'.1 a (v + 2 + 16 * r + c) = sh (S.1 a) tc r c (S.1 a 33 + nI r * S.1 a 2)) ∧ ∀ j, j < 867 → (j < v + 2 ∨ v + 162 ≤ j) → S'.1 a j = S.1 a j := by
  obtain ⟨S', h1, h2⟩ := wl2_inv (F := f_X8_takes_B43 a (nI v) kx) (kx := kx) (n := R) (fun i S' => Ex (fun x _ => x = a) S S' ∧ (∀ r, r < i → ∀ c, c < C → S'.1 a (v + 2 + 16 * r + c) = sh (S.1 a) tc r c (S.1 a 33 + nI r * S.1 a 2)) ∧ ∀ j, j < 867 → (j < v + 2 ∨ v + 162 ≤ j) → S'.1 a j = S.1 a j) (fun i S1 kk hi hP => by
    unfold f_X8_takes_B43
    have hn1 : S1.2.2 = 131 := by rw [hP.1.n, hn]
    have e0 : S1.1 a 0 = nI R := by rw [hP.2.2 0 (by omega) (by omega), hR]
    simp only [L0, ckW hn1 ha (show 0 < 867 by omega), q_cl (show 0 < 2147483648 by omega), e0]
    rw [if_neg (by rw [q_le (by omega) (by omega)]; omega), L1, q_add]
    obtain ⟨S3, g1, g2⟩ := wl2_inv (F := f_X8_takes_B52 a (nI v) (nI i) (fun S_6 => kk S_6 (nI (i + 1)))) (kx := fun S_6 => kk S_6 (nI (i + 1))) (n := C) (fun c S' => Ex (fun x _ => x = a) S S' ∧ (∀ r, (r < i ∨ r = i) → ∀ d, d < C → (r < i ∨ d < c) → S'.1 a (v + 2 + 16 * r + d) = sh (S.1 a) tc r d (S.1 a 33 + nI r * S.1 a 2)) ∧ ∀ j, j < 867 → (j < v + 2 ∨ v + 162 ≤ j) → S'.1 a j = S.1 a j) (fun c S2 k2 hc hQ => by
      unfold f_X8_takes_B52
      have hn2 : S2.2.2 = 131 := by rw [hQ.1.n, hn]
      have f1 : S2.1 a 1 = nI C := by rw [hQ.2.2 1 (by omega) (by omega), hC]
      have f8 : S2.1 a 8 = nI tc := by rw [hQ.2.2 8 (by omega) (by omega), htc]
      have f2 : S2.1 a 2 = S.1 a 2 := hQ.2.2 2 (by omega) (by omega)
      have f33 : S2.1 a 33 = S.1 a 33 := hQ.2.2 33 (by omega) (by omega)
      simp only [L1, L2, L33, L16, ckW hn2 ha (show 1 < 867 by omega), ckW hn2 ha (show 2 < 867 by omega), ckW hn2 ha (show 33 < 867 by omega), q_cl (show 1 < 2147483648 by omega), q_cl (show 2 < 2147483648 by omega), q_cl (show 33 < 2147483648 by omega), f1, f2, f33, q_mul, q_add]
      rw [if_neg (by rw [q_le (by omega) (by omega)]; omega), e_shown hn2 ha f8 h4, bnd_s, cwW hn2 ha (by omega), q_cl (by omega), vlt_s]
      refine ⟨_, ⟨hQ.1.tr (Ex.up rfl), fun r hr d hd hrd => ?_, fun j hj hj2 => ?_⟩, rfl⟩
      · rw [upI_at]
        by_cases he : v + 2 + 16 * r + d = v + 2 + 16 * i + c
        · have e1 : r = i := by omega
          have e2 : d = c := by omega
          subst e1
          subst e2
          rw [if_pos ⟨rfl, rfl⟩]
          exact sh_ext (fun j hj => hQ.2.2 j (by omega) (by omega)) h4 _ _ _
        · rw [if_neg (fun z => he z.2)]
          exact hQ.2.1 r hr d hd (by
            rcases hrd with q | q
            · exact Or.inl q
            · rcases hr with q2 | q2
              · exact Or.inl q2
              · right
                subst q2
                omega)
      · rw [upI_at, if_neg (by omega)]
        exact hQ.2.2 j hj hj2) (fun S2 k2 hQ => by
      unfold f_X8_takes_B52
      have hn2 : S2.2.2 = 131 := by rw [hQ.1.n, hn]
      have f1 : S2.1 a 1 = nI C := by rw [hQ.2.2 1 (by omega) (by omega), hC]
      simp only [L1, ckW hn2 ha (show 1 < 867 by omega), q_cl (show 1 < 2147483648 by omega), f1]
      rw [if_pos (Int32.le_refl _)]) C 0 FU S1 (by omega) (by show C < 1000000; omega) ⟨hP.1, fun r hr d hd hrd => hP.2.1 r (by omega) d hd, hP.2.2⟩
    exact ⟨S3, ⟨g1.1, fun r hr c hc => g1.2.1 r (by omega) c hc (by omega), g1.2.2⟩, g2⟩) (fun S1 kk hP => by
    unfold f_X8_takes_B43
    have hn1 : S1.2.2 = 131 := by rw [hP.1.n, hn]
    have e0 : S1.1 a 0 = nI R := by rw [hP.2.2 0 (by omega) (by omega), hR]
    simp only [L0, ckW hn1 ha (show 0 < 867 by omega), q_cl (show 0 < 2147483648 by omega), e0]
    rw [if_pos (Int32.le_refl _)]) R 0 FU S (by omega) (by show R < 1000000; omega) ⟨Ex.rf, fun r hr => by omega, fun _ _ _ => rfl⟩
  exact ⟨S', h2, h1.1, h1.2.1, h1.2.2⟩
/-- a row of numbers behind a frame taken as the fc-th -/
def Tk (w w' : Wf) (R C tc fc : Nat) : Prop := w' 36 = nI (fc + 1) ∧ w' 35 = w 35 + 1 ∧ w' (37 + 162 * fc) = w 33 ∧ w' (38 + 162 * fc) = w 34 ∧ (∀ r, r < R → ∀ c, c < C → w' (39 + 162 * fc + 16 * r + c) = sh w tc r c (w 33 + nI r * w 2)) ∧ ∀ j, j < 867 → j ≠ 35 → j ≠ 36 → (j < 37 + 162 * fc ∨ 199 + 162 * fc ≤ j) → w' j = w j
theorem e_takesJ {S : St} (hn : S.2.2 = 131) {a R C tc fc : Nat} (ha : isW a) (hR : S.1 a 0 = nI R) (hR10 : R ≤ 10) (hC : S.1 a 1 = nI C) (hC16 : C ≤ 16) (htc : S.1 a 8 = nI tc) (h4 : tc ≤ 4) (hfc : S.1 a 36 = nI fc) (h5 : fc < 5) : ∃ S', f_X8_takes_J13 S a = some S' ∧ Ex (fun x _ => x = a) S S' ∧ Tk (S.1 a) (S'.1 a) R C tc fc := by
  unfold f_X8_takes_J13
  simp only [L36, L37, L162, L33, L34, L35, L1, ckW hn ha (show 36 < 867 by omega), ckW hn ha (show 33 < 867 by omega), q_cl (show 36 < 2147483648 by omega), q_cl (show 33 < 2147483648 by omega), q_cl (show 34 < 2147483648 by omega), q_cl (show 35 < 2147483648 by omega), hfc, q_mul, q_add, vlt_s]
  rw [cwW hn ha (by omega), q_cl (by omega), ckW (by rw [upI_n]; exact hn) ha (by omega), cwW (by rw [upI_n]; exact hn) ha (by omega)]
  simp only [q_cl (show 37 + 162 * fc + 1 < 2147483648 by omega)]
  generalize hS3 : upI (upI S a (37 + 162 * fc) (S.1 a 33)) a (37 + 162 * fc + 1) ((upI S a (37 + 162 * fc) (S.1 a 33)).1 a 34) = S3
  have ex3 : Ex (fun x _ => x = a) S S3 := by
    rw [← hS3]
    exact (Ex.rf.upa).upa
  have at3 : ∀ j, S3.1 a j = if j = 38 + 162 * fc then S.1 a 34 else if j = 37 + 162 * fc then S.1 a 33 else S.1 a j := by
    intro j
    rw [← hS3, upI_at, upI_at, upI_at]
    by_cases h1 : j = 38 + 162 * fc
    · rw [if_pos ⟨rfl, by omega⟩, if_pos h1, if_neg (by omega)]
    · rw [if_neg (by omega), if_neg h1]
      by_cases h2 : j = 37 + 162 * fc
      · rw [if_pos ⟨rfl, h2⟩, if_pos h2]
      · rw [if_neg (by omega), if_neg h2]
  have lo3 : ∀ j, j < 37 → S3.1 a j = S.1 a j := fun j hj => by rw [at3, if_neg (by omega), if_neg (by omega)]
  have hn3 : S3.2.2 = 131 := by rw [ex3.n, hn]
  obtain ⟨S4, g1, g2, g3, g4⟩ := l_takes hn3 (v := 37 + 162 * fc) ha (by rw [lo3 0 (by omega)]; exact hR) hR10 (by rw [lo3 1 (by omega)]; exact hC) hC16 (by rw [lo3 8 (by omega)]; exact htc) h4 (by omega) (by omega) (fun S_7 => chk (ina S_7 10 a (nI 36)) (chk (inw S_7 10 a (nI 36)) (vlt (upI S_7 a 36 ((S_7.1 a 36) + nI 1)) fun S_8 => chk (ina S_8 10 a (nI 35)) (chk (inw S_8 10 a (nI 35)) (vlt (upI S_8 a 35 ((S_8.1 a 35) + nI 1)) fun S_9 => some S_9)))))
  have hn4 : S4.2.2 = 131 := by rw [g2.n, hn3]
  refine ⟨upI (upI S4 a 36 (S4.1 a 36 + nI 1)) a 35 ((upI S4 a 36 (S4.1 a 36 + nI 1)).1 a 35 + nI 1), g1.trans ?_, ((ex3.tr g2).upa).upa, ?_, ?_, ?_, ?_, ?_, ?_⟩
  · simp only [vlt_s]
    rw [ckW hn4 ha (by omega), cwW hn4 ha (by omega), ckW (by rw [upI_n]; exact hn4) ha (by omega), cwW (by rw [upI_n]; exact hn4) ha (by omega)]
  · rw [upI_at, if_neg (by omega), upI_at, if_pos ⟨rfl, rfl⟩, g4 36 (by omega) (by omega), lo3 36 (by omega), hfc, q_add]
  · rw [upI_at, if_pos ⟨rfl, rfl⟩, upI_at, if_neg (by omega), g4 35 (by omega) (by omega), lo3 35 (by omega)]
    rfl
  · rw [upI_at, if_neg (by omega), upI_at, if_neg (by omega), g4 _ (by omega) (by omega), at3, if_neg (by omega), if_pos rfl]
  · rw [upI_at, if_neg (by omega), upI_at, if_neg (by omega), g4 _ (by omega) (by omega), at3, if_pos rfl]
  · intro r hr c hc
    have := g3 r hr c hc
    rw [upI_at, if_neg (by omega), upI_at, if_neg (by omega), show 39 + 162 * fc + 16 * r + c = 37 + 162 * fc + 2 + 16 * r + c by omega, this, lo3 33 (by omega), lo3 2 (by omega)]
    exact sh_ext (fun j hj => lo3 j (by omega)) h4 _ _ _
  · intro j hj h35 h36 hjr
    rw [upI_at, if_neg (by omega), upI_at, if_neg (by omega), g4 j hj (by omega), at3, if_neg (by omega), if_neg (by omega)]
theorem e_takes {S : St} (hn : S.2.2 = 131) {a R C tc fc : Nat} (ha : isW a) (hR : S.1 a 0 = nI R) (hR10 : R ≤ 10) (hC : S.1 a 1 = nI C) (hC16 : C ≤ 16) (htc : S.1 a 8 = nI tc) (h4 : tc ≤ 4) (hfc : S.1 a 36 = nI fc) (h5 : fc ≤ 5) : ∃ S1 S' : St, f_X8_takes S a = some S' ∧ Ex (fun x _ => x = a) S S' ∧ Tk (S1.1 a) (S'.1 a) R C tc (if fc = 5 then 4 else fc) ∧ ∀ j, j < 867 → S1.1 a j = if fc = 5 then (if j = 36 then nI 4 else if 37 ≤ j ∧ j < 37 + 162 * 4 then S.1 a (j + 162) else S.1 a j) else S.1 a j := by
  unfold f_X8_takes
  simp only [L36, ckW hn ha (show 36 < 867 by omega), q_cl (show 36 < 2147483648 by omega), hfc]
  by_cases hf : fc = 5
  · subst hf
    rw [if_pos rfl, if_pos (show nI 5 = (5 : Int32) from rfl)]
    obtain ⟨S1, g1, g2, g3⟩ := e_drops hn ha (i := 0) hfc (by omega) (by omega)
    rw [L0, g1, bnd_s]
    have hn1 : S1.2.2 = 131 := by rw [g2.n, hn]
    have lo : ∀ j, j < 36 → S1.1 a j = S.1 a j := fun j hj => by rw [g3 j (by omega), if_neg (by omega), if_neg (by omega)]
    obtain ⟨S2, p1, p2, p3⟩ := e_takesJ hn1 ha (fc := 4) (by rw [lo 0 (by omega)]; exact hR) hR10 (by rw [lo 1 (by omega)]; exact hC) hC16 (by rw [lo 8 (by omega)]; exact htc) h4 (by rw [g3 36 (by omega), if_pos rfl]) (by omega)
    refine ⟨S1, S2, p1, g2.tr p2, p3, fun j hj => ?_⟩
    rw [if_pos rfl]
    exact g3 j hj
  · rw [if_neg (by rw [L5, q_eq (by omega) (by omega)]; exact hf), if_neg hf]
    obtain ⟨S2, p1, p2, p3⟩ := e_takesJ hn ha hR hR10 hC hC16 htc h4 hfc (by omega)
    refine ⟨S, S2, p1, p2, p3, fun j hj => ?_⟩
    rw [if_neg hf]
