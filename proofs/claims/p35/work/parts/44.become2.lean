theorem e_become {S : St} (hs : CSh S) {k k' tc fc bl R C : Nat} {w : Wf} (hk : Sc k) (hk' : Sc k') (hne : k ≠ k') (h : RN S k' w tc fc bl R C) : ∃ S', f_X3_become S k k' = some S' ∧ Ex (fun x _ => k ≤ x ∧ x < k + 20) S S' ∧ RN S' k w tc fc bl R C := by
  unfold f_X3_become
  have hap := hk.apart hk' hne
  have hd := hk.kds
  have hb := hd.2.2.2.2.2.2.2.2.2.2.2.2.2
  have hd' := hk'.kds
  have hb' := hd'.2.2.2.2.2.2.2.2.2.2.2.2.2
  have ok : ∀ S' : St, S'.2.2 = 124 → okc S' 3 k := fun S' q => okS q hd.1 (by omega)
  have ok' : ∀ S' : St, S'.2.2 = 124 → okc S' 3 k' := fun S' q => okS q hd'.1 (by omega)
  have A1 : Ar (k + 1) 8 := ⟨hd.2.1, hd.2.2.1, by omega, by omega, by omega⟩
  have A4 : Ar (k + 4) 10 := ⟨hd.2.2.2.2.2.2.2.1, hd.2.2.2.2.2.2.2.2.1, by omega, by omega, by omega⟩
  have A5 : Ar (k + 5) 10 := ⟨hd.2.2.2.2.2.2.2.2.2.1, hd.2.2.2.2.2.2.2.2.2.2.1, by omega, by omega, by omega⟩
  obtain ⟨h1, h2, h3, h4, h5, h6, h7, h8, h9, h10, h11⟩ := h
  rw [if_neg (by omega)]
  obtain ⟨S1, ⟨x1, y1⟩, g1⟩ := wl2_inv (F := f_X3_become_B7 k k' (fun S_3 => chk (okc S_3 3 k) (bnd (f_X3_becomeInThings S_3 k k') fun S_4 => chk (okc S_4 3 k) (bnd (f_X3_becomeInFrames S_4 k k') fun S_5 => chk (okc S_5 3 k') (chk (okc S_5 3 k) (vlt (upI S_5 k 6 (S_5.1 k' 6)) fun S_6 => chk (okc S_6 3 k') (chk (okc S_6 3 k) (vlt (upI S_6 k 7 (S_6.1 k' 7)) fun S_7 => wl2 (f_X3_become_B64 k k' (fun S_12 => some S_12)) FU S_7 0)))))))) (kx := fun S_3 => chk (okc S_3 3 k) (bnd (f_X3_becomeInThings S_3 k k') fun S_4 => chk (okc S_4 3 k) (bnd (f_X3_becomeInFrames S_4 k k') fun S_5 => chk (okc S_5 3 k') (chk (okc S_5 3 k) (vlt (upI S_5 k 6 (S_5.1 k' 6)) fun S_6 => chk (okc S_6 3 k') (chk (okc S_6 3 k) (vlt (upI S_6 k 7 (S_6.1 k' 7)) fun S_7 => wl2 (f_X3_become_B64 k k' (fun S_12 => some S_12)) FU S_7 0))))))) (n := 8) (fun i S' => Ex (fun x _ => x = k + 1) S S' ∧ ∀ j, j < i → S'.1 (k + 1) j = S.1 (k' + 1) j) (fun i S1 kk hi hP => by
    unfold f_X3_become_B7
    obtain ⟨p1, p2⟩ := hP
    have hs1 := hs.ex p1
    have e0 : S1.2.1 k 0 = k + 1 := (hs1.sc hk).1.1
    have e0' : S1.2.1 k' 0 = k' + 1 := (hs1.sc hk').1.1
    simp only [e0, e0', lnA A1]
    rw [ck_t (ok S1 hs1.n), ck_t (okA hs1.n A1), if_neg (by rw [q_le (by omega) (by omega)]; omega), ck_t (ok S1 hs1.n), ck_t (ok' S1 hs1.n), c_numberIn hs1.n hd'.2.1 (by omega) hd'.2.2.1 (by omega) (by omega), bnd_s, if_pos hi, cwA hs1.n A1 hi]
    simp only [q_cl (show i < 2147483648 by omega)]
    rw [vlt_s, L1, q_add]
    refine ⟨_, ⟨p1.upa, fun j hj => ?_⟩, rfl⟩
    rw [upI_at]
    by_cases hji : j = i
    · subst hji
      rw [if_pos ⟨rfl, rfl⟩, p1.2 _ _ (by omega)]
    · rw [if_neg (fun q => hji q.2)]
      exact p2 j (by omega)) (fun S1 kk hP => by
    unfold f_X3_become_B7
    have hs1 := hs.ex hP.1
    have e0 : S1.2.1 k 0 = k + 1 := (hs1.sc hk).1.1
    simp only [e0, lnA A1]
    rw [ck_t (ok S1 hs1.n), ck_t (okA hs1.n A1), if_pos (by rw [q_le (by omega) (by omega)]; omega)]) 8 0 FU S rfl (by decide) ⟨Ex.rf, fun j hj => by omega⟩
  rw [show nI 0 = (0 : Int32) from rfl] at g1
  rw [g1]
  have s1 := hs.ex x1
  obtain ⟨S2, g2, x2, y2, z2⟩ := e_becomeThings s1 (tc := tc) hk hk' hne (by rw [x1.2 _ _ (by omega)]; exact h1.2.2.1) h1.2.1
  have s2 := s1.ex x2
  obtain ⟨S3, g3, x3, y3, z3, v3⟩ := e_becomeFrames s2 (fc := fc) hk hk' hne (by rw [x2.2 _ _ (by omega), x1.2 _ _ (by omega)]; exact h8.1) h8.2.2
  have s3 := s2.ex x3
  rw [ck_t (ok S1 s1.n), g2, bnd_s, ck_t (ok S2 s2.n), g3, bnd_s, ck_t (ok' S3 s3.n), ck_t (ok S3 s3.n), vlt_s, ck_t (ok' _ (by rw [upI_n]; exact s3.n)), ck_t (ok _ (by rw [upI_n]; exact s3.n)), vlt_s]
  generalize hS5 : upI (upI S3 k 6 (S3.1 k' 6)) k 7 ((upI S3 k 6 (S3.1 k' 6)).1 k' 7) = S5
  have x5 : Ex (fun x j => x = k ∧ (j = 6 ∨ j = 7)) S3 S5 := by
    rw [← hS5]
    exact (Ex.rf.upp ⟨rfl, Or.inl rfl⟩).upp ⟨rfl, Or.inr rfl⟩
  have y5 : S5.1 k 6 = S3.1 k' 6 := by rw [← hS5, upI_at, if_neg (by omega), upI_at, if_pos ⟨rfl, rfl⟩]
  have z5 : S5.1 k 7 = S3.1 k' 7 := by rw [← hS5, upI_at, if_pos ⟨rfl, rfl⟩, upI_at, if_neg (by omega)]
  have s5 := s3.ex x5
  obtain ⟨S6, ⟨x6, y6, z6⟩, g6⟩ := wl2_inv (F := f_X3_become_B64 k k' (fun S_12 => some S_12)) (kx := fun S_12 => some S_12) (n := 10) (fun i S' => Ex (fun x _ => x = k + 4 ∨ x = k + 5) S5 S' ∧ (∀ j, j < i → S'.1 (k + 4) j = S5.1 (k' + 4) j) ∧ ∀ j, j < i → S'.1 (k + 5) j = S5.1 (k' + 5) j) (fun i S1 kk hi hP => by
    unfold f_X3_become_B64
    obtain ⟨p1, p2, p3⟩ := hP
    have t1 := s5.ex p1
    have e8 : S1.2.1 k 8 = k + 4 := (t1.sc hk).1.2.2.2.1
    have e9 : S1.2.1 k 9 = k + 5 := (t1.sc hk).1.2.2.2.2
    have e8' : S1.2.1 k' 8 = k' + 4 := (t1.sc hk').1.2.2.2.1
    have e9' : S1.2.1 k' 9 = k' + 5 := (t1.sc hk').1.2.2.2.2
    simp only [e8, e9, e8', e9', lnA A4, lnA A5]
    rw [ck_t (ok S1 t1.n), ck_t (okA t1.n A4), if_neg (by rw [q_le (by omega) (by omega)]; omega), ck_t (ok S1 t1.n), ck_t (okA t1.n A5), if_neg (by rw [q_le (by omega) (by omega)]; omega), ck_t (ok S1 t1.n), ck_t (ok' S1 t1.n), c_numberIn t1.n hd'.2.2.2.2.2.2.2.1 (by omega) hd'.2.2.2.2.2.2.2.2.1 (by omega) (by omega), bnd_s, if_pos hi, cwA t1.n A4 hi]
    simp only [q_cl (show i < 2147483648 by omega), vlt_s, upI_r, e9, e9']
    generalize hS7 : upI S1 (k + 4) i (S1.1 (k' + 4) i) = S7
    have u7 : Ex (fun x _ => x = k + 4 ∨ x = k + 5) S1 S7 := by
      rw [← hS7]
      exact Ex.rf.upp (Or.inl rfl)
    have t7 := t1.ex u7
    rw [ck_t (ok S7 t7.n), ck_t (ok' S7 t7.n), c_numberIn t7.n hd'.2.2.2.2.2.2.2.2.2.1 (by omega) hd'.2.2.2.2.2.2.2.2.2.2.1 (by omega) (by omega), bnd_s, if_pos hi, cwA t7.n A5 hi, L1, q_add]
    refine ⟨_, ⟨(p1.tr u7).upp (Or.inr rfl), fun j hj => ?_, fun j hj => ?_⟩, rfl⟩
    · rw [upI_at, if_neg (by omega), ← hS7, upI_at]
      by_cases hji : j = i
      · subst hji
        rw [if_pos ⟨rfl, rfl⟩, p1.2 _ _ (by omega)]
      · rw [if_neg (fun q => hji q.2)]
        exact p2 j (by omega)
    · rw [upI_at]
      by_cases hji : j = i
      · subst hji
        rw [if_pos ⟨rfl, rfl⟩, ← hS7, upI_at, if_neg (by omega), p1.2 _ _ (by omega)]
      · rw [if_neg (fun q => hji q.2), ← hS7, upI_at, if_neg (by omega)]
        exact p3 j (by omega)) (fun S1 kk hP => by
    unfold f_X3_become_B64
    have t1 := s5.ex hP.1
    have e8 : S1.2.1 k 8 = k + 4 := (t1.sc hk).1.2.2.2.1
    simp only [e8, lnA A4]
    rw [ck_t (ok S1 t1.n), ck_t (okA t1.n A4), if_pos (by rw [q_le (by omega) (by omega)]; omega)]) 10 0 FU S5 rfl (by decide) ⟨Ex.rf, fun j hj => by omega, fun j hj => by omega⟩
  have xx : Ex (fun x _ => k ≤ x ∧ x < k + 20) S S6 := by
    refine ((((x1.wk (fun x j q => ?_)).tr (x2.wk (fun x j q => ?_))).tr (x3.wk (fun x j q => ?_))).tr (x5.wk (fun x j q => ?_))).tr (x6.wk (fun x j q => ?_)) <;> omega
  refine ⟨S6, g6, xx, ⟨fun j hj => ?_, h1.2.1, ?_, fun q hq j hj => ?_⟩, h2, h3, h4, ?_, ⟨?_, h6.2⟩, ?_, ⟨?_, h8.2⟩, fun f hf => ?_, fun r hr => ?_, fun r hr => ?_⟩
  · rw [x6.2 _ _ (by omega), x5.2 _ _ (by omega), x3.2 _ _ (by omega), x2.2 _ _ (by omega), y1 j hj]; exact h1.1 j hj
  · rw [x6.2 _ _ (by omega), x5.2 _ _ (by omega), x3.2 _ _ (by omega)]; exact y2
  · have := h1.2.1
    rw [x6.2 _ _ (by omega), x5.2 _ _ (by omega), x3.2 _ _ (by omega), z2 q hq j hj, x1.2 _ _ (by omega)]; exact h1.2.2.2 q hq j hj
  · rw [x6.2 _ _ (by omega), y5, x3.2 _ _ (by omega), x2.2 _ _ (by omega), x1.2 _ _ (by omega)]; exact h5
  · rw [x6.2 _ _ (by omega), z5, x3.2 _ _ (by omega), x2.2 _ _ (by omega), x1.2 _ _ (by omega)]; exact h6.1
  · rw [x6.2 _ _ (by omega), x5.2 _ _ (by omega), z3, x2.2 _ _ (by omega), x1.2 _ _ (by omega)]; exact h7
  · rw [x6.2 _ _ (by omega), x5.2 _ _ (by omega)]; exact y3
  · obtain ⟨c0, c1, c2⟩ := v3 f hf
    have e : S2.2.1 = S.2.1 := by rw [x2.r, x1.r]
    have f5 := h8.2.2
    have bF := ((hs.sc hk).2.2.2.1 f (by omega)).rg
    have bG := ((hs.sc hk').2.2.2.1 f (by omega)).rg
    obtain ⟨a1, fb, a2, a3, a4, a5⟩ := h9 f hf
    rw [e] at c0 c1 c2
    rw [xx.r]
    generalize S.2.1 (k + 3) f = F at *
    generalize S.2.1 (k' + 3) f = G at *
    refine ⟨?_, fb, a2, a3, ?_, fun r hr hrb c hc => ?_⟩
    · rw [x6.2 _ _ (by omega), x5.2 _ _ (by omega), c0, x2.2 _ _ (by omega), x1.2 _ _ (by omega)]; exact a1
    · rw [x6.2 _ _ (by omega), x5.2 _ _ (by omega), c1, x2.2 _ _ (by omega), x1.2 _ _ (by omega)]; exact a4
    · have := h3.2.2
      have := h4.2.2
      rw [x6.2 _ _ (by omega), x5.2 _ _ (by omega), c2 _ (by omega), x2.2 _ _ (by omega), x1.2 _ _ (by omega)]; exact a5 r hr hrb c hc
  · rw [y6 r hr, x5.2 _ _ (by omega), x3.2 _ _ (by omega), x2.2 _ _ (by omega), x1.2 _ _ (by omega)]; exact h10 r hr
  · rw [z6 r hr, x5.2 _ _ (by omega), x3.2 _ _ (by omega), x2.2 _ _ (by omega), x1.2 _ _ (by omega)]; exact h11 r hr

