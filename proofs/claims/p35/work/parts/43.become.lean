theorem Ex.upp {P : Nat → Nat → Prop} {S S' : St} {k j : Nat} {v : Int32} (h : Ex P S S') (hp : P k j) : Ex P S (upI S' k j v) := h.tr (Ex.up hp)
theorem e_frameBecome {S : St} (hn : S.2.2 = 124) {F G : Nat} (hF : Fr S F) (hG : Fr S G) (h1 : F ≠ G) (h2 : F ≠ G + 1) (h3 : F + 1 ≠ G) : ∃ S', f_X0_become S F G = some S' ∧ Ex (fun x _ => x = F ∨ x = F + 1) S S' ∧ S'.1 F 0 = S.1 G 0 ∧ S'.1 F 1 = S.1 G 1 ∧ ∀ j, j < 160 → S'.1 (F + 1) j = S.1 (G + 1) j := by
  unfold f_X0_become
  have okF : ∀ S' : St, S'.2.2 = 124 → okc S' 0 F := fun S' q => okS q hF.1 hF.2.2.1
  have okG : ∀ S' : St, S'.2.2 = 124 → okc S' 0 G := fun S' q => okS q hG.1 hG.2.2.1
  have hB := hF.2.2.2.2
  have hC := hG.2.2.2.2
  rw [ck_t (okG S hn), ck_t (okF S hn), vlt_s, ck_t (okG _ (by rw [upI_n]; exact hn)), ck_t (okF _ (by rw [upI_n]; exact hn)), vlt_s]
  generalize hS2 : upI (upI S F 0 (S.1 G 0)) F 1 ((upI S F 0 (S.1 G 0)).1 G 1) = S2
  have ex2 : Ex (fun x _ => x = F ∨ x = F + 1) S S2 := by
    rw [← hS2]
    exact (Ex.rf.upp (Or.inl rfl)).upp (Or.inl rfl)
  have v0 : S2.1 F 0 = S.1 G 0 := by rw [← hS2, upI_at, if_neg (by omega), upI_at, if_pos ⟨rfl, rfl⟩]
  have v1 : S2.1 F 1 = S.1 G 1 := by rw [← hS2, upI_at, if_pos ⟨rfl, rfl⟩, upI_at, if_neg (by omega)]
  obtain ⟨S', g1, g2⟩ := wl2_inv (F := f_X0_become_B18 F G (fun S_4 => some S_4)) (kx := fun S_4 => some S_4) (n := 160) (fun i S' => Ex (fun x _ => x = F ∨ x = F + 1) S S' ∧ S'.1 F 0 = S.1 G 0 ∧ S'.1 F 1 = S.1 G 1 ∧ ∀ j, j < i → S'.1 (F + 1) j = S.1 (G + 1) j) (fun i S1 kk hi hP => by
    unfold f_X0_become_B18
    obtain ⟨p1, p2, p3, p4⟩ := hP
    have hn1 : S1.2.2 = 124 := by rw [p1.n, hn]
    have hF1 := hF.ex p1
    have hG1 := hG.ex p1
    simp only [hF1.2.2.2.1, hG1.2.2.2.1, lnA hB, lnA hC]
    rw [ck_t (okF S1 hn1), ck_t (okA hn1 hB), if_neg (by rw [q_le (by omega) (by omega)]; omega), ck_t (okG S1 hn1), ck_t (okA hn1 hC), if_neg (by rw [q_le (by omega) (by omega)]; omega), ck_t (okF S1 hn1), ck_t (okG S1 hn1), ckA hn1 hC hi, cwA hn1 hB hi]
    simp only [q_cl (show i < 2147483648 by omega)]
    rw [vlt_s, L1, q_add]
    refine ⟨_, ⟨p1.upp (Or.inr rfl), by rw [upI_at, if_neg (by omega)]; exact p2, by rw [upI_at, if_neg (by omega)]; exact p3, fun j hj => ?_⟩, rfl⟩
    rw [upI_at]
    by_cases hji : j = i
    · subst hji
      rw [if_pos ⟨rfl, rfl⟩, p1.2 (G + 1) j (by omega)]
    · rw [if_neg (fun q => hji q.2)]
      exact p4 j (by omega)) (fun S1 kk hP => by
    unfold f_X0_become_B18
    obtain ⟨p1, p2, p3, p4⟩ := hP
    have hn1 : S1.2.2 = 124 := by rw [p1.n, hn]
    have hF1 := hF.ex p1
    simp only [hF1.2.2.2.1, lnA hB]
    rw [ck_t (okF S1 hn1), ck_t (okA hn1 hB), if_pos (by rw [q_le (by omega) (by omega)]; omega)]) 160 0 FU S2 rfl (by decide) ⟨ex2, v0, v1, fun j hj => by omega⟩
  exact ⟨S', g2, g1.1, g1.2.1, g1.2.2.1, g1.2.2.2⟩
theorem e_thingBecome {S : St} (hn : S.2.2 = 124) {T U : Nat} (h1 : kd T = 5) (h2 : kd U = 5) (h3 : T < 124) (h4 : U < 124) (hne : T ≠ U) : ∃ S', f_X5_become S T U = some S' ∧ Ex (fun x _ => x = T) S S' ∧ ∀ j, j < 6 → S'.1 T j = S.1 U j := by
  unfold f_X5_become
  have hT : ∀ (S' : St) (o : Option St), S'.2.2 = 124 → chk (okc S' 5 T) o = o := fun S' o q => ck_t (okS q h1 h3) o
  have hU : ∀ (S' : St) (o : Option St), S'.2.2 = 124 → chk (okc S' 5 U) o = o := fun S' o q => ck_t (okS q h2 h4) o
  simp only [vlt_s, hT, hU, upI_n, hn]
  refine ⟨_, rfl, (((((Ex.rf.upa).upa).upa).upa).upa).upa, fun j hj => ?_⟩
  have hj6 : j = 0 ∨ j = 1 ∨ j = 2 ∨ j = 3 ∨ j = 4 ∨ j = 5 := by omega
  rcases hj6 with rfl | rfl | rfl | rfl | rfl | rfl <;> simp only [upI_at] <;> simp [hne, Ne.symm hne]
theorem e_becomeThings {S : St} (hs : CSh S) {k k' tc : Nat} (hk : Sc k) (hk' : Sc k') (hne : k ≠ k') (htc : S.1 k' 2 = nI tc) (h4 : tc ≤ 4) : ∃ S', f_X3_becomeInThings S k k' = some S' ∧ Ex (fun x j => (x = k ∧ j = 2) ∨ (k + 6 ≤ x ∧ x < k + 10)) S S' ∧ S'.1 k 2 = nI tc ∧ ∀ q, q < tc → ∀ j, j < 6 → S'.1 (k + 6 + q) j = S.1 (k' + 6 + q) j := by
  unfold f_X3_becomeInThings
  have hap := hk.apart hk' hne
  have hd := hk.kds
  have hb := hd.2.2.2.2.2.2.2.2.2.2.2.2.2
  have hd' := hk'.kds
  have hb' := hd'.2.2.2.2.2.2.2.2.2.2.2.2.2
  have ok : ∀ S' : St, S'.2.2 = 124 → okc S' 3 k := fun S' q => okS q hd.1 (by omega)
  have ok' : ∀ S' : St, S'.2.2 = 124 → okc S' 3 k' := fun S' q => okS q hd'.1 (by omega)
  rw [ck_t (ok' S hs.n), ck_t (ok S hs.n), htc, vlt_s]
  obtain ⟨S', g1, g2⟩ := wl2_inv (F := f_X3_becomeInThings_B10 k k' (fun S_5 => some S_5)) (kx := fun S_5 => some S_5) (n := tc) (fun i S' => Ex (fun x j => (x = k ∧ j = 2) ∨ (k + 6 ≤ x ∧ x < k + 10)) S S' ∧ S'.1 k 2 = nI tc ∧ ∀ q, q < i → ∀ j, j < 6 → S'.1 (k + 6 + q) j = S.1 (k' + 6 + q) j) (fun i S1 kk hi hP => by
    unfold f_X3_becomeInThings_B10
    obtain ⟨p1, p2, p3⟩ := hP
    have hs1 := hs.ex p1
    have e2 : S1.1 k' 2 = nI tc := by rw [p1.2 k' 2 (by omega)]; exact htc
    have k1 := hk.thing (show i < 4 by omega)
    have k2 := hk'.thing (show i < 4 by omega)
    obtain ⟨S2, t1, t2, t3⟩ := e_thingBecome hs1.n k1 k2 (by omega) (by omega) (by omega)
    rw [ck_t (ok S1 hs1.n), p2, if_neg (by rw [q_le (by omega) (by omega)]; omega), ck_t (ok S1 hs1.n), c_thingAt_t hs1 hk p2 h4 hi, bnd_s, ck_t (ok' S1 hs1.n), c_thingAt_t hs1 hk' e2 h4 hi, bnd_s, if_neg (by omega), if_neg (by omega), ck_t (okS hs1.n k1 (by omega)), t1, bnd_s, L1, q_add]
    refine ⟨S2, ⟨p1.tr (t2.wk (fun x j q => by omega)), by rw [t2.2 k 2 (by omega)]; exact p2, fun q hq j hj => ?_⟩, rfl⟩
    by_cases hqi : q = i
    · subst hqi
      rw [t3 j hj, p1.2 _ _ (by omega)]
    · rw [t2.2 _ _ (by omega)]
      exact p3 q (by omega) j hj) (fun S1 kk hP => by
    unfold f_X3_becomeInThings_B10
    obtain ⟨p1, p2, p3⟩ := hP
    have hs1 := hs.ex p1
    rw [ck_t (ok S1 hs1.n), p2, if_pos (Int32.le_refl _)]) tc 0 FU (upI S k 2 (nI tc)) (by omega) (by show tc < 1000000; omega) ⟨Ex.rf.upp (Or.inl ⟨rfl, rfl⟩), by rw [upI_at, if_pos ⟨rfl, rfl⟩], fun q hq => by omega⟩
  exact ⟨S', g2, g1.1, g1.2.1, g1.2.2⟩
theorem e_becomeFrames {S : St} (hs : CSh S) {k k' fc : Nat} (hk : Sc k) (hk' : Sc k') (hne : k ≠ k') (hfc : S.1 k' 4 = nI fc) (h5 : fc ≤ 5) : ∃ S', f_X3_becomeInFrames S k k' = some S' ∧ Ex (fun x j => (x = k ∧ (j = 4 ∨ j = 5)) ∨ (k + 10 ≤ x ∧ x < k + 20)) S S' ∧ S'.1 k 4 = nI fc ∧ S'.1 k 5 = S.1 k' 5 ∧ ∀ f, f < fc → S'.1 (S.2.1 (k + 3) f) 0 = S.1 (S.2.1 (k' + 3) f) 0 ∧ S'.1 (S.2.1 (k + 3) f) 1 = S.1 (S.2.1 (k' + 3) f) 1 ∧ ∀ j, j < 160 → S'.1 (S.2.1 (k + 3) f + 1) j = S.1 (S.2.1 (k' + 3) f + 1) j := by
  unfold f_X3_becomeInFrames
  have hap := hk.apart hk' hne
  have hd := hk.kds
  have hb := hd.2.2.2.2.2.2.2.2.2.2.2.2.2
  have hd' := hk'.kds
  have hb' := hd'.2.2.2.2.2.2.2.2.2.2.2.2.2
  have ok : ∀ S' : St, S'.2.2 = 124 → okc S' 3 k := fun S' q => okS q hd.1 (by omega)
  have ok' : ∀ S' : St, S'.2.2 = 124 → okc S' 3 k' := fun S' q => okS q hd'.1 (by omega)
  have n1 : (upI S k 4 (nI fc)).2.2 = 124 := by rw [upI_n]; exact hs.n
  rw [ck_t (ok' S hs.n), ck_t (ok S hs.n), hfc, vlt_s, ck_t (ok' _ n1), ck_t (ok _ n1), vlt_s, upI_at, if_neg (by omega)]
  obtain ⟨S', g1, g2⟩ := wl2_inv (F := f_X3_becomeInFrames_B18 k k' (fun S_5 => some S_5)) (kx := fun S_5 => some S_5) (n := fc) (fun i S' => Ex (fun x j => (x = k ∧ (j = 4 ∨ j = 5)) ∨ (k + 10 ≤ x ∧ x < k + 20)) S S' ∧ S'.1 k 4 = nI fc ∧ S'.1 k 5 = S.1 k' 5 ∧ ∀ f, f < i → S'.1 (S.2.1 (k + 3) f) 0 = S.1 (S.2.1 (k' + 3) f) 0 ∧ S'.1 (S.2.1 (k + 3) f) 1 = S.1 (S.2.1 (k' + 3) f) 1 ∧ ∀ j, j < 160 → S'.1 (S.2.1 (k + 3) f + 1) j = S.1 (S.2.1 (k' + 3) f + 1) j) (fun i S1 kk hi hP => by
    unfold f_X3_becomeInFrames_B18
    obtain ⟨p1, p2, p3, p4⟩ := hP
    have hs1 := hs.ex p1
    have e4 : S1.1 k' 4 = nI fc := by rw [p1.2 k' 4 (by omega)]; exact hfc
    have hF := (hs.sc hk).2.2.2.1 i (by omega)
    have hG := (hs.sc hk').2.2.2.1 i (by omega)
    have hF1 := (hF.fr hs hk).ex p1
    have hG1 := (hG.fr hs hk').ex p1
    have bF := hF.rg
    have bG := hG.rg
    rw [ck_t (ok S1 hs1.n), p2, if_neg (by rw [q_le (by omega) (by omega)]; omega), ck_t (ok S1 hs1.n), c_frameAt_t hs1 hk p2 h5 hi, bnd_s, ck_t (ok' S1 hs1.n), c_frameAt_t hs1 hk' e4 h5 hi, bnd_s, p1.r, if_neg (by omega), if_neg (by omega), ck_t (okS hs1.n hF1.1 hF1.2.2.1)]
    obtain ⟨S2, t1, t2, t3, t4, t5⟩ := e_frameBecome hs1.n hF1 hG1 (by omega) (by omega) (by omega)
    rw [t1, bnd_s, L1, q_add]
    refine ⟨S2, ⟨p1.tr (t2.wk (fun x j q => by omega)), by rw [t2.2 k 4 (by omega)]; exact p2, by rw [t2.2 k 5 (by omega)]; exact p3, fun f hf => ?_⟩, rfl⟩
    by_cases hfi : f = i
    · subst hfi
      rw [t3, t4]
      refine ⟨p1.2 _ _ (by omega), p1.2 _ _ (by omega), fun j hj => ?_⟩
      rw [t5 j hj]
      exact p1.2 _ _ (by omega)
    · have hneF : S.2.1 (k + 3) f ≠ S.2.1 (k + 3) i := fun z => hfi ((hs.sc hk).2.2.2.2 f i (by omega) (by omega) z)
      have hE := (hs.sc hk).2.2.2.1 f (by omega)
      have p4' := p4 f (by omega)
      generalize S.2.1 (k + 3) f = E at *
      generalize S.2.1 (k + 3) i = F at *
      obtain ⟨i1, hi1, rfl⟩ := hF
      obtain ⟨i2, hi2, rfl⟩ := hE
      have z0 : ∀ j, S2.1 (k + 10 + 2 * i2) j = S1.1 (k + 10 + 2 * i2) j := fun j => t2.2 _ _ (by omega)
      have z1 : ∀ j, S2.1 (k + 10 + 2 * i2 + 1) j = S1.1 (k + 10 + 2 * i2 + 1) j := fun j => t2.2 _ _ (by omega)
      refine ⟨(z0 0).trans p4'.1, (z0 1).trans p4'.2.1, fun j hj => (z1 j).trans (p4'.2.2 j hj)⟩) (fun S1 kk hP => by
    unfold f_X3_becomeInFrames_B18
    obtain ⟨p1, p2, p3, p4⟩ := hP
    have hs1 := hs.ex p1
    rw [ck_t (ok S1 hs1.n), p2, if_pos (Int32.le_refl _)]) fc 0 FU (upI (upI S k 4 (nI fc)) k 5 (S.1 k' 5)) (by omega) (by show fc < 1000000; omega) ⟨(Ex.rf.upp (Or.inl ⟨rfl, Or.inl rfl⟩)).upp (Or.inl ⟨rfl, Or.inr rfl⟩), by rw [upI_at, if_neg (by omega), upI_at, if_pos ⟨rfl, rfl⟩], by rw [upI_at, if_pos ⟨rfl, rfl⟩], fun q hq => by omega⟩
  exact ⟨S', g2, g1.1, g1.2.1, g1.2.2.1, g1.2.2.2⟩

