/-- only objects of A are changed -/
def Ch (A : Nat → Prop) (S S' : St) : Prop := S'.2.2 = S.2.2 ∧ ∀ x, ¬ A x → S'.1 x = S.1 x ∧ S'.2.1 x = S.2.1 x
theorem Ch.rf {A : Nat → Prop} {S : St} : Ch A S S := ⟨rfl, fun _ _ => ⟨rfl, rfl⟩⟩
theorem Ch.tr {A : Nat → Prop} {S S1 S2 : St} (h1 : Ch A S S1) (h2 : Ch A S1 S2) : Ch A S S2 := ⟨h2.1.trans h1.1, fun x h => ⟨((h2.2 x h).1).trans (h1.2 x h).1, ((h2.2 x h).2).trans (h1.2 x h).2⟩⟩
theorem Ch.wk {A B : Nat → Prop} {S S' : St} (h : Ch A S S') (hAB : ∀ x, A x → B x) : Ch B S S' := ⟨h.1, fun x hx => h.2 x (fun q => hx (hAB x q))⟩
theorem Ch.i {A : Nat → Prop} {S S' : St} (h : Ch A S S') {x : Nat} (hx : ¬ A x) (j : Nat) : S'.1 x j = S.1 x j := by rw [(h.2 x hx).1]
theorem Ch.r {A : Nat → Prop} {S S' : St} (h : Ch A S S') {x : Nat} (hx : ¬ A x) (j : Nat) : S'.2.1 x j = S.2.1 x j := by rw [(h.2 x hx).2]
theorem Ch.up {A : Nat → Prop} {S S' : St} (h : Ch A S S') {k j : Nat} {v : Int32} (hk : A k) : Ch A S (upI S' k j v) := ⟨h.1, fun x hx => by
  refine ⟨?_, (h.2 x hx).2⟩
  rw [← (h.2 x hx).1]
  funext b
  rw [upI_at, if_neg]
  rintro ⟨rfl, -⟩
  exact hx hk⟩
theorem Ex.ch {P : Nat → Nat → Prop} {A : Nat → Prop} {S S' : St} (h : Ex P S S') (hPA : ∀ x j, P x j → A x) : Ch A S S' := ⟨h.n, fun x hx => ⟨by
  funext j
  exact h.2 x j (fun q => hx (hPA x j q)), by rw [h.r]⟩⟩
/-- the class's shape where no object refers anywhere else -/
theorem CSh.rf {S S' : St} (h : CSh S) (hn : S'.2.2 = S.2.2) (hr : S'.2.1 = S.2.1) : CSh S' := by
  obtain ⟨s1, s2, s3⟩ := S'
  have e2 : s2 = S.2.1 := hr
  have e3 : s3 = S.2.2 := hn
  subst e2
  subst e3
  exact h
/-- a frame and the f-th of the row -/
def FrR (S : St) (F : Nat) (w : Wf) (f R C : Nat) : Prop := S.1 F 0 = w (37 + 162 * f) ∧ ∃ fb, fb < 1024 ∧ w (38 + 162 * f) = nI fb ∧ S.1 F 1 = nI (fb &&& (1 <<< R - 1)) ∧ ∀ r, r < R → fb.testBit r = false → ∀ c, c < C → S.1 (F + 1) (16 * r + c) = w (39 + 162 * f + 16 * r + c)
/-- the scene k and the row w -/
def RN (S : St) (k : Nat) (w : Wf) (tc fc bl R C : Nat) : Prop := RT S k w tc ∧ w 8 = nI tc ∧ (w 0 = nI R ∧ 1 ≤ R ∧ R ≤ 10) ∧ (w 1 = nI C ∧ 4 ≤ C ∧ C ≤ 16) ∧ S.1 k 6 = w 33 ∧ (S.1 k 7 = nI bl ∧ w 34 = nI bl ∧ bl < 1024) ∧ S.1 k 5 = w 35 ∧ (S.1 k 4 = nI fc ∧ w 36 = nI fc ∧ fc ≤ 5) ∧ (∀ f, f < fc → FrR S (S.2.1 (k + 3) f) w f R C) ∧ (∀ r, r < 10 → S.1 (k + 4) r = w (847 + r)) ∧ ∀ r, r < 10 → S.1 (k + 5) r = w (857 + r)
theorem FrR.ch {A : Nat → Prop} {S S' : St} {F f R C : Nat} {w : Wf} (h : FrR S F w f R C) (hc : Ch A S S') (h1 : ¬ A F) (h2 : ¬ A (F + 1)) : FrR S' F w f R C := by
  obtain ⟨a, fb, b, c, d, e⟩ := h
  refine ⟨(hc.i h1 0).trans a, fb, b, c, (hc.i h1 1).trans d, fun r hr hb c hc2 => (hc.i h2 _).trans (e r hr hb c hc2)⟩
theorem FrR.w {S : St} {F f f' R C : Nat} {w w' : Wf} (h : FrR S F w f R C) (hw : ∀ j, j < 162 → w' (37 + 162 * f' + j) = w (37 + 162 * f + j)) (hR : R ≤ 10) (hC : C ≤ 16) : FrR S F w' f' R C := by
  obtain ⟨a, fb, b, c, d, e⟩ := h
  refine ⟨a.trans (hw 0 (by omega)).symm, fb, b, ?_, d, fun r hr hb c hc2 => (e r hr hb c hc2).trans ?_⟩
  · have := hw 1 (by omega)
    rw [show 38 + 162 * f' = 37 + 162 * f' + 1 by omega, this, show 37 + 162 * f + 1 = 38 + 162 * f by omega]
    exact c
  · have := hw (2 + 16 * r + c) (by omega)
    rw [show 39 + 162 * f + 16 * r + c = 37 + 162 * f + (2 + 16 * r + c) by omega, show 39 + 162 * f' + 16 * r + c = 37 + 162 * f' + (2 + 16 * r + c) by omega]
    exact this.symm
theorem isF.fr {S : St} {k F : Nat} (h : CSh S) (hk : Sc k) (hF : isF k F) : Fr S F := by
  have hd := hF.kds hk
  exact ⟨hd.1, by omega, by omega, (h.sc hk).2.2.1 F hF, hd.2.1, hd.2.2.1, by omega, by omega, by omega⟩
theorem isF.rg {k F : Nat} (h : isF k F) : k + 10 ≤ F ∧ F ≤ k + 18 := by
  obtain ⟨i, hi, rfl⟩ := h
  omega
theorem RN.ch {A : Nat → Prop} {S S' : St} {k tc fc bl R C : Nat} {w : Wf} (h : RN S k w tc fc bl R C) (hs : CSh S) (hk : Sc k) (hc : Ch A S S') (hA : ∀ d, d < 20 → ¬ A (k + d)) : RN S' k w tc fc bl R C := by
  obtain ⟨h1, h2, h3, h4, h5, h6, h7, h8, h9, h10, h11⟩ := h
  have k0 : ¬ A k := hA 0 (by omega)
  have f5 := h8.2.2
  refine ⟨⟨fun j hj => (hc.i (hA 1 (by omega)) j).trans (h1.1 j hj), h1.2.1, (hc.i k0 2).trans h1.2.2.1, fun q hq j hj => ?_⟩, h2, h3, h4, (hc.i k0 6).trans h5, ⟨(hc.i k0 7).trans h6.1, h6.2⟩, (hc.i k0 5).trans h7, ⟨(hc.i k0 4).trans h8.1, h8.2⟩, fun f hf => ?_, fun r hr => (hc.i (hA 4 (by omega)) r).trans (h10 r hr), fun r hr => (hc.i (hA 5 (by omega)) r).trans (h11 r hr)⟩
  · have := h1.2.1
    have z := hA (6 + q) (by omega)
    rw [← Nat.add_assoc] at z
    exact (hc.i z j).trans (h1.2.2.2 q hq j hj)
  · rw [hc.r (hA 3 (by omega)) f]
    have hF := (hs.sc hk).2.2.2.1 f (by omega)
    have hb := hF.rg
    have z1 : ¬ A (S.2.1 (k + 3) f) := by
      have := hA (S.2.1 (k + 3) f - k) (by omega)
      rw [show k + (S.2.1 (k + 3) f - k) = S.2.1 (k + 3) f by omega] at this
      exact this
    have z2 : ¬ A (S.2.1 (k + 3) f + 1) := by
      have := hA (S.2.1 (k + 3) f + 1 - k) (by omega)
      rw [show k + (S.2.1 (k + 3) f + 1 - k) = S.2.1 (k + 3) f + 1 by omega] at this
      exact this
    exact (h9 f hf).ch hc z1 z2
/-- scenes lie apart -/
theorem Sc.apart {k k' : Nat} (hk : Sc k) (hk' : Sc k') (hne : k ≠ k') : k + 20 ≤ k' ∨ k' + 20 ≤ k := by
  rcases hk with rfl | rfl | rfl | rfl | rfl <;> rcases hk' with rfl | rfl | rfl | rfl | rfl <;> omega
/-- the frames of k in another order: i goes behind the others -/
def rot (i fc f : Nat) : Nat := if f < i then f else if f + 1 < fc then f + 1 else if f + 1 = fc then i else f
theorem e_dropFrame {S : St} (h : CSh S) {k fc i : Nat} (hk : Sc k) (hfc : S.1 k 4 = nI fc) (h5 : fc ≤ 5) (hi : i < fc) : ∃ S', f_X3_dropFrame S k (nI i) = some S' ∧ S'.2.2 = S.2.2 ∧ (∀ x j, S'.1 x j = if x = k ∧ j = 4 then nI (fc - 1) else S.1 x j) ∧ ∀ x j, S'.2.1 x j = if x = k + 3 ∧ j < 5 then S.2.1 (k + 3) (rot i fc j) else S.2.1 x j := by
  unfold f_X3_dropFrame
  have hd := hk.kds
  have hbd := hd.2.2.2.2.2.2.2.2.2.2.2.2.2
  have hln : Int32.ofNat (ln (k + 3)) = nI 5 := congrArg Int32.ofNat hd.2.2.2.2.2.2.1
  have hkd : kd (k + 3) = 12 := hd.2.2.2.2.2.1
  have hl5 : ln (k + 3) = 5 := hd.2.2.2.2.2.2.1
  have ok : ∀ S' : St, S'.2.2 = 124 → okc S' 3 k := fun S' q => okS q hd.1 (by omega)
  have ok3 : ∀ S' : St, S'.2.2 = 124 → okc S' 12 (k + 3) := fun S' q => okS q hkd (by omega)
  have ia : ∀ S' : St, S'.2.2 = 124 → ∀ f, f < 5 → ina S' 12 (k + 3) (nI f) := fun S' q f hf => ⟨ok3 S' q, by rw [L0, q_le (by omega) (by omega)]; omega, by rw [q_cl (by omega), hl5]; omega⟩
  have hFi := (h.sc hk).2.2.2.1 i (by omega)
  have hFr := hFi.fr h hk
  have hsc := h.sc hk
  rw [ck_t (ok S h.n), c_frameAt_t h hk hfc h5 hi, bnd_s, if_neg (by have := hFr.2.1; omega), L1, q_add]
  obtain ⟨S1, g1, g2⟩ := wl2_inv (F := f_X3_dropFrame_B15 k (S.2.1 (k + 3) i) (fun S_3 => f_X3_dropFrame_J52 S_3 k (S.2.1 (k + 3) i))) (kx := fun S_3 => f_X3_dropFrame_J52 S_3 k (S.2.1 (k + 3) i)) (n := fc) (fun x S' => i + 1 ≤ x ∧ S'.2.2 = S.2.2 ∧ (S'.1 = S.1) ∧ ∀ a j, S'.2.1 a j = if a = k + 3 ∧ i ≤ j ∧ j + 1 < x then S.2.1 (k + 3) (j + 1) else S.2.1 a j) (fun x S1 kk hx hP => by
    unfold f_X3_dropFrame_B15
    obtain ⟨p0, p1, p2, p3⟩ := hP
    have hn1 : S1.2.2 = 124 := by rw [p1, h.n]
    have e4 : S1.1 k 4 = nI fc := by rw [p2, hfc]
    have e3 : S1.2.1 k 3 = k + 3 := by rw [p3, if_neg (by omega)]; exact hsc.1.2.2.1
    have ex : S1.2.1 (k + 3) x = S.2.1 (k + 3) x := by rw [p3, if_neg (by omega)]
    have hFx := ((hsc).2.2.2.1 x (by omega)).fr h hk
    simp only [e4, e3, hln]
    rw [ck_t (ok S1 hn1), if_neg (by rw [q_le (by omega) (by omega)]; omega), ck_t (ok S1 hn1), ck_t (ok3 S1 hn1), if_neg (by rw [q_le (by omega) (by omega)]; omega), ck_t (ok S1 hn1), ck_t (ok S1 hn1), ck_t (ia S1 hn1 x (by omega)), L1, q_sub (by omega), q_add]
    have ecl : (nI x).toNatClampNeg = x := q_cl (by omega)
    have ecl2 : (nI (x - 1)).toNatClampNeg = x - 1 := q_cl (by omega)
    simp only [ecl, ecl2, ex]
    rw [ck_t (show inw S1 12 (k + 3) (nI (x - 1)) ∧ okc S1 0 (S.2.1 (k + 3) x) from ⟨⟨ia S1 hn1 (x - 1) (by omega), by omega⟩, okS hn1 hFx.1 hFx.2.2.1⟩), vlt_s]
    refine ⟨_, ⟨by omega, by rw [upR_n]; exact p1, by rw [upR_i]; exact p2, fun a j => ?_⟩, rfl⟩
    rw [upR_at, p3]
    by_cases hj : a = k + 3 ∧ j = x - 1
    · rw [if_pos hj, if_pos (by omega), show j + 1 = x by omega]
    · rw [if_neg hj]
      have : (a = k + 3 ∧ i ≤ j ∧ j + 1 < x) = (a = k + 3 ∧ i ≤ j ∧ j + 1 < x + 1) := by
        apply propext; omega
      simp only [this]) (fun S1 kk hP => by
    unfold f_X3_dropFrame_B15
    obtain ⟨p0, p1, p2, p3⟩ := hP
    have hn1 : S1.2.2 = 124 := by rw [p1, h.n]
    have e4 : S1.1 k 4 = nI fc := by rw [p2, hfc]
    rw [ck_t (ok S1 hn1), e4, if_pos (Int32.le_refl _)]) (fc - (i + 1)) (i + 1) FU S (by omega) (by show fc - (i + 1) < 1000000; omega) ⟨Nat.le_refl _, rfl, rfl, fun a j => by rw [if_neg (by omega)]⟩
  rw [g2]
  obtain ⟨p0, p1, p2, p3⟩ := g1
  have hn1 : S1.2.2 = 124 := by rw [p1, h.n]
  have e4 : S1.1 k 4 = nI fc := by rw [p2, hfc]
  have e3 : S1.2.1 k 3 = k + 3 := by rw [p3, if_neg (by omega)]; exact hsc.1.2.2.1
  unfold f_X3_dropFrame_J52
  have ecl2 : (nI (fc - 1)).toNatClampNeg = fc - 1 := q_cl (by omega)
  simp only [e4, e3, hln, L1, q_sub (show 1 ≤ fc by omega), ecl2]
  rw [ck_t (ok S1 hn1), if_neg (by rw [L0, q_lt (by omega) (by omega)]; omega), ck_t (ok S1 hn1), ck_t (ok3 S1 hn1), if_neg (by rw [q_le (by omega) (by omega)]; omega), ck_t (ok S1 hn1), ck_t (show inw S1 12 (k + 3) (nI (fc - 1)) ∧ okc S1 0 (S.2.1 (k + 3) i) from ⟨⟨ia S1 hn1 (fc - 1) (by omega), by omega⟩, okS hn1 hFr.1 hFr.2.2.1⟩), vlt_s, ck_t (ok _ (by rw [upR_n]; exact hn1)), vlt_s]
  refine ⟨_, rfl, p1, fun x j => ?_, fun x j => ?_⟩
  · rw [upI_at, upR_i, p2]
  · rw [upI_r, upR_at, p3]
    by_cases hx : x = k + 3
    · subst hx
      by_cases hj : j < 5
      · rw [if_pos (show k + 3 = k + 3 ∧ j < 5 from ⟨rfl, hj⟩)]
        unfold rot
        by_cases c1 : j < i
        · rw [if_neg (show ¬ (k + 3 = k + 3 ∧ j = fc - 1) by omega), if_neg (show ¬ (k + 3 = k + 3 ∧ i ≤ j ∧ j + 1 < fc) by omega), if_pos c1]
        · by_cases c2 : j + 1 < fc
          · rw [if_neg (show ¬ (k + 3 = k + 3 ∧ j = fc - 1) by omega), if_pos (show k + 3 = k + 3 ∧ i ≤ j ∧ j + 1 < fc from ⟨rfl, by omega, c2⟩), if_neg c1, if_pos c2]
          · by_cases c3 : j + 1 = fc
            · rw [if_pos (show k + 3 = k + 3 ∧ j = fc - 1 from ⟨rfl, by omega⟩), if_neg c1, if_neg c2, if_pos c3]
            · rw [if_neg (show ¬ (k + 3 = k + 3 ∧ j = fc - 1) by omega), if_neg (show ¬ (k + 3 = k + 3 ∧ i ≤ j ∧ j + 1 < fc) by omega), if_neg c1, if_neg c2, if_neg c3]
      · rw [if_neg (show ¬ (k + 3 = k + 3 ∧ j = fc - 1) by omega), if_neg (show ¬ (k + 3 = k + 3 ∧ i ≤ j ∧ j + 1 < fc) by omega), if_neg (show ¬ (k + 3 = k + 3 ∧ j < 5) by omega)]
    · rw [if_neg (fun q => hx q.1), if_neg (fun q => hx q.1), if_neg (fun q => hx q.1)]

