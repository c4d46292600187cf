theorem CSh.rot25 {S S' : St} (h : CSh S) (hn : S'.2.2 = S.2.2) (hr : ∀ x j, S'.2.1 x j = if x = 25 ∧ j < 4 then S.2.1 25 (if j < 3 then j + 1 else 0) else S.2.1 x j) : CSh S' := by
  have e : ∀ x, x ≠ 25 → ∀ j, S'.2.1 x j = S.2.1 x j := fun x hx j => by rw [hr, if_neg (fun q => hx q.1)]
  have e3 : ∀ j, j < 4 → S'.2.1 25 j = S.2.1 25 (if j < 3 then j + 1 else 0) := fun j hj => by rw [hr, if_pos ⟨rfl, hj⟩]
  obtain ⟨h1, h2, h3, h4, h6, h7, h8, h9, h10⟩ := h
  have q4 := e 4 (by omega)
  have q26 := e 26 (by omega)
  have q28 := e 28 (by omega)
  have q30 := e 30 (by omega)
  have q35 := e 35 (by omega)
  have q41 := e 41 (by omega)
  unfold CSh
  refine ⟨hn.trans h1, ?_, ?_, ?_, ?_, ?_, fun k' hk' => ?_, fun i hi => ?_, fun i j hi hj => ?_⟩
  · simp only [q4]; exact h2
  · simp only [q26, q28]; exact h3
  · simp only [q30]; exact h4
  · simp only [q35]; exact h6
  · rw [q41]; exact h7
  · obtain ⟨s1, s2, s3, s4, s5⟩ := h8 k' hk'
    have hk3 := hk'
    unfold Sc at hk3
    have r0 := e k' (by omega)
    have r2 := e (k' + 2) (by omega)
    have r3 := e (k' + 3) (by omega)
    refine ⟨by simp only [r0]; exact s1, fun q hq => by rw [r2]; exact s2 q hq, fun F hF => ?_, fun f hf => ?_, fun f g hf hg => ?_⟩
    · have hb := hF.rg
      rw [e F (by omega)]
      exact s3 F hF
    · rw [r3]; exact s4 f hf
    · rw [r3, r3]; exact s5 f g hf hg
  · rw [e3 i hi]
    exact h9 _ (by split <;> omega)
  · rw [e3 i hi, e3 j hj]
    intro z
    have := h10 _ _ (by split <;> omega) (by split <;> omega) z
    by_cases c1 : i < 3
    · by_cases c2 : j < 3
      · rw [if_pos c1, if_pos c2] at this; omega
      · rw [if_pos c1, if_neg c2] at this; omega
    · by_cases c2 : j < 3
      · rw [if_neg c1, if_pos c2] at this; omega
      · omega
theorem e_drop {S : St} (h1 : CSh S) : ∃ S2, f_X7_dropOldestState S 4 = some S2 ∧ (∀ x j, S2.1 x j = if x = 4 ∧ j = 2 then nI 3 else S.1 x j) ∧ (∀ x j, S2.2.1 x j = if x = 25 ∧ j < 4 then S.2.1 25 (if j < 3 then j + 1 else 0) else S.2.1 x j) ∧ S2.2.2 = S.2.2 := by
  unfold f_X7_dropOldestState
  have e1 : S.2.1 4 1 = 25 := h1.2.1.2.1
  have hl4 : Int32.ofNat (ln 25) = nI 4 := rfl
  have ok25 : ∀ S' : St, S'.2.2 = 124 → okc S' 13 25 := fun S' q => okS q rfl (by decide)
  have ia25 : ∀ S' : St, S'.2.2 = 124 → ∀ i, i < 4 → ina S' 13 25 (nI i) := fun S' q i hi => ⟨ok25 S' q, by rw [L0, q_le (by omega) (by omega)]; omega, by rw [q_cl (by omega)]; exact hi⟩
  have o7 : ∀ (S' : St) (o : Option St), S'.2.2 = 124 → chk (okc S' 7 4) o = o := fun S' o q => ck_t (okS q rfl (by decide)) o
  obtain ⟨hs0, -⟩ := h1.2.2.2.2.2.2.2.1 0 (by omega)
  have hb0 := hs0.rg
  generalize hkx : (fun (S_3 : St) => (chk (okc S_3 7 4) (chk (okc S_3 13 (S_3.2.1 4 1)) (chk (okc S_3 7 4) (vlt (upI S_3 4 2 ((Int32.ofNat (ln (S_3.2.1 4 1))) - 1)) fun S_4 => (some S_4)))))) = kx
  obtain ⟨S1, ⟨p1, ⟨p2, p2'⟩, p3⟩, g⟩ := wl2_inv (F := f_X7_dropOldestState_B2 4 kx) (kx := kx) (n := 4) (fun x S' => 1 ≤ x ∧ (S'.1 = S.1 ∧ S'.2.2 = S.2.2) ∧ ∀ a j, S'.2.1 a j = if a = 25 ∧ j + 1 < x then S.2.1 25 (j + 1) else if a = 25 ∧ j + 1 = x then S.2.1 25 0 else S.2.1 a j) (fun x S1 kk hx hP => by
      unfold f_X7_dropOldestState_B2
      obtain ⟨p0, ⟨p1, p2⟩, p3⟩ := hP
      have hn1 : S1.2.2 = 124 := by rw [p2, h1.n]
      have e3 : S1.2.1 4 1 = 25 := by rw [p3, if_neg (by omega), if_neg (by omega)]; exact e1
      have ex : S1.2.1 25 x = S.2.1 25 x := by rw [p3, if_neg (by omega), if_neg (by omega)]
      have ey : S1.2.1 25 (x - 1) = S.2.1 25 0 := by rw [p3, if_neg (by omega), if_pos (by omega)]
      have hsx := (h1.2.2.2.2.2.2.2.1 x hx).1
      have hb := hsx.rg
      have ecl : (nI x).toNatClampNeg = x := q_cl (by omega)
      have ecl2 : (nI (x - 1)).toNatClampNeg = x - 1 := q_cl (by omega)
      have es : nI x - 1 = nI (x - 1) := by rw [L1, q_sub (by omega)]
      have ea : nI x + 1 = nI (x + 1) := by rw [L1, q_add]
      have hlt : ¬ nI 4 ≤ nI x := by
        rw [q_le (by omega) (by omega)]
        omega
      simp only [e3, hl4, es, ea, ecl, ecl2, ex, ey]
      rw [o7 S1 _ hn1, ck_t (ok25 S1 hn1), if_neg hlt, o7 S1 _ hn1, ck_t (ia25 S1 hn1 (x - 1) (by omega)), o7 S1 _ hn1, o7 S1 _ hn1, ck_t (ia25 S1 hn1 x hx), ck_t (show inw S1 13 25 (nI (x - 1)) ∧ okc S1 3 (S.2.1 25 x) from ⟨⟨ia25 S1 hn1 (x - 1) (by omega), by omega⟩, okS hn1 hsx.kds.1 (by omega)⟩), vlt_s]
      have e4 : (upR S1 25 (x - 1) (S.2.1 25 x)).2.1 4 1 = 25 := by rw [upR_at, if_neg (by omega)]; exact e3
      have hnA : (upR S1 25 (x - 1) (S.2.1 25 x)).2.2 = 124 := by rw [upR_n]; exact hn1
      simp only [e4]
      rw [o7 _ _ hnA, ck_t (show inw (upR S1 25 (x - 1) (S.2.1 25 x)) 13 25 (nI x) ∧ okc (upR S1 25 (x - 1) (S.2.1 25 x)) 3 (S.2.1 25 0) from ⟨⟨ia25 _ hnA x hx, by omega⟩, okS hnA hs0.kds.1 (by omega)⟩), vlt_s]
      refine ⟨upR (upR S1 25 (x - 1) (S.2.1 25 x)) 25 x (S.2.1 25 0), ⟨by omega, ⟨p1, p2⟩, fun a j => ?_⟩, rfl⟩
      rw [upR_at, upR_at, p3]
      by_cases ha : a = 25
      · subst ha
        by_cases c1 : j = x
        · rw [if_pos ⟨rfl, c1⟩, if_neg (by omega), if_pos (by omega)]
        · rw [if_neg (show ¬ (25 = 25 ∧ j = x) by omega)]
          by_cases c2 : j = x - 1
          · rw [if_pos ⟨rfl, c2⟩, if_pos (show 25 = 25 ∧ j + 1 < x + 1 by omega), show j + 1 = x by omega]
          · rw [if_neg (show ¬ (25 = 25 ∧ j = x - 1) by omega)]
            by_cases c3 : j + 1 < x
            · rw [if_pos ⟨rfl, c3⟩, if_pos (show 25 = 25 ∧ j + 1 < x + 1 by omega)]
            · rw [if_neg (show ¬ (25 = 25 ∧ j + 1 < x) by omega), if_neg (show ¬ (25 = 25 ∧ j + 1 = x) by omega), if_neg (show ¬ (25 = 25 ∧ j + 1 < x + 1) by omega), if_neg (show ¬ (25 = 25 ∧ j + 1 = x + 1) by omega)]
      · rw [if_neg (fun q => ha q.1), if_neg (fun q => ha q.1), if_neg (fun q => ha q.1), if_neg (fun q => ha q.1), if_neg (fun q => ha q.1), if_neg (fun q => ha q.1)]) (fun S1 kk hP => by
      unfold f_X7_dropOldestState_B2
      obtain ⟨p0, ⟨p1, p2⟩, p3⟩ := hP
      have hn1 : S1.2.2 = 124 := by rw [p2, h1.n]
      have e3 : S1.2.1 4 1 = 25 := by rw [p3, if_neg (by omega), if_neg (by omega)]; exact e1
      simp only [e3, hl4]
      rw [o7 S1 _ hn1, ck_t (ok25 S1 hn1), if_pos (Int32.le_refl _)]) 3 1 FU S (by omega) (by decide) ⟨Nat.le_refl _, ⟨rfl, rfl⟩, fun a j => by
        rw [if_neg (by omega)]
        by_cases c : a = 25 ∧ j + 1 = 1
        · rw [if_pos c, c.1, show j = 0 by omega]
        · rw [if_neg c]⟩
  rw [show nI 1 = (1 : Int32) from rfl] at g
  have hn1 : S1.2.2 = 124 := by rw [p2', h1.n]
  have e3 : S1.2.1 4 1 = 25 := by rw [p3, if_neg (by omega), if_neg (by omega)]; exact e1
  have es3 : nI 4 - 1 = nI 3 := by rw [L1, q_sub (by omega)]
  rw [g, ← hkx]
  simp only [e3, hl4, es3]
  rw [o7 S1 _ hn1, ck_t (ok25 S1 hn1), o7 S1 _ hn1, vlt_s]
  refine ⟨upI S1 4 2 (nI 3), rfl, fun x j => by rw [upI_at, p2], fun x j => ?_, p2'⟩
  rw [upI_r, p3]
  by_cases hx : x = 25
  · subst hx
    by_cases c1 : j < 3
    · rw [if_pos (show 25 = 25 ∧ j + 1 < 4 from ⟨rfl, by omega⟩), if_pos (show 25 = 25 ∧ j < 4 from ⟨rfl, by omega⟩), if_pos c1]
    · by_cases c2 : j = 3
      · rw [if_neg (show ¬ (25 = 25 ∧ j + 1 < 4) by omega), if_pos (show 25 = 25 ∧ j + 1 = 4 from ⟨rfl, by omega⟩), if_pos (show 25 = 25 ∧ j < 4 from ⟨rfl, by omega⟩), if_neg c1]
      · rw [if_neg (show ¬ (25 = 25 ∧ j + 1 < 4) by omega), if_neg (show ¬ (25 = 25 ∧ j + 1 = 4) by omega), if_neg (show ¬ (25 = 25 ∧ j < 4) by omega)]
  · rw [if_neg (fun q => hx q.1), if_neg (fun q => hx q.1), if_neg (fun q => hx q.1)]
theorem e_recordState {S : St} {w : Wf} {st len : Nat} {h : Nat → Wf} {tx : Nat → Int32} (hi : CI S w st h len tx) : ∃ S', f_X7_recordState S 4 = some S' ∧ CI S' w (hst st) (hps st h w) len tx ∧ Ch AR S S' := by
  have hi0 := hi
  obtain ⟨h1, h2, h3, ⟨a1, a2, a3⟩, h5, h6, h7⟩ := hi
  unfold f_X7_recordState
  have e1 : S.2.1 4 1 = 25 := h1.2.1.2.1
  have hl4 : Int32.ofNat (ln 25) = nI 4 := rfl
  have ok25 : ∀ S' : St, S'.2.2 = 124 → okc S' 13 25 := fun S' q => okS q rfl (by decide)
  simp only [e1, hl4, a2]
  rw [ck7 h1, ck7 h1, ck_t (ok25 S h1.n)]
  by_cases hs4 : st = 4
  · subst hs4
    obtain ⟨S2, d1, i2, r2, n2⟩ := e_drop h1
    rw [if_neg (by rw [q_lt (by omega) (by omega)]; omega), ck7 h1, d1, bnd_s]
    have s2 := h1.rot25 n2 r2
    have c2 : Ch (fun x => x = 4 ∨ x = 25) S S2 := ⟨n2, fun x hx => ⟨by
      funext j
      rw [i2, if_neg (by omega)], by
      funext j
      rw [r2, if_neg (by omega)]⟩⟩
    have hno : ∀ k, Sc k → ∀ d, d < 20 → ¬ (k + d = 4 ∨ k + d = 25) := fun k hk d hd => by
      have := hk.no hd
      have := hk.rg
      omega
    have ci2 : CI S2 w 3 (fun i => h (i + 1)) len tx := by
      refine ⟨s2, h2.ch c2 (by omega) (by omega), h3.ch h1 sc5 c2 (hno 5 sc5), ⟨by omega, by rw [i2, if_pos ⟨rfl, rfl⟩], fun i hi => ?_⟩, h5, by rw [i2, if_neg (by omega)]; exact h6, fun j hj => by rw [i2, if_neg (by omega)]; exact h7 j hj⟩
      rw [r2, if_pos ⟨rfl, by omega⟩, if_pos hi]
      have hsi := (h1.2.2.2.2.2.2.2.1 (i + 1) (by omega)).1
      exact (a3 (i + 1) (by omega)).ch h1 hsi c2 (hno _ hsi)
    obtain ⟨S3, k1, k2, k3⟩ := e_recJ ci2 (by omega)
    refine ⟨S3, k1, ?_, (c2.wk (fun x q => by unfold AR; omega)).tr k3⟩
    obtain ⟨b1, b2, b3, ⟨b4, b5, b6⟩, b7⟩ := k2
    refine ⟨b1, b2, b3, ⟨by decide, b5, fun i hi => ?_⟩, b7⟩
    have hi4 : i < 4 := hi
    have : RNe S3 (S3.2.1 25 i) (if i = 3 then w else h (i + 1)) := b6 i (by omega)
    unfold hps
    rw [if_pos rfl]
    by_cases c : i = 3
    · rw [if_neg (by omega)]
      rw [if_pos c] at this
      exact this
    · rw [if_pos (by omega)]
      rw [if_neg c] at this
      exact this
  · rw [if_pos (by rw [q_lt (by omega) (by omega)]; omega)]
    obtain ⟨S3, k1, k2, k3⟩ := e_recJ hi0 (by omega)
    refine ⟨S3, k1, ?_, k3⟩
    unfold hst hps
    rw [if_neg hs4]
    simp only [if_neg hs4]
    exact k2

