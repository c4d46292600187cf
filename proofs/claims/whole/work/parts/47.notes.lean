/-! THE MODEL KEEPS STATES; what is in bounds -/
theorem e_copies {S : St} (hn : S.2.2 = 131) {a b n m o1 o2 : Nat} (ha : Ar a n) (hb : Ar b m) (h1 : o1 + 867 ≤ n) (h2 : o2 + 867 ≤ m) (hne : a ≠ b) : ∃ S', f_X8_copies S a (nI o1) b (nI o2) = some S' ∧ Ex (fun x _ => x = b) S S' ∧ ∀ j, S'.1 b j = if o2 ≤ j ∧ j < o2 + 867 then S.1 a (o1 + (j - o2)) else S.1 b j := by
  have hn5 := ha.2.2.2.2
  have hm5 := hb.2.2.2.2
  unfold f_X8_copies
  obtain ⟨S', ⟨p1, p2⟩, g⟩ := wl2_inv (F := f_X8_copies_B3 a (nI o1) b (nI o2) (fun S_2 => some S_2)) (kx := fun S_2 => some S_2) (n := 867) (fun i S' => Ex (fun x _ => x = b) S S' ∧ ∀ j, S'.1 b j = if o2 ≤ j ∧ j < o2 + i then S.1 a (o1 + (j - o2)) else S.1 b j) (fun i S1 kk hi hP => by
    unfold f_X8_copies_B3
    obtain ⟨p1, p2⟩ := hP
    have hn1 : S1.2.2 = 131 := by rw [p1.n, hn]
    simp only [q_add]
    rw [if_neg (by rw [L867, q_le (by omega) (by omega)]; omega), ckA hn1 ha (by omega), cwA hn1 hb (by omega)]
    simp only [q_cl (show o1 + i < 2147483648 by omega), q_cl (show o2 + i < 2147483648 by omega)]
    rw [vlt_s, L1, q_add]
    refine ⟨_, ⟨p1.upa, fun j => ?_⟩, rfl⟩
    rw [upI_at, p2, p1.2 a _ hne]
    by_cases hj : j = o2 + i
    · subst hj
      rw [if_pos ⟨rfl, rfl⟩, if_pos (by omega), show o1 + (o2 + i - o2) = o1 + i by omega]
    · rw [if_neg (fun q => hj q.2)]
      have : (o2 ≤ j ∧ j < o2 + i) = (o2 ≤ j ∧ j < o2 + (i + 1)) := by
        apply propext; omega
      simp only [this]) (fun S1 kk hP => by
    unfold f_X8_copies_B3
    rw [if_pos (by rw [L867, q_le (by omega) (by omega)]; omega)]) 867 0 FU S rfl (by decide) ⟨Ex.rf, fun j => by rw [if_neg (by omega)]⟩
  exact ⟨S', g, p1, p2⟩
theorem ar125 : Ar 125 867 := ⟨rfl, rfl, by decide, by decide, by decide⟩
theorem ar126 : Ar 126 3468 := ⟨rfl, rfl, by decide, by decide, by decide⟩
theorem ar127 : Ar 127 867 := ⟨rfl, rfl, by decide, by decide, by decide⟩
theorem ar128 : Ar 128 80 := ⟨rfl, rfl, by decide, by decide, by decide⟩
theorem ar129 : Ar 129 17 := ⟨rfl, rfl, by decide, by decide, by decide⟩
theorem ar130 : Ar 130 6 := ⟨rfl, rfl, by decide, by decide, by decide⟩
theorem MSh.ex {P : Nat → Nat → Prop} {S S' : St} (h : MSh S) (he : Ex P S S') : MSh S' := by
  unfold MSh at *
  rw [he.n, he.r]
  exact h
theorem MSh.ch {A : Nat → Prop} {S S' : St} (h : MSh S) (hc : Ch A S S') (h1 : ¬ A 124) : MSh S' := by
  unfold MSh at *
  rw [hc.1, (hc.2 124 h1).2]
  exact h
theorem ck8 {S : St} (h : MSh S) {β : Type} (o : Option β) : chk (okc S 8 124) o = o := ck_t (okM h) o
/-- what keeping a state may change in the model -/
def PN : Nat → Nat → Prop := fun x j => x = 126 ∨ (x = 124 ∧ j = 2)
theorem e_notesJ {S : St} (hm : MSh S) {st : Nat} (h2 : S.1 124 2 = nI st) (h4 : st < 4) : ∃ S', f_X8_notes_J49 S 124 = some S' ∧ Ex PN S S' ∧ S'.1 124 2 = nI (st + 1) ∧ ∀ j, S'.1 126 j = if 867 * st ≤ j ∧ j < 867 * st + 867 then S.1 125 (j - 867 * st) else S.1 126 j := by
  unfold f_X8_notes_J49
  rw [ck8 hm, ck8 hm, ck8 hm, hm.2.1, hm.2.2.1, h2, L867, q_mul, L0]
  obtain ⟨S1, g1, g2, g3⟩ := e_copies hm.1 (o1 := 0) (o2 := 867 * st) ar125 ar126 (by omega) (by omega) (by omega)
  have m1 := hm.ex g2
  rw [g1, bnd_s, ck8 m1, ck8 m1, vlt_s, g2.2 124 2 (by omega), h2, L1, q_add]
  refine ⟨_, rfl, (g2.wk (fun x j q => Or.inl q)).upp (Or.inr ⟨rfl, rfl⟩), by rw [upI_at, if_pos ⟨rfl, rfl⟩], fun j => ?_⟩
  rw [upI_at, if_neg (by omega), g3]
  simp only [Nat.zero_add]
theorem e_notes {S : St} (hm : MSh S) {st : Nat} (h2 : S.1 124 2 = nI st) (h4 : st ≤ 4) : ∃ S', f_X8_notes S 124 = some S' ∧ Ex PN S S' ∧ S'.1 124 2 = nI (hst st) ∧ ∀ i, i < hst st → ∀ j, j < 867 → S'.1 126 (867 * i + j) = hps st (fun i j => S.1 126 (867 * i + j)) (S.1 125) i j := by
  unfold f_X8_notes
  rw [ck8 hm, h2]
  by_cases hs : st = 4
  · subst hs
    rw [if_pos (show nI 4 = (4 : Int32) from rfl)]
    obtain ⟨S1, ⟨p1, p2⟩, g⟩ := wl2_inv (F := f_X8_notes_B10 124 (fun (S_4 : St) => (chk (okc S_4 8 124) (chk (okc S_4 8 124) (vlt (upI S_4 124 2 ((S_4.1 124 2) - 1)) fun S_5 => (f_X8_notes_J49 S_5 124)))))) (kx := (fun (S_4 : St) => (chk (okc S_4 8 124) (chk (okc S_4 8 124) (vlt (upI S_4 124 2 ((S_4.1 124 2) - 1)) fun S_5 => (f_X8_notes_J49 S_5 124)))))) (n := 2601) (fun x S' => Ex (fun x _ => x = 126) S S' ∧ ∀ j, S'.1 126 j = if j < x then S.1 126 (j + 867) else S.1 126 j) (fun x S1 kk hx hP => by
      unfold f_X8_notes_B10
      obtain ⟨p1, p2⟩ := hP
      have m1 := hm.ex p1
      simp only [m1.2.2.1, L867, q_add]
      rw [if_neg (by rw [L2601, q_le (by omega) (by omega)]; omega), ck8 m1, ck8 m1, ckA m1.1 ar126 (by omega), cwA m1.1 ar126 (by omega)]
      simp only [q_cl (show x < 2147483648 by omega), q_cl (show x + 867 < 2147483648 by omega)]
      rw [vlt_s, L1, q_add]
      refine ⟨_, ⟨p1.upa, fun j => ?_⟩, rfl⟩
      have e1 : S1.1 126 (x + 867) = S.1 126 (x + 867) := by rw [p2, if_neg (by omega)]
      rw [upI_at, e1, p2 j]
      by_cases hj : j = x
      · subst hj
        rw [if_pos ⟨rfl, rfl⟩, if_pos (by omega)]
      · rw [if_neg (fun q => hj q.2)]
        have : (j < x) = (j < x + 1) := by
          apply propext; omega
        simp only [this]) (fun S1 kk hP => by
      unfold f_X8_notes_B10
      rw [if_pos (by rw [L2601, q_le (by omega) (by omega)]; omega)]) 2601 0 FU S rfl (by decide) ⟨Ex.rf, fun j => by rw [if_neg (by omega)]⟩
    rw [show nI 0 = (0 : Int32) from rfl] at g
    have m1 := hm.ex p1
    rw [g, ck8 m1, ck8 m1, vlt_s, p1.2 124 2 (by omega), h2, L1, q_sub (by omega)]
    generalize hS2 : upI S1 124 2 (nI (4 - 1)) = S2
    have x2 : Ex (fun x j => x = 124 ∧ j = 2) S1 S2 := by
      rw [← hS2]
      exact Ex.rf.upp ⟨rfl, rfl⟩
    have m2 := m1.ex x2
    obtain ⟨S3, q1, q2, q3, q4⟩ := e_notesJ m2 (st := 3) (by rw [← hS2, upI_at, if_pos ⟨rfl, rfl⟩]) (by omega)
    refine ⟨S3, q1, ((p1.wk (fun x j q => Or.inl q)).tr (x2.wk (fun x j q => Or.inr q))).tr q2, q3, fun i hi j hj => ?_⟩
    have hi4 : i < 4 := hi
    rw [q4]
    unfold hps
    rw [if_pos rfl]
    by_cases c : i < 3
    · rw [if_neg (by omega), x2.2 126 _ (by omega), p2, if_pos (by omega), if_pos c]
      show _ = S.1 126 (867 * (i + 1) + j)
      rw [show 867 * i + j + 867 = 867 * (i + 1) + j by omega]
    · rw [if_pos (by omega), x2.2 125 _ (by omega), p1.2 125 _ (by omega), if_neg c, show 867 * i + j - 867 * 3 = j by omega]
  · rw [if_neg (by rw [L4, q_eq (by omega) (by omega)]; exact hs)]
    obtain ⟨S3, q1, q2, q3, q4⟩ := e_notesJ hm h2 (by omega)
    unfold hst hps
    rw [if_neg hs]
    simp only [if_neg hs]
    refine ⟨S3, q1, q2, q3, fun i hi j hj => ?_⟩
    rw [q4]
    by_cases c : i = st
    · subst c
      rw [if_pos (by omega), if_pos rfl, show 867 * i + j - 867 * i = j by omega]
    · rw [if_neg (by omega), if_neg c]
/-! what is in bounds -/
def TOk (w : Wf) (tm q : Nat) : Prop := ∃ (a b wd br : Nat) (P V : Int), (w (9 + 6 * q) = nI a ∧ a ≤ 9) ∧ (w (9 + 6 * q + 1) = nI b ∧ b ≤ 9) ∧ (w (9 + 6 * q + 2) = iI P ∧ -(20000 + 200 * (tm : Int)) ≤ P + V * tm ∧ P + V * tm ≤ 20000 + 200 * (tm : Int)) ∧ (w (9 + 6 * q + 3) = iI V ∧ -200 ≤ V ∧ V ≤ 200) ∧ (w (9 + 6 * q + 4) = nI wd ∧ 50 ≤ wd ∧ wd ≤ 1600) ∧ (w (9 + 6 * q + 5) = nI br ∧ br ≤ 255)
def OKn (N : Nat) (w : Wf) (tc fc tm : Nat) : Prop := (w 8 = nI tc ∧ tc ≤ 4) ∧ (w 36 = nI fc ∧ fc ≤ 5) ∧ (w 33 = nI tm ∧ tm ≤ 20000) ∧ (Rg (w 2) 0 9 ∧ Rg (w 3) 1 255 ∧ Rg (w 4) 0 255 ∧ Rg (w 5) 0 20 ∧ Rg (w 6) 0 20 ∧ Rg (w 7) 0 100) ∧ (∀ q, q < tc → TOk w tm q) ∧ (∀ f, f < fc → Rg (w (37 + 162 * f)) 0 20000) ∧ (∀ r, r < 10 → Rg (w (847 + r)) 0 N) ∧ ∀ r, r < 10 → Rg (w (857 + r)) 0 N
def OKw (N : Nat) (w : Wf) : Prop := ∃ tc fc tm, OKn N w tc fc tm
theorem Rg.mono {x : Int32} {lo hi hi' : Nat} (h : Rg x lo hi) (hh : hi ≤ hi') : Rg x lo hi' := by
  obtain ⟨n, a, b, c⟩ := h
  exact ⟨n, a, b, by omega⟩
theorem OKn.mono {N M : Nat} {w : Wf} {tc fc tm : Nat} (h : OKn N w tc fc tm) (hNM : N ≤ M) : OKn M w tc fc tm := ⟨h.1, h.2.1, h.2.2.1, h.2.2.2.1, h.2.2.2.2.1, h.2.2.2.2.2.1, fun r hr => (h.2.2.2.2.2.2.1 r hr).mono hNM, fun r hr => (h.2.2.2.2.2.2.2 r hr).mono hNM⟩
theorem OKw.mono {N M : Nat} {w : Wf} (h : OKw N w) (hNM : N ≤ M) : OKw M w := by
  obtain ⟨tc, fc, tm, h⟩ := h
  exact ⟨tc, fc, tm, h.mono hNM⟩
theorem OKw.of {N : Nat} {w : Wf} (h : OKw N w) {tc fc : Nat} (h1 : w 8 = nI tc) (h2 : tc ≤ 4) (h3 : w 36 = nI fc) (h4 : fc ≤ 5) : ∃ tm, OKn N w tc fc tm := by
  obtain ⟨tc', fc', tm, h⟩ := h
  have e1 : tc' = tc := by
    rw [← q_eq (by have := h.1.2; omega) (by omega), ← h.1.1, h1]
  have e2 : fc' = fc := by
    rw [← q_eq (by have := h.2.1.2; omega) (by omega), ← h.2.1.1, h3]
  subst e1
  subst e2
  exact ⟨tm, h⟩
theorem OKw.cong {N : Nat} {w w' : Wf} (h : OKw N w) (hw : ∀ j, j < 867 → w' j = w j) : OKw N w' := by
  obtain ⟨tc, fc, tm, a1, a2, a3, a4, a5, a6, a7, a8⟩ := h
  have t4 := a1.2
  have f5 := a2.2
  refine ⟨tc, fc, tm, by rw [hw 8 (by omega)]; exact a1, by rw [hw 36 (by omega)]; exact a2, by rw [hw 33 (by omega)]; exact a3, by rw [hw 2 (by omega), hw 3 (by omega), hw 4 (by omega), hw 5 (by omega), hw 6 (by omega), hw 7 (by omega)]; exact a4, fun q hq => ?_, fun f hf => by rw [hw _ (by omega)]; exact a6 f hf, fun r hr => by rw [hw _ (by omega)]; exact a7 r hr, fun r hr => by rw [hw _ (by omega)]; exact a8 r hr⟩
  have := a5 q hq
  unfold TOk at *
  rw [hw _ (by omega), hw _ (by omega), hw _ (by omega), hw _ (by omega), hw _ (by omega), hw _ (by omega)]
  exact this
theorem vmul {V : Int} {t : Nat} (h1 : -200 ≤ V) (h2 : V ≤ 200) : -(200 * (t : Int)) ≤ V * t ∧ V * t ≤ 200 * (t : Int) := by
  have ht : (0 : Int) ≤ t := by omega
  have a := Int.mul_le_mul_of_nonneg_right h1 ht
  have b := Int.mul_le_mul_of_nonneg_right h2 ht
  omega
theorem TOk.b1 {w : Wf} {tm q : Nat} (h : TOk w tm q) (htm : tm ≤ 20000) {t : Nat} (ht : t ≤ 30000) : B1 w q (nI t) := by
  obtain ⟨a, b, wd, br, P, V, h1, h2, ⟨h3, h4, h5⟩, ⟨h6, h7, h8⟩, ⟨h9, h10, h11⟩, h12⟩ := h
  have m1 := vmul (t := tm) h7 h8
  have m2 := vmul (t := t) h7 h8
  unfold B1
  have e : pl w q (nI t) = iI (P + V * t) := by
    unfold pl
    rw [h3, h6, iI_nat t, iI_mul, iI_add]
  rw [e, iI_int (by omega) (by omega), h9, q_int (by omega)]
  omega
theorem OKn.bt {N : Nat} {w : Wf} {tc fc tm : Nat} (h : OKn N w tc fc tm) {t : Nat} (ht : t ≤ 30000) : BT w tc (nI t) := fun q hq => (h.2.2.2.2.1 q hq).b1 h.2.2.1.2 ht
theorem OKn.snap {N : Nat} {w : Wf} {tc fc tm R : Nat} (h : OKn N w tc fc tm) (hR : R ≤ 10) : Snap w tc R := by
  refine ⟨h.2.2.2.1.2.2.1, fun q hq => ?_, fun r hr => ?_⟩
  · obtain ⟨a, b, wd, br, P, V, h1, h2, h3, h4, h5, h6⟩ := h.2.2.2.2.1 q hq
    exact ⟨br, h6.1, by omega, h6.2⟩
  · obtain ⟨d, e1, e2, e3⟩ := h.2.2.2.1.1
    rw [h.2.2.1.1, e1, q_mul, q_add]
    have : r * d ≤ 9 * 9 := Nat.mul_le_mul (by omega) e3
    exact h.bt (by have := h.2.2.1.2; omega)
