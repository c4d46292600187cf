def TOk (w : Wf) (tm q : Nat) : Prop := ∃ (a b wd br : Nat) (P V : Int), (w (9 + 6 * q) = nI a ∧ a ≤ 9) ∧ (w (9 + 6 * q + 1) = nI b ∧ b ≤ 9) ∧ (w (9 + 6 * q + 2) = iI P ∧ -(20000 + 200 * (tm : Int)) ≤ P + V * tm ∧ P + V * tm ≤ 20000 + 200 * (tm : Int)) ∧ (w (9 + 6 * q + 3) = iI V ∧ -200 ≤ V ∧ V ≤ 200) ∧ (w (9 + 6 * q + 4) = nI wd ∧ 50 ≤ wd ∧ wd ≤ 1600) ∧ (w (9 + 6 * q + 5) = nI br ∧ br ≤ 255)
def OKn (N : Nat) (w : Wf) (tc fc tm : Nat) : Prop := (w 8 = nI tc ∧ tc ≤ 4) ∧ (w 36 = nI fc ∧ fc ≤ 5) ∧ (w 33 = nI tm ∧ tm ≤ 20000) ∧ (Rg (w 2) 0 9 ∧ Rg (w 3) 1 255 ∧ Rg (w 4) 0 255 ∧ Rg (w 5) 0 20 ∧ Rg (w 6) 0 20 ∧ Rg (w 7) 0 100) ∧ (∀ q, q < tc → TOk w tm q) ∧ (∀ f, f < fc → Rg (w (37 + 162 * f)) 0 20000) ∧ (∀ r, r < 10 → Rg (w (847 + r)) 0 N) ∧ ∀ r, r < 10 → Rg (w (857 + r)) 0 N
def OKw (N : Nat) (w : Wf) : Prop := ∃ tc fc tm, OKn N w tc fc tm
theorem Rg.mono {x : Int32} {lo hi hi' : Nat} (h : Rg x lo hi) (hh : hi ≤ hi') : Rg x lo hi' := by
  obtain ⟨n, a, b, c⟩ := h
  exact ⟨n, a, b, by omega⟩
theorem OKn.mono {N M : Nat} {w : Wf} {tc fc tm : Nat} (h : OKn N w tc fc tm) (hNM : N ≤ M) : OKn M w tc fc tm := ⟨h.1, h.2.1, h.2.2.1, h.2.2.2.1, h.2.2.2.2.1, h.2.2.2.2.2.1, fun r hr => (h.2.2.2.2.2.2.1 r hr).mono hNM, fun r hr => (h.2.2.2.2.2.2.2 r hr).mono hNM⟩
theorem OKw.mono {N M : Nat} {w : Wf} (h : OKw N w) (hNM : N ≤ M) : OKw M w := by
  obtain ⟨tc, fc, tm, h⟩ := h
  exact ⟨tc, fc, tm, h.mono hNM⟩
theorem OKw.of {N : Nat} {w : Wf} (h : OKw N w) {tc fc : Nat} (h1 : w 8 = nI tc) (h2 : tc ≤ 4) (h3 : w 36 = nI fc) (h4 : fc ≤ 5) : ∃ tm, OKn N w tc fc tm := by
  obtain ⟨tc', fc', tm, h⟩ := h
  have e1 : tc' = tc := by
    rw [← q_eq (by have := h.1.2; omega) (by omega), ← h.1.1, h1]
  have e2 : fc' = fc := by
    rw [← q_eq (by have := h.2.1.2; omega) (by omega), ← h.2.1.1, h3]
  subst e1
  subst e2
  exact ⟨tm, h⟩
theorem OKw.cong {N : Nat} {w w' : Wf} (h : OKw N w) (hw : ∀ j, j < 867 → w' j = w j) : OKw N w' := by
  obtain ⟨tc, fc, tm, a1, a2, a3, a4, a5, a6, a7, a8⟩ := h
  have t4 := a1.2
  have f5 := a2.2
  refine ⟨tc, fc, tm, by rw [hw 8 (by omega)]; exact a1, by rw [hw 36 (by omega)]; exact a2, by rw [hw 33 (by omega)]; exact a3, by rw [hw 2 (by omega), hw 3 (by omega), hw 4 (by omega), hw 5 (by omega), hw 6 (by omega), hw 7 (by omega)]; exact a4, fun q hq => ?_, fun f hf => by rw [hw _ (by omega)]; exact a6 f hf, fun r hr => by rw [hw _ (by omega)]; exact a7 r hr, fun r hr => by rw [hw _ (by omega)]; exact a8 r hr⟩
  have := a5 q hq
  unfold TOk at *
  rw [hw _ (by omega), hw _ (by omega), hw _ (by omega), hw _ (by omega), hw _ (by omega), hw _ (by omega)]
  exact this
theorem vmul {V : Int} {t : Nat} (h1 : -200 ≤ V) (h2 : V ≤ 200) : -(200 * (t : Int)) ≤ V * t ∧ V * t ≤ 200 * (t : Int) := by
  have ht : (0 : Int) ≤ t := by omega
  have a := Int.mul_le_mul_of_nonneg_right h1 ht
  have b := Int.mul_le_mul_of_nonneg_right h2 ht
  omega
theorem TOk.b1 {w : Wf} {tm q : Nat} (h : TOk w tm q) (htm : tm ≤ 20000) {t : Nat} (ht : t ≤ 30000) : B1 w q (nI t) := by
  obtain ⟨a, b, wd, br, P, V, h1, h2, ⟨h3, h4, h5⟩, ⟨h6, h7, h8⟩, ⟨h9, h10, h11⟩, h12⟩ := h
  have m1 := vmul (t := tm) h7 h8
  have m2 := vmul (t := t) h7 h8
  unfold B1
  have e : pl w q (nI t) = iI (P + V * t) := by
    unfold pl
    rw [h3, h6, iI_nat t, iI_mul, iI_add]
  rw [e, iI_int (by omega) (by omega), h9, q_int (by omega)]
  omega
theorem OKn.bt {N : Nat} {w : Wf} {tc fc tm : Nat} (h : OKn N w tc fc tm) {t : Nat} (ht : t ≤ 30000) : BT w tc (nI t) := fun q hq => (h.2.2.2.2.1 q hq).b1 h.2.2.1.2 ht
theorem OKn.snap {N : Nat} {w : Wf} {tc fc tm R : Nat} (h : OKn N w tc fc tm) (hR : R ≤ 10) : Snap w tc R := by
  refine ⟨h.2.2.2.1.2.2.1, fun q hq => ?_, fun r hr => ?_⟩
  · obtain ⟨a, b, wd, br, P, V, h1, h2, h3, h4, h5, h6⟩ := h.2.2.2.2.1 q hq
    exact ⟨br, h6.1, by omega, h6.2⟩
  · obtain ⟨d, e1, e2, e3⟩ := h.2.2.2.1.1
    rw [h.2.2.1.1, e1, q_mul, q_add]
    have : r * d ≤ 9 * 9 := Nat.mul_le_mul (by omega) e3
    exact h.bt (by have := h.2.2.1.2; omega)

