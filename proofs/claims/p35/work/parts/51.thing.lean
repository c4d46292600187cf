def six (a1 a2 a3 a4 a5 a6 : Int32) (j : Nat) : Int32 := if j = 0 then a1 else if j = 1 then a2 else if j = 2 then a3 else if j = 3 then a4 else if j = 4 then a5 else a6
theorem e_addThing {S : St} (hs : CSh S) {k tc : Nat} (hk : Sc k) (htc : S.1 k 2 = nI tc) (h4 : tc < 4) (a1 a2 a3 a4 a5 a6 : Int32) : ∃ S', f_X3_addThing S k a1 a2 a3 a4 a5 a6 = some S' ∧ Ex (fun x j => x = k + 6 + tc ∨ (x = k ∧ j = 2)) S S' ∧ S'.1 k 2 = nI (tc + 1) ∧ ∀ j, j < 6 → S'.1 (k + 6 + tc) j = six a1 a2 a3 a4 a5 a6 j := by
  unfold f_X3_addThing
  have hb := hk.rg
  have hd := hk.kds
  have o3 : ∀ (S' : St) (o : Option St), S'.2.2 = 124 → chk (okc S' 3 k) o = o := fun S' o q => ck_t (okS q hd.1 (by omega)) o
  have o5 : ∀ (S' : St) (o : Option St), S'.2.2 = 124 → chk (okc S' 5 (k + 6 + tc)) o = o := fun S' o q => ck_t (okS q (hk.thing h4) (by omega)) o
  have ok2 : okc S 14 (k + 2) := okS hs.n hd.2.2.2.1 (by omega)
  have hln : Int32.ofNat (ln (k + 2)) = nI 4 := congrArg Int32.ofNat hd.2.2.2.2.1
  have er : S.2.1 k 1 = k + 2 := (hs.sc hk).1.2.1
  have et : S.2.1 (k + 2) tc = k + 6 + tc := (hs.sc hk).2.1 tc h4
  have ecl : (nI tc).toNatClampNeg = tc := q_cl (by omega)
  have hn := hs.n
  simp only [htc, er, hln, ecl, et]
  rw [o3 S _ hn, if_neg (by rw [L0, q_lt (by omega) (by omega)]; omega), o3 S _ hn, o3 S _ hn, ck_t ok2, if_pos (by rw [q_lt (by omega) (by omega)]; exact h4), o3 S _ hn, o3 S _ hn, ck_t (show ina S 14 (k + 2) (nI tc) from ⟨ok2, by rw [L0, q_le (by omega) (by omega)]; omega, by rw [q_cl (by omega), hd.2.2.2.2.1]; exact h4⟩), if_neg (by omega)]
  simp only [vlt_s, o5, o3, upI_n, hn]
  refine ⟨_, rfl, ((((((Ex.rf.upp (Or.inl rfl)).upp (Or.inl rfl)).upp (Or.inl rfl)).upp (Or.inl rfl)).upp (Or.inl rfl)).upp (Or.inl rfl)).upp (Or.inr ⟨rfl, rfl⟩), ?_, fun j hj => ?_⟩
  · have ne : k ≠ k + 6 + tc := by omega
    rw [upI_at, if_pos ⟨rfl, rfl⟩]
    simp only [upI_at]
    rw [if_neg (by omega), if_neg (by omega), if_neg (by omega), if_neg (by omega), if_neg (by omega), if_neg (by omega), htc, L1, q_add]
  · have ne : ¬ (k + 6 + tc = k) := by omega
    have hj6 : j = 0 ∨ j = 1 ∨ j = 2 ∨ j = 3 ∨ j = 4 ∨ j = 5 := by omega
    rcases hj6 with rfl | rfl | rfl | rfl | rfl | rfl <;> simp only [upI_at, six] <;> simp [ne]
/-- a row with one thing more -/
def wadd (w : Wf) (tc : Nat) (a1 a2 a3 a4 a5 a6 : Int32) : Wf := fun j => if j = 8 then nI (tc + 1) else if 9 + 6 * tc ≤ j ∧ j < 15 + 6 * tc then six a1 a2 a3 a4 a5 a6 (j - (9 + 6 * tc)) else w j
theorem RN.add {S S' : St} {k tc fc bl R C : Nat} {w : Wf} {a1 a2 a3 a4 a5 a6 : Int32} (h : RN S k w tc fc bl R C) (hs : CSh S) (hk : Sc k) (h4 : tc < 4) (he : Ex (fun x j => x = k + 6 + tc ∨ (x = k ∧ j = 2)) S S') (h2 : S'.1 k 2 = nI (tc + 1)) (h6 : ∀ j, j < 6 → S'.1 (k + 6 + tc) j = six a1 a2 a3 a4 a5 a6 j) : RN S' k (wadd w tc a1 a2 a3 a4 a5 a6) (tc + 1) fc bl R C := by
  obtain ⟨b1, b2, b3, b4, b5, b6, b7, b8, b9, b10, b11⟩ := h
  have hb := hk.rg
  have f5 := b8.2.2
  have wn : ∀ j, j ≠ 8 → ¬ (9 + 6 * tc ≤ j ∧ j < 15 + 6 * tc) → wadd w tc a1 a2 a3 a4 a5 a6 j = w j := fun j z1 z2 => by
    unfold wadd
    rw [if_neg z1, if_neg z2]
  refine ⟨⟨fun j hj => by rw [he.2 _ _ (by omega), wn j (by omega) (by omega)]; exact b1.1 j hj, by omega, h2, fun q hq j hj => ?_⟩, by unfold wadd; rw [if_pos rfl], by rw [wn 0 (by omega) (by omega)]; exact b3, by rw [wn 1 (by omega) (by omega)]; exact b4, by rw [he.2 _ _ (by omega), wn 33 (by omega) (by omega)]; exact b5, by rw [he.2 _ _ (by omega), wn 34 (by omega) (by omega)]; exact b6, by rw [he.2 _ _ (by omega), wn 35 (by omega) (by omega)]; exact b7, by rw [he.2 _ _ (by omega), wn 36 (by omega) (by omega)]; exact b8, fun f hf => ?_, fun r hr => by rw [he.2 _ _ (by omega), wn _ (by omega) (by omega)]; exact b10 r hr, fun r hr => by rw [he.2 _ _ (by omega), wn _ (by omega) (by omega)]; exact b11 r hr⟩
  · by_cases c : q = tc
    · subst c
      rw [h6 j hj]
      unfold wadd
      rw [if_neg (by omega), if_pos (by omega), show 9 + 6 * q + j - (9 + 6 * q) = j by omega]
    · rw [he.2 _ _ (by omega), wn _ (by omega) (by omega)]
      exact b1.2.2.2 q (by omega) j hj
  · rw [he.r]
    have hFb := ((hs.sc hk).2.2.2.1 f (by omega)).rg
    refine ((b9 f hf).ch (A := fun x => x = k + 6 + tc ∨ x = k) (he.ch (fun x j q => by omega)) (by omega) (by omega)).w (fun j hj => wn _ (by omega) (by omega)) b3.2.2 b4.2.2
theorem i_rg {x : Int32} {lo hi : Int} (h1 : iI lo ≤ x) (h2 : x ≤ iI hi) (h3 : -2147483648 ≤ lo) (h4 : hi < 2147483648) (h5 : lo < 2147483648) (h6 : -2147483648 ≤ hi) : ∃ z : Int, x = iI z ∧ lo ≤ z ∧ z ≤ hi := by
  rw [Int32.le_iff_toInt_le, iI_int h3 h5] at h1
  rw [Int32.le_iff_toInt_le, iI_int h6 h4] at h2
  exact ⟨x.toInt, iI_of x, h1, h2⟩
theorem OKn.add {N : Nat} {w : Wf} {tc fc tm : Nat} {a1 a2 a3 a4 a5 a6 : Int32} (h : OKn N w tc fc tm) (h4 : tc < 4) (z1 : 0 ≤ a1 ∧ a1 ≤ 9) (z2 : a1 ≤ a2 ∧ a2 ≤ 9) (z3 : -20000 ≤ a3 ∧ a3 ≤ 20000) (z4 : -200 ≤ a4 ∧ a4 ≤ 200) (z5 : 50 ≤ a5 ∧ a5 ≤ 1600) (z6 : 0 ≤ a6 ∧ a6 ≤ 255) : OKn N (wadd w tc a1 a2 a3 a4 a5 a6) (tc + 1) fc tm := by
  obtain ⟨b1, b2, b3, b4, b5, b6, b7, b8⟩ := h
  have f5 := b2.2
  have wn : ∀ j, j ≠ 8 → ¬ (9 + 6 * tc ≤ j ∧ j < 15 + 6 * tc) → wadd w tc a1 a2 a3 a4 a5 a6 j = w j := fun j y1 y2 => by
    unfold wadd
    rw [if_neg y1, if_neg y2]
  have ws : ∀ d, d < 6 → wadd w tc a1 a2 a3 a4 a5 a6 (9 + 6 * tc + d) = six a1 a2 a3 a4 a5 a6 d := fun d hd => by
    unfold wadd
    rw [if_neg (by omega), if_pos (by omega), show 9 + 6 * tc + d - (9 + 6 * tc) = d by omega]
  refine ⟨⟨by unfold wadd; rw [if_pos rfl], by omega⟩, by rw [wn 36 (by omega) (by omega)]; exact b2, by rw [wn 33 (by omega) (by omega)]; exact b3, by rw [wn 2 (by omega) (by omega), wn 3 (by omega) (by omega), wn 4 (by omega) (by omega), wn 5 (by omega) (by omega), wn 6 (by omega) (by omega), wn 7 (by omega) (by omega)]; exact b4, fun q hq => ?_, fun f hf => by rw [wn _ (by omega) (by omega)]; exact b6 f hf, fun r hr => by rw [wn _ (by omega) (by omega)]; exact b7 r hr, fun r hr => by rw [wn _ (by omega) (by omega)]; exact b8 r hr⟩
  by_cases c : q = tc
  · subst c
    obtain ⟨n1, e1, -, f1⟩ := q_ex (lo := 0) (hi := 9) z1.1 z1.2 (by decide) (by decide)
    obtain ⟨n2, e2, -, f2⟩ := q_ex (lo := 0) (hi := 9) (Int32.le_trans z1.1 z2.1) z2.2 (by decide) (by decide)
    obtain ⟨P, e3, f3, g3⟩ := i_rg (lo := -20000) (hi := 20000) z3.1 z3.2 (by decide) (by decide) (by decide) (by decide)
    obtain ⟨V, e4, f4, g4⟩ := i_rg (lo := -200) (hi := 200) z4.1 z4.2 (by decide) (by decide) (by decide) (by decide)
    obtain ⟨n5, e5, f5', g5⟩ := q_ex (lo := 50) (hi := 1600) z5.1 z5.2 (by decide) (by decide)
    obtain ⟨n6, e6, -, g6⟩ := q_ex (lo := 0) (hi := 255) z6.1 z6.2 (by decide) (by decide)
    have m := vmul (t := tm) f4 g4
    refine ⟨n1, n2, n5, n6, P, V, ⟨(ws 0 (by omega)).trans e1, f1⟩, ⟨(ws 1 (by omega)).trans e2, f2⟩, ⟨(ws 2 (by omega)).trans e3, by omega, by omega⟩, ⟨(ws 3 (by omega)).trans e4, f4, g4⟩, ⟨(ws 4 (by omega)).trans e5, f5', g5⟩, ⟨(ws 5 (by omega)).trans e6, g6⟩⟩
  · have := b5 q (by omega)
    unfold TOk at *
    rw [wn _ (by omega) (by omega), wn _ (by omega) (by omega), wn _ (by omega) (by omega), wn _ (by omega) (by omega), wn _ (by omega) (by omega), wn _ (by omega) (by omega)]
    exact this
