/-! WHAT HOLDS BETWEEN CALLS -/
def INV (N : Nat) (S : St) : Prop := ∃ st len, CI S (S.1 125) st (fun i j => S.1 126 (867 * i + j)) len (S.1 128) ∧ MSh S ∧ S.1 124 2 = nI st ∧ S.1 124 5 = nI len ∧ OKw N (S.1 125) ∧ (∀ i, i < st → OKw N (fun j => S.1 126 (867 * i + j))) ∧ ∀ j, j < len → Rg (S.1 128 j) 32 126
theorem RNe.cong {S : St} {k : Nat} {w w' : Wf} (h : RNe S k w) (hw : ∀ j, j < 867 → w' j = w j) : RNe S k w' := by
  obtain ⟨tc, fc, bl, R, C, h⟩ := h
  exact ⟨tc, fc, bl, R, C, h.cong hw⟩
theorem INV.mk {N : Nat} {S : St} {w : Wf} {st len : Nat} {h : Nat → Wf} {tx : Nat → Int32} (c : CI S w st h len tx) (m : MSh S) (e1 : ∀ j, j < 867 → S.1 125 j = w j) (e2 : S.1 124 2 = nI st) (e3 : ∀ i, i < st → ∀ j, j < 867 → S.1 126 (867 * i + j) = h i j) (e4 : S.1 124 5 = nI len) (e5 : ∀ j, j < len → S.1 128 j = tx j) (o : OKw N w) (oh : ∀ i, i < st → OKw N (h i)) (ot : ∀ j, j < len → Rg (tx j) 32 126) : INV N S := by
  obtain ⟨h1, h2, h3, ⟨a1, a2, a3⟩, h5, h6, h7⟩ := c
  refine ⟨st, len, ⟨h1, h2, h3.cong e1, ⟨a1, a2, fun i hi => (a3 i hi).cong (fun j hj => e3 i hi j hj)⟩, h5, h6, fun j hj => (h7 j hj).trans (e5 j hj).symm⟩, m, e2, e4, o.cong e1, fun i hi => (oh i hi).cong (fun j hj => e3 i hi j hj), fun j hj => by rw [e5 j hj]; exact ot j hj⟩
theorem INV.mono {N M : Nat} {S : St} (h : INV N S) (hNM : N ≤ M) : INV M S := by
  obtain ⟨st, len, h1, h2, h3, h4, h5, h6, h7⟩ := h
  exact ⟨st, len, h1, h2, h3, h4, h5.mono hNM, fun i hi => (h6 i hi).mono hNM, h7⟩
/-- the class's own scratch, and the scene that is now -/
def AN : Nat → Prop := fun x => (5 ≤ x ∧ x < 25) ∨ (28 ≤ x ∧ x < 44)
theorem CI.upd {A : Nat → Prop} {S S' : St} {w w' : Wf} {st len : Nat} {h : Nat → Wf} {tx : Nat → Int32} (hi : CI S w st h len tx) (hs : CSh S') (hc : Ch A S S') (hA : ∀ x, A x → AN x) (h5 : RNe S' 5 w') : CI S' w' st h len tx := by
  obtain ⟨h1, h2, h3, ⟨a1, a2, a3⟩, h6, h7, h8⟩ := hi
  have no : ∀ x, ¬ AN x → ¬ A x := fun x hx q => hx (hA x q)
  refine ⟨hs, h2.ch hc (no 1 (by unfold AN; omega)) (no 2 (by unfold AN; omega)), h5, ⟨a1, by rw [hc.i (no 4 (by unfold AN; omega))]; exact a2, fun i hi => ?_⟩, h6, by rw [hc.i (no 26 (by unfold AN; omega))]; exact h7, fun j hj => by rw [hc.i (no 27 (by unfold AN; omega))]; exact h8 j hj⟩
  rw [hc.r (no 25 (by unfold AN; omega))]
  obtain ⟨hsc, hn5⟩ := h1.2.2.2.2.2.2.2.1 i (by omega)
  refine (a3 i hi).ch h1 hsc hc (fun d hd => no _ ?_)
  have := hsc.no hd
  unfold Sc at hsc
  unfold AN
  omega
/-- the class alone has done something within its scratch -/
theorem CI.scr {A : Nat → Prop} {S S' : St} {w : Wf} {st len : Nat} {h : Nat → Wf} {tx : Nat → Int32} (hi : CI S w st h len tx) (hc : Ch A S S') (hA : ∀ x, A x → 28 ≤ x ∧ x < 44) (hr : S'.2.1 = S.2.1) : CI S' w st h len tx := by
  refine hi.upd (hi.1.rf hc.1 hr) hc (fun x q => Or.inr (hA x q)) (hi.2.2.1.ch hi.1 sc5 hc (fun d hd q => ?_))
  have := hA _ q
  omega
/-- what one call of both comes to -/
def Op (N : Nat) (S : St) (f7 f8 : St → Option (Int32 × St)) : Prop := ∃ v S1 S2, f7 S = some (v, S1) ∧ f8 S1 = some (v, S2) ∧ INV (N + 1) S2
def Oq (S : St) (f7 f8 : St → Option Int32) : Prop := ∃ v, f7 S = some v ∧ f8 S = some v
theorem Op.no {N : Nat} {S : St} {f7 f8 : St → Option (Int32 × St)} (h : INV N S) (v : Int32) (h7 : f7 S = some (v, S)) (h8 : f8 S = some (v, S)) : Op N S f7 f8 := ⟨v, S, S, h7, h8, h.mono (by omega)⟩
/-- a call that keeps the state, and then makes w' of w -/
theorem Op.keep {N : Nat} {S : St} {f7 f8 : St → Option (Int32 × St)} (h : INV N S) (w' : Wf) (v : Int32) (c : ∀ S1, CSh S1 → f_X7_recordState S 4 = some S1 → RNe S1 5 (S.1 125) → ∃ S2, f7 S = some (v, S2) ∧ CSh S2 ∧ Ch AN S1 S2 ∧ RNe S2 5 w') (m : ∀ S1 S2, MSh S1 → S1.1 125 = S.1 125 → f_X8_notes S1 124 = some S2 → MSh S2 → S2.1 125 = S.1 125 → ∃ S3, f8 S1 = some (v, S3) ∧ Ex (fun x j => x = 125 ∨ x = 127 ∨ x = 129 ∨ x = 130 ∨ (x = 124 ∧ 7 ≤ j)) S2 S3 ∧ ∀ j, j < 867 → S3.1 125 j = w' j) (ho : OKw (N + 1) w') : Op N S f7 f8 := by
  obtain ⟨st, len, i1, i2, i3, i4, i5, i6, i7⟩ := h
  obtain ⟨S1, r1, r2, r3⟩ := e_recordState i1
  obtain ⟨S2, c1, c2, c3, c4⟩ := c S1 r2.1 r1 r2.2.2.1
  have ci2 := r2.upd c2 c3 (fun x q => q) c4
  have cc : Ch (fun x => 4 ≤ x ∧ x < 124) S S2 := (r3.wk (fun x q => by unfold AR at q; omega)).tr (c3.wk (fun x q => by unfold AN at q; omega))
  have m2 := i2.ch cc (by omega)
  have e125 : S2.1 125 = S.1 125 := (cc.2 125 (by omega)).1
  have e126 : S2.1 126 = S.1 126 := (cc.2 126 (by omega)).1
  obtain ⟨S3, n1, n2, n3, n4⟩ := e_notes m2 (st := st) (by rw [cc.i (by omega)]; exact i3) i1.2.2.2.1.1
  have m3 := m2.ex n2
  have e3 : S3.1 125 = S.1 125 := by
    rw [← e125]
    funext j
    exact n2.2 125 j (by unfold PN; omega)
  obtain ⟨S4, k1, k2, k3⟩ := m S2 S3 m2 e125 n1 m3 e3
  refine ⟨v, S2, S4, c1, k1, ?_⟩
  have c24 : Ch (fun x => 124 ≤ x) S2 S4 := (n2.ch (fun x j q => by unfold PN at q; show 124 ≤ x; omega)).tr (k2.ch (fun x j q => by show 124 ≤ x; omega))
  refine INV.mk (ci2.ch c24 (fun x hx => by omega)) (m3.ex k2) k3 ?_ (fun i hi j hj => ?_) ?_ (fun j hj => ?_) ho (fun i hi => ?_) (fun j hj => i7 j hj)
  · rw [k2.2 124 2 (by omega)]; exact n3
  · rw [k2.2 126 _ (by omega), n4 i hi j hj, e125, e126]
  · rw [k2.2 124 5 (by omega), n2.2 124 5 (by unfold PN; omega), cc.i (by omega)]; exact i4
  · rw [k2.2 128 _ (by omega), n2.2 128 _ (by unfold PN; omega), cc.i (by omega)]
  · unfold hst at hi
    unfold hps
    by_cases hs : st = 4
    · rw [if_pos hs] at hi
      simp only [if_pos hs]
      by_cases c : i < 3
      · rw [if_pos c]
        exact (i6 (i + 1) (by omega)).mono (by omega)
      · rw [if_neg c]
        exact i5.mono (by omega)
    · rw [if_neg hs] at hi
      simp only [if_neg hs]
      by_cases c : i = st
      · rw [if_pos c]
        exact i5.mono (by omega)
      · rw [if_neg c]
        exact (i6 i (by omega)).mono (by omega)
theorem ck5 {S : St} (hs : CSh S) {β : Type} (o : Option β) : chk (okc S 3 5) o = o := ck_t (okS hs.n rfl (by decide)) o
theorem ck26 {S : St} (hs : CSh S) {β : Type} (o : Option β) : chk (okc S 4 26) o = o := ck_t (okS hs.n rfl (by decide)) o
theorem ck28 {S : St} (hs : CSh S) {β : Type} (o : Option β) : chk (okc S 2 28) o = o := ck_t (okS hs.n rfl (by decide)) o
theorem ck30 {S : St} (hs : CSh S) {β : Type} (o : Option β) : chk (okc S 6 30) o = o := ck_t (okS hs.n rfl (by decide)) o
theorem ck35 {S : St} (hs : CSh S) {β : Type} (o : Option β) : chk (okc S 1 35) o = o := ck_t (okS hs.n rfl (by decide)) o
theorem ck41 {S : St} (hs : CSh S) {β : Type} (o : Option β) : chk (okc S 0 41) o = o := ck_t (okS hs.n rfl (by decide)) o
theorem ckM {S : St} (hm : MSh S) {j : Nat} (hj : j < 867) {β : Type} (o : Option β) : chk (ina S 10 125 (nI j)) o = o := ckA hm.1 ar125 hj o
theorem cwM {S : St} (hm : MSh S) {j : Nat} (hj : j < 867) {β : Type} (o : Option β) : chk (inw S 10 125 (nI j)) o = o := cwA hm.1 ar125 hj o
