theorem RNe.cong {S : St} {k : Nat} {w w' : Wf} (h : RNe S k w) (hw : ∀ j, j < 867 → w' j = w j) : RNe S k w' := by
  obtain ⟨tc, fc, bl, R, C, h⟩ := h
  exact ⟨tc, fc, bl, R, C, h.cong hw⟩
/-- the class's own scratch, and the scene that is now -/
def AN : Nat → Prop := fun x => (5 ≤ x ∧ x < 25) ∨ (28 ≤ x ∧ x < 44)
theorem CI.upd {A : Nat → Prop} {S S' : St} {w w' : Wf} {st len : Nat} {h : Nat → Wf} {tx : Nat → Int32} (hi : CI S w st h len tx) (hs : CSh S') (hc : Ch A S S') (hA : ∀ x, A x → AN x) (h5 : RNe S' 5 w') : CI S' w' st h len tx := by
  obtain ⟨h1, h2, h3, ⟨a1, a2, a3⟩, h6, h7, h8⟩ := hi
  have no : ∀ x, ¬ AN x → ¬ A x := fun x hx q => hx (hA x q)
  refine ⟨hs, h2.ch hc (no 1 (by unfold AN; omega)) (no 2 (by unfold AN; omega)), h5, ⟨a1, by rw [hc.i (no 4 (by unfold AN; omega))]; exact a2, fun i hi => ?_⟩, h6, by rw [hc.i (no 26 (by unfold AN; omega))]; exact h7, fun j hj => by rw [hc.i (no 27 (by unfold AN; omega))]; exact h8 j hj⟩
  rw [hc.r (no 25 (by unfold AN; omega))]
  obtain ⟨hsc, hn5⟩ := h1.2.2.2.2.2.2.2.1 i (by omega)
  refine (a3 i hi).ch h1 hsc hc (fun d hd => no _ ?_)
  have := hsc.no hd
  unfold Sc at hsc
  unfold AN
  omega
/-- the class alone has done something within its scratch -/
theorem CI.scr {A : Nat → Prop} {S S' : St} {w : Wf} {st len : Nat} {h : Nat → Wf} {tx : Nat → Int32} (hi : CI S w st h len tx) (hc : Ch A S S') (hA : ∀ x, A x → 28 ≤ x ∧ x < 44) (hr : S'.2.1 = S.2.1) : CI S' w st h len tx := by
  refine hi.upd (hi.1.rf hc.1 hr) hc (fun x q => Or.inr (hA x q)) (hi.2.2.1.ch hi.1 sc5 hc (fun d hd q => ?_))
  have := hA _ q
  omega
theorem ck5 {S : St} (hs : CSh S) {β : Type} (o : Option β) : chk (okc S 3 5) o = o := ck_t (okS hs.n rfl (by decide)) o
theorem ck26 {S : St} (hs : CSh S) {β : Type} (o : Option β) : chk (okc S 4 26) o = o := ck_t (okS hs.n rfl (by decide)) o
theorem ck28 {S : St} (hs : CSh S) {β : Type} (o : Option β) : chk (okc S 2 28) o = o := ck_t (okS hs.n rfl (by decide)) o
theorem ck30 {S : St} (hs : CSh S) {β : Type} (o : Option β) : chk (okc S 6 30) o = o := ck_t (okS hs.n rfl (by decide)) o
theorem ck35 {S : St} (hs : CSh S) {β : Type} (o : Option β) : chk (okc S 1 35) o = o := ck_t (okS hs.n rfl (by decide)) o
theorem ck41 {S : St} (hs : CSh S) {β : Type} (o : Option β) : chk (okc S 0 41) o = o := ck_t (okS hs.n rfl (by decide)) o
