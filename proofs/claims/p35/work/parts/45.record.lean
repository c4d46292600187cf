theorem RN.cong {S : St} {k tc fc bl R C : Nat} {w w' : Wf} (h : RN S k w tc fc bl R C) (hw : ∀ j, j < 867 → w' j = w j) : RN S k w' tc fc bl R C := by
  obtain ⟨h1, h2, h3, h4, h5, h6, h7, h8, h9, h10, h11⟩ := h
  have t4 := h1.2.1
  have f5 := h8.2.2
  refine ⟨⟨fun j hj => by rw [hw j (by omega)]; exact h1.1 j hj, h1.2.1, h1.2.2.1, fun q hq j hj => by rw [hw _ (by omega)]; exact h1.2.2.2 q hq j hj⟩, by rw [hw 8 (by omega)]; exact h2, by rw [hw 0 (by omega)]; exact h3, by rw [hw 1 (by omega)]; exact h4, by rw [hw 33 (by omega)]; exact h5, by rw [hw 34 (by omega)]; exact h6, by rw [hw 35 (by omega)]; exact h7, by rw [hw 36 (by omega)]; exact h8, fun f hf => (h9 f hf).w (fun j hj => hw _ (by omega)) h3.2.2 h4.2.2, fun r hr => by rw [hw _ (by omega)]; exact h10 r hr, fun r hr => by rw [hw _ (by omega)]; exact h11 r hr⟩
/-- a scene says the row w -/
def RNe (S : St) (k : Nat) (w : Wf) : Prop := ∃ tc fc bl R C, RN S k w tc fc bl R C
/-- the program's constants -/
def Stc (S : St) : Prop := ∀ j, j < 8 → S.1 1 j = S00.1 1 j ∧ S.1 2 j = S00.1 2 j
/-- the class says: the row w, the st rows h, the text tx of len signs -/
def CI (S : St) (w : Wf) (st : Nat) (h : Nat → Wf) (len : Nat) (tx : Nat → Int32) : Prop := CSh S ∧ Stc S ∧ RNe S 5 w ∧ (st ≤ 4 ∧ S.1 4 2 = nI st ∧ ∀ i, i < st → RNe S (S.2.1 25 i) (h i)) ∧ len ≤ 80 ∧ S.1 26 1 = nI len ∧ ∀ j, j < len → S.1 27 j = tx j
theorem RNe.ch {A : Nat → Prop} {S S' : St} {k : Nat} {w : Wf} (h : RNe S k w) (hs : CSh S) (hk : Sc k) (hc : Ch A S S') (hA : ∀ d, d < 20 → ¬ A (k + d)) : RNe S' k w := by
  obtain ⟨tc, fc, bl, R, C, h⟩ := h
  exact ⟨tc, fc, bl, R, C, h.ch hs hk hc hA⟩
theorem Sc.rg {k : Nat} (h : Sc k) : 5 ≤ k ∧ k ≤ 104 := h.kds.2.2.2.2.2.2.2.2.2.2.2.2.2
theorem Sc.no {k d : Nat} (h : Sc k) (hd : d < 20) : k + d < 25 ∨ 44 ≤ k + d := by
  unfold Sc at h
  omega
theorem Sc.mno {k d : Nat} (h : Sc k) (hd : d < 20) : k + d < 124 := by
  unfold Sc at h
  omega
/-- the class's shape where none of its objects changes what it refers to -/
theorem CSh.ofr {S S' : St} (h : CSh S) (hn : S'.2.2 = S.2.2) (hr : ∀ x, x < 124 → S'.2.1 x = S.2.1 x) : CSh S' := by
  obtain ⟨h1, h2, h3, h4, h6, h7, h8, h9, h10⟩ := h
  have q4 := hr 4 (by omega)
  have q26 := hr 26 (by omega)
  have q28 := hr 28 (by omega)
  have q30 := hr 30 (by omega)
  have q35 := hr 35 (by omega)
  have q41 := hr 41 (by omega)
  have q25 := hr 25 (by omega)
  unfold CSh
  refine ⟨hn.trans h1, ?_, ?_, ?_, ?_, ?_, fun k' hk' => ?_, ?_, ?_⟩
  · simp only [q4]; exact h2
  · simp only [q26, q28]; exact h3
  · simp only [q30]; exact h4
  · simp only [q35]; exact h6
  · rw [q41]; exact h7
  · obtain ⟨s1, s2, s3, s4, s5⟩ := h8 k' hk'
    have hb := hk'.rg
    have r0 := hr k' (by omega)
    have r2 := hr (k' + 2) (by omega)
    have r3 := hr (k' + 3) (by omega)
    refine ⟨by simp only [r0]; exact s1, fun q hq => by rw [r2]; exact s2 q hq, fun F hF => ?_, fun f hf => ?_, fun f g hf hg => ?_⟩
    · have hb := hF.rg
      rw [hr F (by omega)]
      exact s3 F hF
    · rw [r3]; exact s4 f hf
    · rw [r3]; exact s5 f g hf hg
  · simp only [q25]; exact h9
  · simp only [q25]; exact h10
theorem Stc.ch {A : Nat → Prop} {S S' : St} (h : Stc S) (hc : Ch A S S') (h1 : ¬ A 1) (h2 : ¬ A 2) : Stc S' := fun j hj => by
  rw [hc.i h1, hc.i h2]
  exact h j hj
/-- what the model does leaves the class as it is -/
theorem CI.ch {A : Nat → Prop} {S S' : St} {w : Wf} {st len : Nat} {h : Nat → Wf} {tx : Nat → Int32} (hi : CI S w st h len tx) (hc : Ch A S S') (hA : ∀ x, x < 124 → ¬ A x) : CI S' w st h len tx := by
  obtain ⟨h1, h2, h3, h4, h5, h6, h7⟩ := hi
  refine ⟨h1.ofr hc.1 (fun x hx => (hc.2 x (hA x hx)).2), h2.ch hc (hA 1 (by omega)) (hA 2 (by omega)), h3.ch h1 sc5 hc (fun d hd => hA _ (by omega)), ⟨h4.1, by rw [hc.i (hA 4 (by omega))]; exact h4.2.1, fun i hi => ?_⟩, h5, by rw [hc.i (hA 26 (by omega))]; exact h6, fun j hj => by rw [hc.i (hA 27 (by omega))]; exact h7 j hj⟩
  have hsc := (h1.2.2.2.2.2.2.2.1 i (by have := h4.1; omega)).1
  rw [hc.r (hA 25 (by omega))]
  exact (h4.2.2 i hi).ch h1 hsc hc (fun d hd => hA _ (hsc.mno hd))
/-- the rows behind one more kept -/
def hst (st : Nat) : Nat := if st = 4 then 4 else st + 1
def hps (st : Nat) (h : Nat → Wf) (w : Wf) : Nat → Wf := fun i => if st = 4 then (if i < 3 then h (i + 1) else w) else if i = st then w else h i
theorem RNe.becomes {S : St} (hs : CSh S) {k k' : Nat} {w : Wf} (hk : Sc k) (hk' : Sc k') (hne : k ≠ k') (h : RNe S k' w) : ∃ S', f_X3_become S k k' = some S' ∧ Ex (fun x _ => k ≤ x ∧ x < k + 20) S S' ∧ RNe S' k w := by
  obtain ⟨tc, fc, bl, R, C, h⟩ := h
  obtain ⟨S', g1, g2, g3⟩ := e_become hs hk hk' hne h
  exact ⟨S', g1, g2, tc, fc, bl, R, C, g3⟩
/-- what keeping a state may change -/
def AR : Nat → Prop := fun x => x = 4 ∨ x = 25 ∨ (44 ≤ x ∧ x < 124)
theorem ck7 {S : St} (hs : CSh S) {β : Type} (o : Option β) : chk (okc S 7 4) o = o := ck_t (okS hs.n rfl (by decide)) o
theorem e_recJ {S : St} {w : Wf} {st len : Nat} {h : Nat → Wf} {tx : Nat → Int32} (hi : CI S w st h len tx) (h4 : st < 4) : ∃ S', f_X7_recordState_J16 S 4 = some S' ∧ CI S' w (st + 1) (fun i => if i = st then w else h i) len tx ∧ Ch AR S S' := by
  obtain ⟨h1, h2, h3, ⟨a1, a2, a3⟩, h5, h6, h7⟩ := hi
  unfold f_X7_recordState_J16
  have e1 : S.2.1 4 1 = 25 := h1.2.1.2.1
  have e0 : S.2.1 4 0 = 5 := h1.2.1.1
  obtain ⟨hsc, hn5⟩ := h1.2.2.2.2.2.2.2.1 st h4
  have hb := hsc.rg
  have hrg : 44 ≤ S.2.1 25 st := by
    unfold Sc at hsc
    omega
  have ecl : (nI st).toNatClampNeg = st := q_cl (by omega)
  have hl4 : Int32.ofNat (ln 25) = nI 4 := rfl
  have hia : ina S 13 25 (nI st) := ⟨okS h1.n rfl (by decide), by rw [L0, q_le (by omega) (by omega)]; omega, by rw [q_cl (by omega)]; exact h4⟩
  have hlo : ¬ nI st < (0 : Int32) := by
    rw [L0, q_lt (by omega) (by omega)]
    omega
  have hhi : ¬ nI 4 ≤ nI st := by
    rw [q_le (by omega) (by omega)]
    omega
  simp only [e1, e0, a2, ecl, hl4]
  rw [ck7 h1, if_neg hlo, ck7 h1, ck7 h1, ck_t (show okc S 13 25 from okS h1.n rfl (by decide)), if_neg hhi, ck7 h1, ck7 h1, ck_t hia, if_neg (show ¬ S.2.1 25 st = 0 by omega), ck7 h1, ck7 h1, ck_t hia, ck7 h1, ck_t (show okc S 3 (S.2.1 25 st) from okS h1.n hsc.kds.1 (by omega))]
  obtain ⟨S1, g1, g2, g3⟩ := h3.becomes h1 hsc sc5 hn5
  have s1 := h1.ex g2
  have c1 : Ch (fun x => S.2.1 25 st ≤ x ∧ x < S.2.1 25 st + 20) S S1 := g2.ch (fun x j q => q)
  rw [g1, bnd_s, ck7 s1, ck7 s1, vlt_s, c1.i (show ¬ (S.2.1 25 st ≤ 4 ∧ 4 < S.2.1 25 st + 20) by omega), a2, L1, q_add]
  generalize hS2 : upI S1 4 2 (nI (st + 1)) = S2
  have c2 : Ch (fun x => x = 4) S1 S2 := by
    rw [← hS2]
    exact Ch.up (A := fun x => x = 4) Ch.rf rfl
  have r2 : S2.2.1 = S.2.1 := by rw [← hS2]; exact g2.r
  have s2 : CSh S2 := s1.rf (by rw [← hS2]; rfl) (by rw [← hS2]; rfl)
  have c12 : Ch AR S S2 := (c1.wk (fun x q => by
    have := hsc
    unfold AR Sc at *
    omega)).tr (c2.wk (fun x q => Or.inl q))
  refine ⟨S2, rfl, ⟨s2, h2.ch c12 (by unfold AR; omega) (by unfold AR; omega), h3.ch h1 sc5 c12 (fun d hd => by unfold AR; omega), ⟨by omega, by rw [← hS2, upI_at, if_pos ⟨rfl, rfl⟩], fun i hi => ?_⟩, h5, by rw [c12.i (by unfold AR; omega)]; exact h6, fun j hj => by rw [c12.i (by unfold AR; omega)]; exact h7 j hj⟩, c12⟩
  rw [r2]
  show RNe S2 (S.2.1 25 i) (if i = st then w else h i)
  obtain ⟨hsi, -⟩ := h1.2.2.2.2.2.2.2.1 i (by omega)
  have h4n : ∀ k, Sc k → ∀ d, d < 20 → k + d ≠ 4 := fun k hk d hd => by have := hk.rg; omega
  by_cases his : i = st
  · subst his
    rw [if_pos rfl]
    exact g3.ch s1 hsc c2 (h4n _ hsc)
  · rw [if_neg his]
    have hne : S.2.1 25 i ≠ S.2.1 25 st := fun z => his (h1.2.2.2.2.2.2.2.2 i st (by omega) h4 z)
    have hap := hsi.apart hsc hne
    exact ((a3 i (by omega)).ch h1 hsi c1 (fun d hd => by omega)).ch s1 hsi c2 (h4n _ hsi)

