theorem l_periodsC {N : Nat} {S : St} (hs : CSh S) {tc fc bl R C tm : Nat} {w : Wf} (hn : RN S 5 w tc fc bl R C) (hok : OKn N w tc fc tm) (kx : St → Int32 → Option (Int32 × St)) : ∃ S', wl3 (f_X7_periods_B5 4 kx) FU S 2097151 0 = kx S' (nI (mk (fun p => allR (fun f => allR (rokp w tc C f p) R) fc) 21)) ∧ Ex (fun x _ => x = 43) S S' := by
  have f4 := hn.2.2.2.2.2.2.2.1.1
  have f5 := hn.2.2.2.2.2.2.2.1.2.2
  have e0 : ∀ S1 : St, CSh S1 → S1.2.1 4 0 = 5 := fun S1 q => q.2.1.1
  obtain ⟨S1, x, ⟨p1, rfl⟩, q⟩ := wl3_inv (F := f_X7_periods_B5 4 kx) (kx := kx) (n := fc) (fun i S' m => Ex (fun x _ => x = 43) S S' ∧ m = nI (mk (fun p => allR (fun f => allR (rokp w tc C f p) R) i) 21)) (fun i S1 m kk hi hP => by
    obtain ⟨p1, rfl⟩ := hP
    unfold f_X7_periods_B5
    have s1 := hs.ex p1
    have hn1 : RN S1 5 w tc fc bl R C := hn.ch hs sc5 (p1.ch (A := fun x => x = 43) (fun x j q => q)) (fun d hd => by omega)
    have f4' : S1.1 5 4 = nI fc := hn1.2.2.2.2.2.2.2.1.1
    have hg := ((s1.sc sc5).2.2.2.1 i (by omega)).rg
    obtain ⟨S2, k1, k2⟩ := l_perFit s1 hn1 hok hi (fun (S_11 : St) (y2_10 : Int32) => (some (y2_10, S_11)))
    have k1' : f_X7_periodsFitting S1 4 (S1.2.1 (5 + 3) i) = some (nI (mk (fun p => allR (rokp w tc C i p) R) 21), S2) := k1
    rw [ck7 s1, e0 S1 s1, ck5 s1, f4', if_neg (by rw [q_le (by omega) (by omega)]; omega), ck7 s1, ck5 s1, c_frameAt_t s1 sc5 f4' f5 hi, bnd_s, if_neg (by omega), ck7 s1, k1', bnd2_s, q_and, q_mk2, L1, q_add]
    exact ⟨S2, _, ⟨p1.tr k2, rfl⟩, rfl⟩) (fun S1 m kk hP => by
    obtain ⟨p1, rfl⟩ := hP
    unfold f_X7_periods_B5
    have s1 := hs.ex p1
    have hn1 : RN S1 5 w tc fc bl R C := hn.ch hs sc5 (p1.ch (A := fun x => x = 43) (fun x j q => q)) (fun d hd => by omega)
    have f4' : S1.1 5 4 = nI fc := hn1.2.2.2.2.2.2.2.1.1
    rw [ck7 s1, e0 S1 s1, ck5 s1, f4', if_pos (Int32.le_refl _)]) fc 0 FU S 2097151 (by omega) (by show fc < 1000000; omega) ⟨Ex.rf, by
      show (2097151 : Int32) = nI (mk (fun _ => true) 21)
      decide +kernel⟩
  exact ⟨S1, q, p1⟩
/-- whether all rows of all frames fit another row of numbers -/
def afit (w v : Wf) (tc fc R C : Nat) : Bool := allR (fun f => allR (fun r => (fbo w f).testBit r || fit1 w v tc C f r (fv1 w f 0 + nI r * w 2)) R) fc
theorem RNfrb {S : St} {tc fc bl R C : Nat} {w : Wf} {k : Nat} (hn : RN S k w tc fc bl R C) : ∀ f, f < fc → ∃ fb, fb < 1024 ∧ fv1 w f 1 = nI fb := fun f hf => by
  obtain ⟨y1, fb, y2, y3, y4, y5⟩ := hn.2.2.2.2.2.2.2.2.1 f hf
  refine ⟨fb, y2, ?_⟩
  unfold fv1
  rw [show 37 + 162 * f + 1 = 38 + 162 * f by omega]
  exact y3
