/-! A LOOP THAT ENDS EARLY: all of them or the first that fails -/
def allF (P : Nat → Bool) : Nat → Nat → Bool
  | _, 0 => true
  | i, m + 1 => P i && allF P (i + 1) m
theorem wl1_all {β : Type} {F : (Int32 → Option β) → Int32 → Option β} {rt rf : Option β} {n : Nat} {P : Nat → Bool} (hin : ∀ i k, i < n → F k (nI i) = if P i = true then k (nI (i + 1)) else rf) (hout : ∀ k, F k (nI n) = rt) : ∀ m i fuel, i + m = n → m < fuel → wl1 F fuel (nI i) = if allF P i m = true then rt else rf
  | 0, i, 0, _, h => by omega
  | 0, i, fuel + 1, e, _ => by
    have : i = n := by omega
    subst this
    rw [if_pos (show allF P i 0 = true from rfl)]
    exact hout _
  | m + 1, i, 0, _, h => by omega
  | m + 1, i, fuel + 1, e, h => by
    show F (wl1 F fuel) (nI i) = _
    rw [hin i _ (by omega)]
    by_cases c : P i = true
    · rw [if_pos c, wl1_all hin hout m (i + 1) fuel (by omega) (by omega)]
      have : allF P i (m + 1) = allF P (i + 1) m := by
        show (P i && allF P (i + 1) m) = _
        rw [c, Bool.true_and]
      rw [this]
    · rw [if_neg c]
      have : allF P i (m + 1) = false := by
        show (P i && allF P (i + 1) m) = _
        simp [c]
      rw [this, if_neg (by decide)]
/-- whether a row of a frame shows what it would have to -/
def fit1 (w v : Wf) (tc C f r : Nat) (t : Int32) : Bool := allF (fun c => decide (fv1 w f (2 + 16 * r + c) = sh v tc r c t)) 0 C
theorem e_rowFits {S : St} (hm : MSh S) {a f r C tc : Nat} (ha : isW a) (hf : f < 5) (hr : r < 10) (hC : S.1 125 1 = nI C) (hC16 : C ≤ 16) (htc : S.1 a 8 = nI tc) (h4 : tc ≤ 4) : f_X8_rowFits S 124 a (nI f) (nI r) = some (if fit1 (S.1 125) (S.1 a) tc C f r (fv1 (S.1 125) f 0 + nI r * S.1 125 2) = true then 1 else 0) := by
  unfold f_X8_rowFits
  have e : f_X8_frameValue S 124 (nI f) 0 = some (fv1 (S.1 125) f 0) := e_frameValue hm (f := f) (j := 0) hf (by omega)
  rw [ck8 hm, e, bnd_s, ck8 hm, hm.2.1, ck_t (show ina S 10 125 2 from inaN hm.1 rfl rfl (by decide) (by decide) (show 2 < 867 by omega)), C2, vlt_s]
  refine (wl1_all (P := fun c => decide (fv1 (S.1 125) f (2 + 16 * r + c) = sh (S.1 a) tc r c (fv1 (S.1 125) f 0 + nI r * S.1 125 2))) (n := C) (rt := some 1) (rf := some 0) (fun c k hc => ?_) (fun k => ?_) C 0 FU (by omega) (by show C < 1000000; omega)).trans ?_
  · unfold f_X8_rowFits_B20
    simp only [C1]
    rw [ck8 hm, hm.2.1, ck_t (show ina S 10 125 1 from inaN hm.1 rfl rfl (by decide) (by decide) (show 1 < 867 by omega)), if_neg (by rw [hC, q_le (by omega) (by omega)]; omega), e_shown hm.1 ha htc h4, bnd_s, ck8 hm, e_pixelOf hm hf hr (by omega), bnd_s, L1, q_add]
    by_cases c1 : sh (S.1 a) tc r c (fv1 (S.1 125) f 0 + nI r * S.1 125 2) = fv1 (S.1 125) f (2 + 16 * r + c)
    · rw [if_pos c1, if_pos (by rw [decide_eq_true_eq]; exact c1.symm)]
    · rw [if_neg c1, if_neg (by rw [decide_eq_true_eq]; exact fun q => c1 q.symm)]
  · unfold f_X8_rowFits_B20
    simp only [C1]
    rw [ck8 hm, hm.2.1, ck_t (show ina S 10 125 1 from inaN hm.1 rfl rfl (by decide) (by decide) (show 1 < 867 by omega)), if_pos (by rw [hC]; exact Int32.le_refl _)]
  · unfold fit1
    by_cases c : allF (fun c => decide (fv1 (S.1 125) f (2 + 16 * r + c) = sh (S.1 a) tc r c (fv1 (S.1 125) f 0 + nI r * S.1 125 2))) 0 C = true
    · rw [if_pos c, if_pos c]
    · rw [if_neg c, if_neg c]
