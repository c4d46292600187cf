def allF (P : Nat → Bool) : Nat → Nat → Bool
  | _, 0 => true
  | i, m + 1 => P i && allF P (i + 1) m
theorem wl1_all {β : Type} {F : (Int32 → Option β) → Int32 → Option β} {rt rf : Option β} {n : Nat} {P : Nat → Bool} (hin : ∀ i k, i < n → F k (nI i) = if P i = true then k (nI (i + 1)) else rf) (hout : ∀ k, F k (nI n) = rt) : ∀ m i fuel, i + m = n → m < fuel → wl1 F fuel (nI i) = if allF P i m = true then rt else rf
  | 0, i, 0, _, h => by omega
  | 0, i, fuel + 1, e, _ => by
    have : i = n := by omega
    subst this
    rw [if_pos (show allF P i 0 = true from rfl)]
    exact hout _
  | m + 1, i, 0, _, h => by omega
  | m + 1, i, fuel + 1, e, h => by
    show F (wl1 F fuel) (nI i) = _
    rw [hin i _ (by omega)]
    by_cases c : P i = true
    · rw [if_pos c, wl1_all hin hout m (i + 1) fuel (by omega) (by omega)]
      have : allF P i (m + 1) = allF P (i + 1) m := by
        show (P i && allF P (i + 1) m) = _
        rw [c, Bool.true_and]
      rw [this]
    · rw [if_neg c]
      have : allF P i (m + 1) = false := by
        show (P i && allF P (i + 1) m) = _
        simp [c]
      rw [this, if_neg (by decide)]
/-- whether a row of a frame shows what it would have to -/
def fit1 (w v : Wf) (tc C f r : Nat) (t : Int32) : Bool := allF (fun c => decide (fv1 w f (2 + 16 * r + c) = sh v tc r c t)) 0 C
