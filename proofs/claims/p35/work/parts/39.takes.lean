theorem pl_ext {w w' : Wf} (h : ∀ j, j < 33 → w j = w' j) {q : Nat} (hq : q < 4) (t : Int32) : pl w q t = pl w' q t := by
  unfold pl
  rw [h _ (by omega), h _ (by omega)]
theorem cvb_ext {w w' : Wf} (h : ∀ j, j < 33 → w j = w' j) {q : Nat} (hq : q < 4) (r c : Nat) (t : Int32) : cvb w q r c t = cvb w' q r c t := by
  unfold cvb
  rw [pl_ext h hq, h _ (by omega), h _ (by omega), h _ (by omega)]
theorem raw_ext {w w' : Wf} (h : ∀ j, j < 33 → w j = w' j) (r c : Nat) (t : Int32) : ∀ {tc : Nat}, tc ≤ 4 → raw w r c t tc = raw w' r c t tc
  | 0, _ => h 4 (by omega)
  | q + 1, h4 => by
    unfold raw
    rw [cvb_ext h (by omega), h _ (by omega), raw_ext h r c t (by omega)]
theorem dkb_ext {w w' : Wf} (h : ∀ j, j < 33 → w j = w' j) (t : Int32) : dkb w t = dkb w' t := by
  unfold dkb
  rw [h 5 (by omega), h 6 (by omega)]
theorem sh_ext {w w' : Wf} (h : ∀ j, j < 33 → w j = w' j) {tc : Nat} (h4 : tc ≤ 4) (r c : Nat) (t : Int32) : sh w tc r c t = sh w' tc r c t := by
  unfold sh
  rw [dkb_ext h, raw_ext h r c t h4, h 7 (by omega)]
