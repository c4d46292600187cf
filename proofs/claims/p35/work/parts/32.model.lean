/-- an index within an int array -/
theorem inaN {S : St} (hn : S.2.2 = 124) {a n i : Nat} (hk : kd a = 10) (hl : ln a = n) (ha : a < 124) (hb : n < 2147483648) (hi : i < n) : ina S 10 a (nI i) := by
  refine ⟨⟨hk, by omega⟩, ?_, by rw [q_cl (by omega), hl]; exact hi⟩
  rw [L0, q_le (by omega) (by omega)]; omega
abbrev Wf : Type := Nat → Int32
def pl (w : Wf) (q : Nat) (t : Int32) : Int32 := w (9 + 6 * q + 2) + w (9 + 6 * q + 3) * t
def dkb (w : Wf) (t : Int32) : Bool := decide (w 5 ≠ 0) && decide (t - t / w 5 * w 5 < w 6)
def cvb (w : Wf) (q r c : Nat) (t : Int32) : Bool := decide (w (9 + 6 * q) ≤ nI r) && (decide (nI r ≤ w (9 + 6 * q + 1)) && (decide (pl w q t ≤ nI (100 * c + 50)) && decide (nI (100 * c + 50) < pl w q t + w (9 + 6 * q + 4))))
/-- the brightness of the things below the q-th, in a row, in a column, at a time -/
def raw (w : Wf) (r c : Nat) (t : Int32) : Nat → Int32
  | 0 => w 4
  | q + 1 => if cvb w q r c t = true then w (9 + 6 * q + 5) else raw w r c t q
/-- what is shown, with tc things -/
def sh (w : Wf) (tc r c : Nat) (t : Int32) : Int32 := if dkb w t = true then raw w r c t tc * w 7 / 100 else raw w r c t tc
def fv1 (w : Wf) (f j : Nat) : Int32 := w (37 + 162 * f + j)
/-- whether two pixels differ by the threshold -/
def dfr (thr x y : Int32) : Bool := decide (thr ≤ x - y) || decide (thr ≤ -(x - y))
theorem dfr_t {thr x y : Int32} : dfr thr x y = true ↔ (thr ≤ x - y ∨ thr ≤ -(x - y)) := by
  simp only [dfr, Bool.or_eq_true, decide_eq_true_eq]
/-- the edges among pixels -/
def edm (thr : Int32) (C : Nat) (p : Nat → Int32) : Nat := mk (fun c => decide (1 ≤ c) && dfr thr (p c) (p (c - 1))) C
def edf (w : Wf) (C f r fb : Nat) : Nat := if fb.testBit r = true then 0 else edm (w 3) C (fun c => fv1 w f (2 + 16 * r + c))
theorem mk_succ (P : Nat → Bool) (n : Nat) : mk P (n + 1) = mk P n ||| (if P n = true then 1 <<< n else 0) := rfl
