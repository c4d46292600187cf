/-! TALLIES: counting votes, what is told by most of them -/
/-- the votes for i - 8 of the first rows -/
def tly (V : Nat → Option Int) (g : Nat → Nat) (i : Nat) : Nat → Nat
  | 0 => 0
  | x + 1 => tly V g i x + if V x = some ((i : Int) - 8) then g x else 0
theorem tly_s (V : Nat → Option Int) (g : Nat → Nat) (i x : Nat) : tly V g i (x + 1) = tly V g i x + if V x = some ((i : Int) - 8) then g x else 0 := rfl
theorem tly_le {V : Nat → Option Int} {g : Nat → Nat} {G : Nat} (hg : ∀ x, g x ≤ G) (i : Nat) : ∀ n, tly V g i n ≤ G * n
  | 0 => Nat.zero_le _
  | n + 1 => by
    have := tly_le (V := V) hg i n
    have h2 := hg n
    rw [tly_s, Nat.mul_succ]
    split <;> omega
theorem tly_cut {V : Nat → Option Int} {g : Nat → Nat} {i n : Nat} : ∀ {m : Nat}, n ≤ m → (∀ x, n ≤ x → x < m → V x = none) → tly V g i m = tly V g i n
  | 0, h, _ => by
    have : n = 0 := by omega
    rw [this]
  | m + 1, h, hz => by
    by_cases c : n = m + 1
    · rw [c]
    · rw [tly_s, hz m (by omega) (by omega), if_neg (by simp), Nat.add_zero]
      exact tly_cut (by omega) (fun x h1 h2 => hz x h1 (by omega))
theorem tly_ext {V V' : Nat → Option Int} {g g' : Nat → Nat} {i : Nat} : ∀ {n : Nat}, (∀ x, x < n → V x = V' x ∧ (V x ≠ none → g x = g' x)) → tly V g i n = tly V' g' i n
  | 0, _ => rfl
  | n + 1, h => by
    rw [tly_s, tly_s, tly_ext (fun x hx => h x (by omega)), (h n (by omega)).1]
    by_cases c : V' n = some ((i : Int) - 8)
    · rw [if_pos c, if_pos c, (h n (by omega)).2 (by rw [(h n (by omega)).1, c]; simp)]
    · rw [if_neg c, if_neg c]
/-- what most of them tell -/
def Tld (T : Nat → Nat) (o : Option Int) : Prop := match o with
  | some k => ∃ i : Nat, i < 17 ∧ k = (i : Int) - 8 ∧ 0 < T i ∧ ∀ j : Nat, j < 17 → j ≠ i → T j < T i
  | none => ∀ i : Nat, i < 17 → 0 < T i → ∃ j : Nat, j < 17 ∧ j ≠ i ∧ T i ≤ T j
theorem Tld.uniq {T : Nat → Nat} {o o' : Option Int} (h : Tld T o) (h' : Tld T o') : o = o' := by
  cases o with
  | none =>
    cases o' with
    | none => rfl
    | some k' =>
      exfalso
      obtain ⟨i, h1, h2, h3, h4⟩ := h'
      obtain ⟨j, g1, g2, g3⟩ := h i h1 h3
      have := h4 j g1 g2
      omega
  | some k =>
    obtain ⟨i, h1, h2, h3, h4⟩ := h
    cases o' with
    | none =>
      exfalso
      obtain ⟨j, g1, g2, g3⟩ := h' i h1 h3
      have := h4 j g1 g2
      omega
    | some k' =>
      obtain ⟨i', h1', h2', h3', h4'⟩ := h'
      by_cases c : i = i'
      · rw [h2, h2', c]
      · have a := h4 i' h1' (Ne.symm c)
        have b := h4' i h1 c
        omega
theorem Tld.rng {T : Nat → Nat} {k : Int} (h : Tld T (some k)) : -8 ≤ k ∧ k ≤ 8 := by
  obtain ⟨i, h1, h2, -⟩ := h
  omega
theorem Tld.ext {T T' : Nat → Nat} {o : Option Int} (h : Tld T o) (e : ∀ i, i < 17 → T' i = T i) : Tld T' o := by
  cases o with
  | none =>
    intro i hi hp
    rw [e i hi] at hp
    obtain ⟨j, g1, g2, g3⟩ := h i hi hp
    exact ⟨j, g1, g2, by rw [e i hi, e j g1]; exact g3⟩
  | some k =>
    obtain ⟨i, h1, h2, h3, h4⟩ := h
    exact ⟨i, h1, h2, by rw [e i h1]; exact h3, fun j hj hne => by rw [e i h1, e j hj]; exact h4 j hj hne⟩
def mxn (T : Nat → Nat) : Nat → Nat
  | 0 => 0
  | n + 1 => max (mxn T n) (T n)
theorem mxn_le (T : Nat → Nat) : ∀ n j, j < n → T j ≤ mxn T n
  | 0, j, h => by omega
  | n + 1, j, h => by
    show T j ≤ max (mxn T n) (T n)
    by_cases c : j = n
    · subst c; omega
    · have := mxn_le T n j (by omega)
      omega
theorem mxn_at (T : Nat → Nat) : ∀ n, mxn T n = 0 ∨ ∃ j, j < n ∧ T j = mxn T n
  | 0 => Or.inl rfl
  | n + 1 => by
    show max (mxn T n) (T n) = 0 ∨ ∃ j, j < n + 1 ∧ T j = max (mxn T n) (T n)
    by_cases c : mxn T n ≤ T n
    · right
      exact ⟨n, by omega, by omega⟩
    · rcases mxn_at T n with h | ⟨j, h1, h2⟩
      · omega
      · right
        exact ⟨j, by omega, by omega⟩
/-- the last that has M, and how many have it -/
def lc (T : Nat → Nat) (M : Nat) : Nat → Option Int × Nat
  | 0 => (none, 0)
  | n + 1 => if T n = M then (some ((n : Int) - 8), (lc T M n).2 + 1) else lc T M n
def LcI (T : Nat → Nat) (M n : Nat) (p : Option Int × Nat) : Prop := (p.2 = 0 → p.1 = none ∧ ∀ j, j < n → T j ≠ M) ∧ (p.2 = 1 → ∃ i : Nat, i < n ∧ p.1 = some ((i : Int) - 8) ∧ T i = M ∧ ∀ j : Nat, j < n → j ≠ i → T j ≠ M) ∧ (2 ≤ p.2 → ∃ i j, i < n ∧ j < n ∧ i ≠ j ∧ T i = M ∧ T j = M)
theorem lc_inv (T : Nat → Nat) (M : Nat) : ∀ n, LcI T M n (lc T M n)
  | 0 => ⟨fun _ => ⟨rfl, fun j hj => by omega⟩, fun h => absurd h (show ¬ (0 : Nat) = 1 by decide), fun h => absurd h (show ¬ 2 ≤ (0 : Nat) by decide)⟩
  | n + 1 => by
    obtain ⟨h0, h1, h2⟩ := lc_inv T M n
    unfold lc
    by_cases c : T n = M
    · rw [if_pos c]
      refine ⟨fun h => by simp at h, fun h => ?_, fun h => ?_⟩
      · have hz : (lc T M n).2 = 0 := by simp at h; exact h
        obtain ⟨-, g⟩ := h0 hz
        exact ⟨n, by omega, rfl, c, fun j hj hne => g j (by omega)⟩
      · have hz : 1 ≤ (lc T M n).2 := by simp at h; omega
        by_cases c1 : (lc T M n).2 = 1
        · obtain ⟨i, g1, g2, g3, g4⟩ := h1 c1
          exact ⟨i, n, by omega, by omega, by omega, g3, c⟩
        · obtain ⟨i, j, g1, g2, g3, g4, g5⟩ := h2 (by omega)
          exact ⟨i, j, by omega, by omega, g3, g4, g5⟩
    · rw [if_neg c]
      refine ⟨fun h => ?_, fun h => ?_, fun h => ?_⟩
      · obtain ⟨g1, g2⟩ := h0 h
        refine ⟨g1, fun j hj => ?_⟩
        by_cases cj : j = n
        · rw [cj]; exact c
        · exact g2 j (by omega)
      · obtain ⟨i, g1, g2, g3, g4⟩ := h1 h
        refine ⟨i, by omega, g2, g3, fun j hj hne => ?_⟩
        by_cases cj : j = n
        · rw [cj]; exact c
        · exact g4 j (by omega) hne
      · obtain ⟨i, j, g1, g2, g3, g4, g5⟩ := h2 h
        exact ⟨i, j, by omega, by omega, g3, g4, g5⟩
theorem lc_le (T : Nat → Nat) (M : Nat) : ∀ n, (lc T M n).2 ≤ n
  | 0 => Nat.le_refl _
  | n + 1 => by
    have := lc_le T M n
    unfold lc
    split
    · show (lc T M n).2 + 1 ≤ n + 1
      omega
    · omega
theorem ar34 : Ar 34 17 := ⟨rfl, rfl, by decide, by decide, by decide⟩
theorem ar33 : Ar 33 10 := ⟨rfl, rfl, by decide, by decide, by decide⟩
theorem ar31 : Ar 31 10 := ⟨rfl, rfl, by decide, by decide, by decide⟩
theorem ar32 : Ar 32 10 := ⟨rfl, rfl, by decide, by decide, by decide⟩
theorem e_mostVotes {S : St} (hs : CSh S) {T : Nat → Nat} (hT : ∀ i, i < 17 → S.1 34 i = nI (T i)) (hb : ∀ i, T i < 1000000) : f_X6_mostVotes S 30 = some (nI (mxn T 17)) := by
  unfold f_X6_mostVotes
  have e3 : S.2.1 30 3 = 34 := hs.2.2.2.1.2.2.2
  have hm : ∀ n, mxn T n < 1000000 := by
    intro n
    induction n with
    | zero => exact (show (0 : Nat) < 1000000 by decide)
    | succ n ih =>
      show max (mxn T n) (T n) < 1000000
      have := hb n
      omega
  refine wl2_eq (kx := fun y => some y) (n := 17) (fun i => nI (mxn T i)) 0 rfl rfl (by omega) (by omega) (fun i kk _ hi => ?_) (fun kk => ?_)
  · unfold f_X6_mostVotes_B4
    simp only [e3, lnA ar34]
    have h1 := hm i
    have h2 := hb i
    have hmx : f_J9_max_7cf53 (nI (mxn T i)) (nI (T i)) = some (nI (mxn T (i + 1))) := by
      have := e_max (a := (mxn T i : Int)) (b := (T i : Int)) (by omega) (by omega) (by omega) (by omega)
      rw [← iI_nat, ← iI_nat] at this
      rw [this, iI_nat]
      congr 2
      show max (mxn T i : Int) (T i : Int) = ((max (mxn T i) (T i) : Nat) : Int)
      omega
    rw [ck30 hs, ck_t (okA hs.n ar34), if_neg (by rw [q_le (by omega) (by omega)]; omega), ck30 hs, ckA hs.n ar34 hi, q_cl (by omega), hT i hi, hmx, bnd_s, L1, q_add]
  · unfold f_X6_mostVotes_B4
    simp only [e3, lnA ar34]
    rw [ck30 hs, ck_t (okA hs.n ar34), if_pos (by rw [q_le (by omega) (by omega)]; omega)]
theorem e_told {S : St} (hs : CSh S) {T : Nat → Nat} (hT : ∀ i, i < 17 → S.1 34 i = nI (T i)) (hb : ∀ i, T i < 1000000) : ∃ o, f_X6_told S 30 = some (encC o) ∧ Tld T o := by
  unfold f_X6_told
  have e3 : S.2.1 30 3 = 34 := hs.2.2.2.1.2.2.2
  rw [ck30 hs, e_mostVotes hs hT hb, bnd_s]
  have hm : mxn T 17 < 1000000 := by
    rcases mxn_at T 17 with h | ⟨j, h1, h2⟩
    · omega
    · rw [← h2]; exact hb j
  by_cases h0 : mxn T 17 = 0
  · refine ⟨none, ?_, fun i hi hp => ?_⟩
    · rw [h0]
      refine (wl3_eq (kx := fun y2 y3 => if y3 = 1 then some y2 else some (-10000004)) (n := 17) (fun _ => (-10000004 : Int32)) (fun _ => (0 : Int32)) 0 rfl rfl rfl (by omega) (by omega) (fun i kk _ hi => ?_) (fun kk => ?_)).trans rfl
      · unfold f_X6_told_B13
        simp only [e3, lnA ar34]
        rw [ck30 hs, ck_t (okA hs.n ar34), if_neg (by rw [q_le (by omega) (by omega)]; omega), if_pos (by decide), L1, q_add]
      · unfold f_X6_told_B13
        simp only [e3, lnA ar34]
        rw [ck30 hs, ck_t (okA hs.n ar34), if_pos (by rw [q_le (by omega) (by omega)]; omega)]
    · have := mxn_le T 17 i hi
      omega
  · have hL := lc_inv T (mxn T 17) 17
    refine ⟨if (lc T (mxn T 17) 17).2 = 1 then (lc T (mxn T 17) 17).1 else none, ?_, ?_⟩
    · refine (wl3_eq (kx := fun y2 y3 => if y3 = 1 then some y2 else some (-10000004)) (n := 17) (fun i => encC (lc T (mxn T 17) i).1) (fun i => nI (lc T (mxn T 17) i).2) 0 rfl rfl rfl (by omega) (by omega) (fun i kk _ hi => ?_) (fun kk => ?_)).trans ?_
      · unfold f_X6_told_B13
        simp only [e3, lnA ar34]
        rw [ck30 hs, ck_t (okA hs.n ar34), if_neg (by rw [q_le (by omega) (by omega)]; omega), if_neg (by rw [L0, q_le (by omega) (by omega)]; omega), ck30 hs, ckA hs.n ar34 hi, q_cl (by omega), hT i hi]
        have hti := hb i
        by_cases c : T i = mxn T 17
        · have el : lc T (mxn T 17) (i + 1) = (some ((i : Int) - 8), (lc T (mxn T 17) i).2 + 1) := by
            show (if T i = mxn T 17 then _ else _) = _
            rw [if_pos c]
          have e8 : nI i - 8 = iI ((i : Int) - 8) := by rw [iI_nat, show (8 : Int32) = iI 8 from rfl, iI_sub]
          rw [if_pos (by rw [c]), el, e8, L1, q_add, q_add]
          rfl
        · have el : lc T (mxn T 17) (i + 1) = lc T (mxn T 17) i := by
            show (if T i = mxn T 17 then _ else _) = _
            rw [if_neg c]
          rw [if_neg (by rw [q_eq (by omega) (by omega)]; exact c), el, L1, q_add]
      · unfold f_X6_told_B13
        simp only [e3, lnA ar34]
        rw [ck30 hs, ck_t (okA hs.n ar34), if_pos (by rw [q_le (by omega) (by omega)]; omega)]
      · have := lc_le T (mxn T 17) 17
        show (if nI (lc T (mxn T 17) 17).2 = 1 then _ else _) = _
        by_cases c : (lc T (mxn T 17) 17).2 = 1
        · rw [if_pos (by rw [c]; rfl), if_pos c]
        · rw [if_neg (by rw [L1, q_eq (by omega) (by omega)]; exact c), if_neg c]
          rfl
    · obtain ⟨l0, l1, l2⟩ := hL
      by_cases c : (lc T (mxn T 17) 17).2 = 1
      · rw [if_pos c]
        obtain ⟨i, g1, g2, g3, g4⟩ := l1 c
        rw [g2]
        have hp : 0 < T i := by rw [g3]; exact Nat.pos_of_ne_zero h0
        refine ⟨i, g1, rfl, hp, fun j hj hne => ?_⟩
        have a := mxn_le T 17 j hj
        have b := g4 j hj hne
        rw [g3]
        exact Nat.lt_of_le_of_ne a b
      · rw [if_neg c]
        intro i hi hp
        by_cases ci : T i = mxn T 17
        · have h2 : 2 ≤ (lc T (mxn T 17) 17).2 := by
            by_cases cz : (lc T (mxn T 17) 17).2 = 0
            · exact absurd ci ((l0 cz).2 i hi)
            · omega
          obtain ⟨a, b, g1, g2, g3, g4, g5⟩ := l2 h2
          by_cases ca : a = i
          · exact ⟨b, g2, by omega, by omega⟩
          · exact ⟨a, g1, ca, by omega⟩
        · have hle := mxn_le T 17 i hi
          rcases mxn_at T 17 with h | ⟨j, h1, h2⟩
          · omega
          · exact ⟨j, h1, by intro e; rw [e] at h2; exact ci h2, by omega⟩
