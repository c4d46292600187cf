theorem L0 : (0 : Int32) = nI 0 := rfl
theorem L1 : (1 : Int32) = nI 1 := rfl
theorem L2 : (2 : Int32) = nI 2 := rfl
theorem L3 : (3 : Int32) = nI 3 := rfl
theorem L4 : (4 : Int32) = nI 4 := rfl
theorem L5 : (5 : Int32) = nI 5 := rfl
theorem L6 : (6 : Int32) = nI 6 := rfl
theorem L7 : (7 : Int32) = nI 7 := rfl
theorem L16 : (16 : Int32) = nI 16 := rfl
theorem L20 : (20 : Int32) = nI 20 := rfl
theorem L33 : (33 : Int32) = nI 33 := rfl
theorem L100 : (100 : Int32) = nI 100 := rfl
theorem L847 : (847 : Int32) = nI 847 := rfl
theorem L857 : (857 : Int32) = nI 857 := rfl
theorem L20000 : (20000 : Int32) = nI 20000 := rfl
theorem wl2_inv {α β : Type} {F : (α → Int32 → Option β) → α → Int32 → Option β} {kx : α → Option β} {n : Nat} (P : Nat → α → Prop) (hin : ∀ i a k, i < n → P i a → ∃ a', P (i + 1) a' ∧ F k a (nI i) = k a' (nI (i + 1))) (hout : ∀ a k, P n a → F k a (nI n) = kx a) : ∀ m i fuel a, i + m = n → m < fuel → P i a → ∃ a', P n a' ∧ wl2 F fuel a (nI i) = kx a'
  | 0, i, 0, _, _, h, _ => by omega
  | 0, i, fuel + 1, a, e, _, hP => by
    have : i = n := by omega
    subst this
    exact ⟨a, hP, hout _ _ hP⟩
  | m + 1, i, 0, _, _, h, _ => by omega
  | m + 1, i, fuel + 1, a, e, h, hP => by
    obtain ⟨a', h1, h2⟩ := hin i a (wl2 F fuel) (by omega) hP
    obtain ⟨a2, h3, h4⟩ := wl2_inv P hin hout m (i + 1) fuel a' (by omega) (by omega) h1
    exact ⟨a2, h3, h2.trans h4⟩
theorem wl3_inv {α α2 β : Type} {F : (α → α2 → Int32 → Option β) → α → α2 → Int32 → Option β} {kx : α → α2 → Option β} {n : Nat} (P : Nat → α → α2 → Prop) (hin : ∀ i a b k, i < n → P i a b → ∃ a' b', P (i + 1) a' b' ∧ F k a b (nI i) = k a' b' (nI (i + 1))) (hout : ∀ a b k, P n a b → F k a b (nI n) = kx a b) : ∀ m i fuel a b, i + m = n → m < fuel → P i a b → ∃ a' b', P n a' b' ∧ wl3 F fuel a b (nI i) = kx a' b'
  | 0, i, 0, _, _, _, h, _ => by omega
  | 0, i, fuel + 1, a, b, e, _, hP => by
    have : i = n := by omega
    subst this
    exact ⟨a, b, hP, hout _ _ _ hP⟩
  | m + 1, i, 0, _, _, _, h, _ => by omega
  | m + 1, i, fuel + 1, a, b, e, h, hP => by
    obtain ⟨a', b', h1, h2⟩ := hin i a b (wl3 F fuel) (by omega) hP
    obtain ⟨a2, b2, h3, h4⟩ := wl3_inv P hin hout m (i + 1) fuel a' b' (by omega) (by omega) h1
    exact ⟨a2, b2, h3, h2.trans h4⟩
/-- the same where the values are known: s i at the i-th head -/
theorem wl2_eq {α β : Type} {F : (α → Int32 → Option β) → α → Int32 → Option β} {kx : α → Option β} {n : Nat} {a0 : α} {x0 : Int32} (s : Nat → α) (i0 : Nat) (ha0 : a0 = s i0) (hx0 : x0 = nI i0) (h0 : i0 ≤ n) (hn : n < 1000000) (hin : ∀ i k, i0 ≤ i → i < n → F k (s i) (nI i) = k (s (i + 1)) (nI (i + 1))) (hout : ∀ k, F k (s n) (nI n) = kx (s n))   : wl2 F FU a0 x0 = kx (s n) := by
  subst ha0
  subst hx0
  obtain ⟨a', h1, h2⟩ := wl2_inv (F := F) (kx := kx) (n := n) (fun i a => i0 ≤ i ∧ a = s i) (fun i a k hi hP => ⟨s (i + 1), ⟨by omega, rfl⟩, by rw [hP.2]; exact hin i k hP.1 hi⟩) (fun a k hP => by rw [hP.2]; exact hout k) (n - i0) i0 FU (s i0) (by omega) (by show n - i0 < 1000000; omega) ⟨Nat.le_refl _, rfl⟩
  rw [h2, h1.2]
theorem wl3_eq {α α2 β : Type} {F : (α → α2 → Int32 → Option β) → α → α2 → Int32 → Option β} {kx : α → α2 → Option β} {n : Nat} {a0 : α} {b0 : α2} {x0 : Int32} (s : Nat → α) (s2 : Nat → α2) (i0 : Nat) (ha0 : a0 = s i0) (hb0 : b0 = s2 i0) (hx0 : x0 = nI i0) (h0 : i0 ≤ n) (hn : n < 1000000) (hin : ∀ i k, i0 ≤ i → i < n → F k (s i) (s2 i) (nI i) = k (s (i + 1)) (s2 (i + 1)) (nI (i + 1))) (hout : ∀ k, F k (s n) (s2 n) (nI n) = kx (s n) (s2 n))  : wl3 F FU a0 b0 x0 = kx (s n) (s2 n) := by
  subst ha0
  subst hb0
  subst hx0
  obtain ⟨a', b', h1, h2⟩ := wl3_inv (F := F) (kx := kx) (n := n) (fun i a b => i0 ≤ i ∧ a = s i ∧ b = s2 i) (fun i a b k hi hP => ⟨s (i + 1), s2 (i + 1), ⟨by omega, rfl, rfl⟩, by rw [hP.2.1, hP.2.2]; exact hin i k hP.1 hi⟩) (fun a b k hP => by rw [hP.2.1, hP.2.2]; exact hout k) (n - i0) i0 FU (s i0) (s2 i0) (by omega) (by show n - i0 < 1000000; omega) ⟨Nat.le_refl _, rfl, rfl⟩
  rw [h2, h1.2.1, h1.2.2]
theorem e_within (a b c : Int32) : f_X7_isWithin a b c = some (if b ≤ a ∧ a ≤ c then 1 else 0) := by
  unfold f_X7_isWithin
  by_cases h1 : a < b
  · rw [if_pos h1, if_neg (fun h => Int32.not_lt.mpr h.1 h1)]
  · by_cases h2 : c < a
    · rw [if_neg h1, if_pos h2, if_neg (fun h => Int32.not_lt.mpr h.2 h2)]
    · rw [if_neg h1, if_neg h2, if_pos ⟨Int32.not_lt.mp h1, Int32.not_lt.mp h2⟩]
theorem e_holds {a n : Nat} (ha : a < 2147483648) (hn : n < 32) : f_X7_holds (nI a) (nI n) = some (if a.testBit n = true then 1 else 0) := by
  unfold f_X7_holds
  simp only [q_bit ha hn]
  by_cases h : a.testBit n = true
  · rw [if_pos h, if_pos h]
  · rw [if_neg h, if_neg h]
/-- how many bits below n -/
def pc (a : Nat) : Nat → Nat
  | 0 => 0
  | n + 1 => pc a n + if a.testBit n = true then 1 else 0
theorem pc_le (a : Nat) : ∀ n, pc a n ≤ n
  | 0 => Nat.le_refl _
  | n + 1 => by
    have := pc_le a n
    unfold pc
    split <;> omega
