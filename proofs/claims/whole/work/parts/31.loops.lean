/-! literals, loops that count up, the model as one row of numbers -/
theorem L0 : (0 : Int32) = nI 0 := rfl
theorem L1 : (1 : Int32) = nI 1 := rfl
theorem L2 : (2 : Int32) = nI 2 := rfl
theorem L3 : (3 : Int32) = nI 3 := rfl
theorem L4 : (4 : Int32) = nI 4 := rfl
theorem L5 : (5 : Int32) = nI 5 := rfl
theorem L6 : (6 : Int32) = nI 6 := rfl
theorem L7 : (7 : Int32) = nI 7 := rfl
theorem L8 : (8 : Int32) = nI 8 := rfl
theorem L9 : (9 : Int32) = nI 9 := rfl
theorem L10 : (10 : Int32) = nI 10 := rfl
theorem L11 : (11 : Int32) = nI 11 := rfl
theorem L12 : (12 : Int32) = nI 12 := rfl
theorem L13 : (13 : Int32) = nI 13 := rfl
theorem L14 : (14 : Int32) = nI 14 := rfl
theorem L15 : (15 : Int32) = nI 15 := rfl
theorem L16 : (16 : Int32) = nI 16 := rfl
theorem L17 : (17 : Int32) = nI 17 := rfl
theorem L19 : (19 : Int32) = nI 19 := rfl
theorem L20 : (20 : Int32) = nI 20 := rfl
theorem L21 : (21 : Int32) = nI 21 := rfl
theorem L31 : (31 : Int32) = nI 31 := rfl
theorem L32 : (32 : Int32) = nI 32 := rfl
theorem L33 : (33 : Int32) = nI 33 := rfl
theorem L34 : (34 : Int32) = nI 34 := rfl
theorem L35 : (35 : Int32) = nI 35 := rfl
theorem L36 : (36 : Int32) = nI 36 := rfl
theorem L37 : (37 : Int32) = nI 37 := rfl
theorem L40 : (40 : Int32) = nI 40 := rfl
theorem L41 : (41 : Int32) = nI 41 := rfl
theorem L44 : (44 : Int32) = nI 44 := rfl
theorem L45 : (45 : Int32) = nI 45 := rfl
theorem L47 : (47 : Int32) = nI 47 := rfl
theorem L48 : (48 : Int32) = nI 48 := rfl
theorem L49 : (49 : Int32) = nI 49 := rfl
theorem L50 : (50 : Int32) = nI 50 := rfl
theorem L57 : (57 : Int32) = nI 57 := rfl
theorem L59 : (59 : Int32) = nI 59 := rfl
theorem L80 : (80 : Int32) = nI 80 := rfl
theorem L98 : (98 : Int32) = nI 98 := rfl
theorem L100 : (100 : Int32) = nI 100 := rfl
theorem L101 : (101 : Int32) = nI 101 := rfl
theorem L103 : (103 : Int32) = nI 103 := rfl
theorem L115 : (115 : Int32) = nI 115 := rfl
theorem L116 : (116 : Int32) = nI 116 := rfl
theorem L117 : (117 : Int32) = nI 117 := rfl
theorem L126 : (126 : Int32) = nI 126 := rfl
theorem L162 : (162 : Int32) = nI 162 := rfl
theorem L200 : (200 : Int32) = nI 200 := rfl
theorem L255 : (255 : Int32) = nI 255 := rfl
theorem L847 : (847 : Int32) = nI 847 := rfl
theorem L857 : (857 : Int32) = nI 857 := rfl
theorem L867 : (867 : Int32) = nI 867 := rfl
theorem L1600 : (1600 : Int32) = nI 1600 := rfl
theorem L2400 : (2400 : Int32) = nI 2400 := rfl
theorem L2401 : (2401 : Int32) = nI 2401 := rfl
theorem L2601 : (2601 : Int32) = nI 2601 := rfl
theorem L20000 : (20000 : Int32) = nI 20000 := rfl
theorem C0 : (0 : Int32).toNatClampNeg = 0 := rfl
theorem C1 : (1 : Int32).toNatClampNeg = 1 := rfl
theorem C2 : (2 : Int32).toNatClampNeg = 2 := rfl
theorem C3 : (3 : Int32).toNatClampNeg = 3 := rfl
theorem C4 : (4 : Int32).toNatClampNeg = 4 := rfl
theorem C5 : (5 : Int32).toNatClampNeg = 5 := rfl
theorem C6 : (6 : Int32).toNatClampNeg = 6 := rfl
theorem C7 : (7 : Int32).toNatClampNeg = 7 := rfl
theorem C8 : (8 : Int32).toNatClampNeg = 8 := rfl
theorem C9 : (9 : Int32).toNatClampNeg = 9 := rfl
theorem C10 : (10 : Int32).toNatClampNeg = 10 := rfl
theorem C15 : (15 : Int32).toNatClampNeg = 15 := rfl
theorem C33 : (33 : Int32).toNatClampNeg = 33 := rfl
theorem C34 : (34 : Int32).toNatClampNeg = 34 := rfl
theorem C35 : (35 : Int32).toNatClampNeg = 35 := rfl
theorem C36 : (36 : Int32).toNatClampNeg = 36 := rfl
theorem C37 : (37 : Int32).toNatClampNeg = 37 := rfl
theorem C847 : (847 : Int32).toNatClampNeg = 847 := rfl
theorem C857 : (857 : Int32).toNatClampNeg = 857 := rfl
/-- a loop that counts up to n, with P i at its i-th head, and no other way out -/
theorem wl1_inv {β : Type} {F : (Int32 → Option β) → Int32 → Option β} {r : Option β} {n : Nat} (hin : ∀ i k, i < n → F k (nI i) = k (nI (i + 1))) (hout : ∀ k, F k (nI n) = r) : ∀ m i fuel, i + m = n → m < fuel → wl1 F fuel (nI i) = r
  | 0, i, 0, _, h => by omega
  | 0, i, fuel + 1, e, _ => by
    have : i = n := by omega
    subst this
    exact hout _
  | m + 1, i, 0, _, h => by omega
  | m + 1, i, fuel + 1, e, h => by
    show F (wl1 F fuel) (nI i) = r
    rw [hin i _ (by omega)]
    exact wl1_inv hin hout m (i + 1) fuel (by omega) (by omega)
theorem wl2_inv {α β : Type} {F : (α → Int32 → Option β) → α → Int32 → Option β} {kx : α → Option β} {n : Nat} (P : Nat → α → Prop) (hin : ∀ i a k, i < n → P i a → ∃ a', P (i + 1) a' ∧ F k a (nI i) = k a' (nI (i + 1))) (hout : ∀ a k, P n a → F k a (nI n) = kx a) : ∀ m i fuel a, i + m = n → m < fuel → P i a → ∃ a', P n a' ∧ wl2 F fuel a (nI i) = kx a'
  | 0, i, 0, _, _, h, _ => by omega
  | 0, i, fuel + 1, a, e, _, hP => by
    have : i = n := by omega
    subst this
    exact ⟨a, hP, hout _ _ hP⟩
  | m + 1, i, 0, _, _, h, _ => by omega
  | m + 1, i, fuel + 1, a, e, h, hP => by
    obtain ⟨a', h1, h2⟩ := hin i a (wl2 F fuel) (by omega) hP
    obtain ⟨a2, h3, h4⟩ := wl2_inv P hin hout m (i + 1) fuel a' (by omega) (by omega) h1
    exact ⟨a2, h3, h2.trans h4⟩
theorem wl3_inv {α α2 β : Type} {F : (α → α2 → Int32 → Option β) → α → α2 → Int32 → Option β} {kx : α → α2 → Option β} {n : Nat} (P : Nat → α → α2 → Prop) (hin : ∀ i a b k, i < n → P i a b → ∃ a' b', P (i + 1) a' b' ∧ F k a b (nI i) = k a' b' (nI (i + 1))) (hout : ∀ a b k, P n a b → F k a b (nI n) = kx a b) : ∀ m i fuel a b, i + m = n → m < fuel → P i a b → ∃ a' b', P n a' b' ∧ wl3 F fuel a b (nI i) = kx a' b'
  | 0, i, 0, _, _, _, h, _ => by omega
  | 0, i, fuel + 1, a, b, e, _, hP => by
    have : i = n := by omega
    subst this
    exact ⟨a, b, hP, hout _ _ _ hP⟩
  | m + 1, i, 0, _, _, _, h, _ => by omega
  | m + 1, i, fuel + 1, a, b, e, h, hP => by
    obtain ⟨a', b', h1, h2⟩ := hin i a b (wl3 F fuel) (by omega) hP
    obtain ⟨a2, b2, h3, h4⟩ := wl3_inv P hin hout m (i + 1) fuel a' b' (by omega) (by omega) h1
    exact ⟨a2, b2, h3, h2.trans h4⟩
/-- the same where the values are known: s i at the i-th head -/
theorem wl2_eq {α β : Type} {F : (α → Int32 → Option β) → α → Int32 → Option β} {kx : α → Option β} {n : Nat} {a0 : α} {x0 : Int32} (s : Nat → α) (i0 : Nat) (ha0 : a0 = s i0) (hx0 : x0 = nI i0) (h0 : i0 ≤ n) (hn : n < 1000000) (hin : ∀ i k, i0 ≤ i → i < n → F k (s i) (nI i) = k (s (i + 1)) (nI (i + 1))) (hout : ∀ k, F k (s n) (nI n) = kx (s n))   : wl2 F FU a0 x0 = kx (s n) := by
  subst ha0
  subst hx0
  obtain ⟨a', h1, h2⟩ := wl2_inv (F := F) (kx := kx) (n := n) (fun i a => i0 ≤ i ∧ a = s i) (fun i a k hi hP => ⟨s (i + 1), ⟨by omega, rfl⟩, by rw [hP.2]; exact hin i k hP.1 hi⟩) (fun a k hP => by rw [hP.2]; exact hout k) (n - i0) i0 FU (s i0) (by omega) (by show n - i0 < 1000000; omega) ⟨Nat.le_refl _, rfl⟩
  rw [h2, h1.2]
theorem wl3_eq {α α2 β : Type} {F : (α → α2 → Int32 → Option β) → α → α2 → Int32 → Option β} {kx : α → α2 → Option β} {n : Nat} {a0 : α} {b0 : α2} {x0 : Int32} (s : Nat → α) (s2 : Nat → α2) (i0 : Nat) (ha0 : a0 = s i0) (hb0 : b0 = s2 i0) (hx0 : x0 = nI i0) (h0 : i0 ≤ n) (hn : n < 1000000) (hin : ∀ i k, i0 ≤ i → i < n → F k (s i) (s2 i) (nI i) = k (s (i + 1)) (s2 (i + 1)) (nI (i + 1))) (hout : ∀ k, F k (s n) (s2 n) (nI n) = kx (s n) (s2 n))  : wl3 F FU a0 b0 x0 = kx (s n) (s2 n) := by
  subst ha0
  subst hb0
  subst hx0
  obtain ⟨a', b', h1, h2⟩ := wl3_inv (F := F) (kx := kx) (n := n) (fun i a b => i0 ≤ i ∧ a = s i ∧ b = s2 i) (fun i a b k hi hP => ⟨s (i + 1), s2 (i + 1), ⟨by omega, rfl, rfl⟩, by rw [hP.2.1, hP.2.2]; exact hin i k hP.1 hi⟩) (fun a b k hP => by rw [hP.2.1, hP.2.2]; exact hout k) (n - i0) i0 FU (s i0) (s2 i0) (by omega) (by show n - i0 < 1000000; omega) ⟨Nat.le_refl _, rfl, rfl⟩
  rw [h2, h1.2.1, h1.2.2]
/-! small functions of both sides -/
theorem e_in (a b c : Int32) : f_X8_in a b c = some (if b ≤ a ∧ a ≤ c then 1 else 0) := by
  unfold f_X8_in
  by_cases h1 : a < b
  · rw [if_pos h1, if_neg (fun h => Int32.not_lt.mpr h.1 h1)]
  · by_cases h2 : c < a
    · rw [if_neg h1, if_pos h2, if_neg (fun h => Int32.not_lt.mpr h.2 h2)]
    · rw [if_neg h1, if_neg h2, if_pos ⟨Int32.not_lt.mp h1, Int32.not_lt.mp h2⟩]
theorem e_in_t {a b c : Int32} (h : b ≤ a ∧ a ≤ c) : f_X8_in a b c = some 1 := by rw [e_in, if_pos h]
theorem e_in_f {a b c : Int32} (h : ¬ (b ≤ a ∧ a ≤ c)) : f_X8_in a b c = some 0 := by rw [e_in, if_neg h]
theorem q_rng {a lo hi : Nat} (ha : a < 2147483648) (hl : lo < 2147483648) (hh : hi < 2147483648) : (nI lo ≤ nI a ∧ nI a ≤ nI hi) ↔ (lo ≤ a ∧ a ≤ hi) := by
  rw [q_le hl ha, q_le ha hh]
theorem e_within (a b c : Int32) : f_X7_isWithin a b c = some (if b ≤ a ∧ a ≤ c then 1 else 0) := e_in a b c
theorem e_has {a n : Nat} (ha : a < 2147483648) (hn : n < 32) : f_X8_has (nI a) (nI n) = some (if a.testBit n = true then 1 else 0) := by
  unfold f_X8_has
  simp only [q_bit ha hn]
  by_cases h : a.testBit n = true
  · rw [if_pos h, if_pos h]
  · rw [if_neg h, if_neg h]
theorem e_holds {a n : Nat} (ha : a < 2147483648) (hn : n < 32) : f_X7_holds (nI a) (nI n) = some (if a.testBit n = true then 1 else 0) := e_has ha hn
theorem not_holds {a n : Nat} : ((if a.testBit n = true then (1 : Int32) else 0) = 0) = (a.testBit n = false) := by
  by_cases h : a.testBit n = true
  · simp [h]
  · simp only [Bool.not_eq_true] at h; simp [h]
/-- how many bits below n -/
def pc (a : Nat) : Nat → Nat
  | 0 => 0
  | n + 1 => pc a n + if a.testBit n = true then 1 else 0
theorem pc_le (a : Nat) : ∀ n, pc a n ≤ n
  | 0 => Nat.le_refl _
  | n + 1 => by
    have := pc_le a n
    unfold pc
    split <;> omega
theorem e_bits {a : Nat} (ha : a < 2147483648) : f_X8_bits (nI a) = some (nI (pc a 17)) := by
  unfold f_X8_bits
  obtain ⟨r, h1, h2⟩ := wl2_inv (F := f_X8_bits_B4 (nI a) (fun y => some y)) (kx := fun y => some y) (n := 17) (fun i x => x = nI (pc a i)) (fun i x k hi hx => by
    refine ⟨nI (pc a (i + 1)), rfl, ?_⟩
    unfold f_X8_bits_B4
    have := pc_le a i
    rw [if_neg (by rw [L17, q_le (by omega) (by omega)]; omega), q_bitv ha (by omega), hx, L1, q_add]
    congr 1
    show nI (pc a i) + _ = nI (pc a i + if a.testBit i = true then 1 else 0)
    by_cases h : a.testBit i = true
    · rw [if_pos h, if_pos h, q_add]
    · rw [if_neg h, if_neg h, L0, q_add]) (fun x k hx => by
    unfold f_X8_bits_B4
    rw [if_pos (by rw [L17, q_le (by omega) (by omega)]; omega)]) 17 0 FU 0 rfl (by decide) rfl
  rw [h1] at h2
  exact h2
