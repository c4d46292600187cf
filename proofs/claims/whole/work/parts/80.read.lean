/-! ORDERS, READ: the text as codes, what a number and an order are -/
theorem wl2_esc {α β : Type} {F : (α → Int32 → Option β) → α → Int32 → Option β} {kx : α → Option β} {n : Nat} (P : Nat → α → Prop) (hin : ∀ i a k, i < n → P i a → (∃ a', P (i + 1) a' ∧ F k a (nI i) = k a' (nI (i + 1))) ∨ (P n a ∧ F k a (nI i) = kx a)) (hout : ∀ a k, P n a → F k a (nI n) = kx a) : ∀ m i fuel a, i + m = n → m < fuel → P i a → ∃ a', P n a' ∧ wl2 F fuel a (nI i) = kx a'
  | 0, i, 0, _, _, h, _ => by omega
  | 0, i, fuel + 1, a, e, _, hP => by
    have : i = n := by omega
    subst this
    exact ⟨a, hP, hout _ _ hP⟩
  | m + 1, i, 0, _, _, h, _ => by omega
  | m + 1, i, fuel + 1, a, e, h, hP => by
    rcases hin i a (wl2 F fuel) (by omega) hP with ⟨a', h1, h2⟩ | ⟨h1, h2⟩
    · obtain ⟨a2, h3, h4⟩ := wl2_esc P hin hout m (i + 1) fuel a' (by omega) (by omega) h1
      exact ⟨a2, h3, h2.trans h4⟩
    · exact ⟨a, h1, h2⟩
abbrev Tx : Type := Nat → Nat
/-- the codes of a text; 0 behind its end -/
def chN (tx : Nat → Int32) (len : Nat) : Tx := fun p => if p < len then (tx p).toNatClampNeg else 0
def TxO (tx : Nat → Int32) (len : Nat) : Prop := len ≤ 80 ∧ ∀ j, j < len → Rg (tx j) 32 126
theorem chN_in {tx : Nat → Int32} {len p : Nat} (h : TxO tx len) (hp : p < len) : tx p = nI (chN tx len p) ∧ 32 ≤ chN tx len p ∧ chN tx len p ≤ 126 := by
  obtain ⟨n, e, h1, h2⟩ := h.2 p hp
  unfold chN
  rw [if_pos hp, e, q_cl (by omega)]
  exact ⟨rfl, h1, h2⟩
theorem chN_out {tx : Nat → Int32} {len p : Nat} (hp : len ≤ p) : chN tx len p = 0 := if_neg (by omega)
theorem chN_le {tx : Nat → Int32} {len : Nat} (h : TxO tx len) (p : Nat) : chN tx len p ≤ 126 := by
  by_cases hp : p < len
  · exact (chN_in h hp).2.2
  · rw [chN_out (by omega)]; omega
def isD (c : Nat) : Bool := decide (48 ≤ c) && decide (c ≤ 57)
theorem isD_t {c : Nat} : isD c = true ↔ 48 ≤ c ∧ c ≤ 57 := by
  unfold isD
  rw [Bool.and_eq_true, decide_eq_true_eq, decide_eq_true_eq]
def rdN (ch : Tx) : Nat → Nat → Nat → Nat × Nat
  | 0, p, v => (p, v)
  | n + 1, p, v => if isD (ch p) = true then rdN ch n (p + 1) (10 * v + ch p - 48) else (p, v)
theorem rdN_s (ch : Tx) (n p v : Nat) : rdN ch (n + 1) p v = if isD (ch p) = true then rdN ch n (p + 1) (10 * v + ch p - 48) else (p, v) := rfl
theorem rdN_le (ch : Tx) : ∀ n p v, p ≤ (rdN ch n p v).1 ∧ (rdN ch n p v).1 ≤ p + n
  | 0, p, v => ⟨Nat.le_refl _, Nat.le_refl _⟩
  | n + 1, p, v => by
    rw [rdN_s]
    by_cases c : isD (ch p) = true
    · rw [if_pos c]
      have := rdN_le ch n (p + 1) (10 * v + ch p - 48)
      omega
    · rw [if_neg c]
      show p ≤ p ∧ p ≤ p + (n + 1)
      omega
def nS (ch : Tx) (p : Nat) : Nat := if ch p = 45 then p + 1 else p
def nE (ch : Tx) (p : Nat) : Nat := (rdN ch 5 (nS ch p) 0).1
def nB (ch : Tx) (p : Nat) : Bool := decide (nE ch p = nS ch p)
def nV (ch : Tx) (p : Nat) : Int32 := if ch p = 45 then -(nI (rdN ch 5 (nS ch p) 0).2) else nI (rdN ch 5 (nS ch p) 0).2
theorem nS_le (ch : Tx) (p : Nat) : p ≤ nS ch p ∧ nS ch p ≤ p + 1 := by
  unfold nS
  split <;> omega
theorem nE_le (ch : Tx) (p : Nat) : nS ch p ≤ nE ch p ∧ nE ch p ≤ p + 6 := by
  have h1 := nS_le ch p
  have h2 := rdN_le ch 5 (nS ch p) 0
  unfold nE
  omega
/-- a certain sign, a number; the flag: it has broken off -/
def sg1 (ch : Tx) (c : Nat) (s : Nat × Bool) : Nat × Bool := if s.2 = true then s else if ch s.1 = c then (s.1 + 1, false) else (s.1, true)
def nm1 (ch : Tx) (s : Nat × Bool) : Nat × Bool := if s.2 = true then s else (nE ch s.1, nB ch s.1)
def sqp (ch : Tx) (s : Nat × Bool) (k : Nat) : Nat × Bool := if k = 0 then s else sg1 ch 44 s
def sq (ch : Tx) (p : Nat) : Nat → Nat × Bool
  | 0 => (p + 1, false)
  | k + 1 => nm1 ch (sqp ch (sq ch p k) k)
theorem sq_s (ch : Tx) (p k : Nat) : sq ch p (k + 1) = nm1 ch (sqp ch (sq ch p k) k) := rfl
def vl (ch : Tx) (p k : Nat) : Int32 := nV ch (sqp ch (sq ch p k) k).1
theorem sg1_b {ch : Tx} {c : Nat} {s : Nat × Bool} (h : s.2 = true) : sg1 ch c s = s := if_pos h
theorem nm1_b {ch : Tx} {s : Nat × Bool} (h : s.2 = true) : nm1 ch s = s := if_pos h
theorem sqp_b {ch : Tx} {s : Nat × Bool} {k : Nat} (h : s.2 = true) : sqp ch s k = s := by
  unfold sqp
  split
  · rfl
  · exact sg1_b h
theorem sq_b {ch : Tx} {p i : Nat} (h : (sq ch p i).2 = true) : ∀ d, sq ch p (i + d) = sq ch p i
  | 0 => rfl
  | d + 1 => by
    have ih := sq_b h d
    show sq ch p (i + d + 1) = _
    rw [sq_s, ih, sqp_b h, nm1_b h]
theorem sg1_le (ch : Tx) (c : Nat) (s : Nat × Bool) : s.1 ≤ (sg1 ch c s).1 ∧ (sg1 ch c s).1 ≤ s.1 + 1 := by
  unfold sg1
  split
  · omega
  · split
    · show s.1 ≤ s.1 + 1 ∧ s.1 + 1 ≤ s.1 + 1
      omega
    · show s.1 ≤ s.1 ∧ s.1 ≤ s.1 + 1
      omega
theorem nm1_le (ch : Tx) (s : Nat × Bool) : s.1 ≤ (nm1 ch s).1 ∧ (nm1 ch s).1 ≤ s.1 + 6 := by
  unfold nm1
  split
  · omega
  · have h1 := nE_le ch s.1
    have h2 := nS_le ch s.1
    show s.1 ≤ nE ch s.1 ∧ nE ch s.1 ≤ s.1 + 6
    omega
theorem sqp_le (ch : Tx) (s : Nat × Bool) (k : Nat) : s.1 ≤ (sqp ch s k).1 ∧ (sqp ch s k).1 ≤ s.1 + 1 := by
  unfold sqp
  split
  · omega
  · exact sg1_le ch 44 s
theorem sq_le (ch : Tx) (p : Nat) : ∀ k, p + 1 ≤ (sq ch p k).1 ∧ (sq ch p k).1 ≤ p + 1 + 7 * k
  | 0 => ⟨Nat.le_refl _, Nat.le_refl _⟩
  | k + 1 => by
    have h1 := sq_le ch p k
    have h2 := sqp_le ch (sq ch p k) k
    have h3 := nm1_le ch (sqp ch (sq ch p k) k)
    rw [sq_s]
    omega
def okL (c : Nat) : Bool := decide (c = 116) || (decide (c = 103) || (decide (c = 115) || (decide (c = 98) || decide (c = 117))))
def cntL (c : Nat) : Nat := if c = 116 then 6 else if c = 115 then 0 else 1
theorem cntL_le (c : Nat) : cntL c ≤ 6 := by
  unfold cntL
  split
  · omega
  · split <;> omega
def fin (ch : Tx) (p : Nat) : Nat × Bool := if okL (ch p) = true then sg1 ch 59 (sq ch p (cntL (ch p))) else (p, true)
theorem fin_le (ch : Tx) (p : Nat) : p ≤ (fin ch p).1 ∧ (fin ch p).1 ≤ p + 44 ∧ ((fin ch p).2 = false → p + 1 ≤ (fin ch p).1) := by
  unfold fin
  by_cases c : okL (ch p) = true
  · rw [if_pos c]
    have h1 := sq_le ch p (cntL (ch p))
    have h2 := sg1_le ch 59 (sq ch p (cntL (ch p)))
    have h3 := cntL_le (ch p)
    omega
  · rw [if_neg c]
    refine ⟨Nat.le_refl _, ?_, fun h => by cases h⟩
    show p ≤ p + 44
    omega
theorem fin_ok {ch : Tx} {p : Nat} (h : (fin ch p).2 = false) : okL (ch p) = true ∧ (sq ch p (cntL (ch p))).2 = false := by
  unfold fin at h
  by_cases c : okL (ch p) = true
  · rw [if_pos c] at h
    refine ⟨c, ?_⟩
    cases hz : (sq ch p (cntL (ch p))).2 with
    | false => rfl
    | true => rw [sg1_b hz, hz] at h; cases h
  · rw [if_neg c] at h
    cases h
/-! the class reads -/
def bI (b : Bool) : Int32 := if b = true then 1 else 0
def TC (S : St) (tx : Nat → Int32) (len : Nat) : Prop := S.1 26 1 = nI len ∧ ∀ j, j < len → S.1 27 j = tx j
def PO : Nat → Nat → Prop := fun x _ => x = 28 ∨ x = 29
theorem TC.ex {P : Nat → Nat → Prop} {S S' : St} {tx : Nat → Int32} {len : Nat} (h : TC S tx len) (he : Ex P S S') (h1 : ¬ P 26 1) (h2 : ∀ j, ¬ P 27 j) : TC S' tx len := ⟨(he.2 _ _ h1).trans h.1, fun j hj => (he.2 _ _ (h2 j)).trans (h.2 j hj)⟩
theorem TC.po {S S' : St} {tx : Nat → Int32} {len : Nat} (h : TC S tx len) (he : Ex PO S S') : TC S' tx len := h.ex he (by unfold PO; omega) (fun j => by unfold PO; omega)
theorem c_signAt {S : St} (hs : CSh S) {tx : Nat → Int32} {len p : Nat} (ht : TxO tx len) (hc : TC S tx len) (hp : p < 1000) : f_X4_signAt S 26 (nI p) = some (nI (chN tx len p)) := by
  unfold f_X4_signAt
  have e0 : S.2.1 26 0 = 27 := hs.2.2.1.1
  have l80 := ht.1
  have i0 : isC 0 := (chr_all 0 (by omega)).2
  have hln : Int32.ofNat (ln 27) = nI 80 := rfl
  have hk : kd 27 = 11 := rfl
  have hl : ln 27 = 80 := rfl
  simp only [e0, hc.1, hln]
  rw [if_neg (by rw [L0, q_lt (by omega) (by omega)]; omega), ck26 hs]
  by_cases c : p < len
  · obtain ⟨h1, h2, h3⟩ := chN_in ht c
    have ok : okc S 11 27 := okS hs.n hk (by decide)
    have e1 : S.1 27 p = nI (chN tx len p) := (hc.2 p c).trans h1
    have ecl : (nI p).toNatClampNeg = p := q_cl (by omega)
    simp only [ecl, e1]
    rw [if_neg (by rw [q_le (by omega) (by omega)]; omega), ck26 hs, ck_t ok, if_neg (by rw [q_le (by omega) (by omega)]; omega), ck26 hs, ck_t (show ina S 11 27 (nI p) from ⟨ok, by rw [L0, q_le (by omega) (by omega)]; omega, by rw [ecl, hl]; omega⟩), ck_t (chr_all _ (by omega)).2]
  · rw [if_pos (by rw [q_le (by omega) (by omega)]; omega), ck_t i0, chN_out (by omega)]
    rfl
theorem c_isDigit {c : Nat} (h : c ≤ 126) : f_X2_isDigit (nI c) = some (bI (isD c)) := by
  unfold f_X2_isDigit bI
  by_cases h1 : c < 48
  · rw [if_pos (by rw [L48, q_lt (by omega) (by omega)]; exact h1), if_neg (by rw [isD_t]; omega)]
  · rw [if_neg (by rw [L48, q_lt (by omega) (by omega)]; exact h1)]
    by_cases h2 : 57 < c
    · rw [if_pos (by rw [L57, q_lt (by omega) (by omega)]; exact h2), if_neg (by rw [isD_t]; omega)]
    · rw [if_neg (by rw [L57, q_lt (by omega) (by omega)]; exact h2), if_pos (by rw [isD_t]; omega)]
theorem bI_0 {b : Bool} : (bI b = 0) = (b = false) := by
  cases b
  · simp [bI]
  · simp [bI]
theorem l_rdC {tx : Nat → Int32} {len : Nat} (ht : TxO tx len) (a2 a3 : Int32) (kx : St → Int32 → Int32 → Option St) : ∀ n i fuel (S : St) p v, i + n = 5 → n < fuel → p + n < 900 → CSh S → TC S tx len → S.1 28 2 = nI p → ∃ S', wl3 (f_X2_readNumber_B39 28 26 a2 a3 kx) fuel S (nI v) (nI i) = kx S' (nI (rdN (chN tx len) n p v).2) (nI (i + ((rdN (chN tx len) n p v).1 - p))) ∧ S'.1 28 2 = nI (rdN (chN tx len) n p v).1 ∧ Ex (fun x j => x = 28 ∧ j = 2) S S'
  | n, i, 0, _, _, _, _, h, _, _, _, _ => by omega
  | 0, i, fuel + 1, S, p, v, e, _, _, hs, hc, h2 => by
    have hi : i = 5 := by omega
    subst hi
    refine ⟨S, ?_, h2, Ex.rf⟩
    show f_X2_readNumber_B39 28 26 a2 a3 kx _ S (nI v) (nI 5) = _
    unfold f_X2_readNumber_B39
    rw [if_pos (by decide)]
    show kx S (nI v) (nI 5) = kx S (nI v) (nI (5 + (p - p)))
    rw [Nat.sub_self]
  | n + 1, i, fuel + 1, S, p, v, e, h, hp, hs, hc, h2 => by
    show ∃ S', f_X2_readNumber_B39 28 26 a2 a3 kx (wl3 (f_X2_readNumber_B39 28 26 a2 a3 kx) fuel) S (nI v) (nI i) = _ ∧ _
    generalize hK : wl3 (f_X2_readNumber_B39 28 26 a2 a3 kx) fuel = kk
    unfold f_X2_readNumber_B39
    have hsg := c_signAt hs ht hc (p := p) (by omega)
    have hle := chN_le ht p
    rw [if_neg (by rw [L5, q_le (by omega) (by omega)]; omega), ck28 hs, ck26 hs, h2, hsg, bnd_s, c_isDigit hle, bnd_s, rdN_s]
    by_cases c : isD (chN tx len p) = true
    · obtain ⟨d1, d2⟩ := isD_t.mp c
      rw [if_neg (by rw [bI_0, c]; decide), if_pos c, ck28 hs, ck26 hs, bnd_s, ck28 hs, ck28 hs, vlt_s, L10, L48, L1, q_mul, q_sub d1, q_add, q_add, q_add]
      have x1 : Ex (fun x j => x = 28 ∧ j = 2) S (upI S 28 2 (nI (p + 1))) := Ex.up ⟨rfl, rfl⟩
      obtain ⟨S', g1, g2, g3⟩ := l_rdC ht a2 a3 kx n (i + 1) fuel (upI S 28 2 (nI (p + 1))) (p + 1) (10 * v + chN tx len p - 48) (by omega) (by omega) (by omega) (hs.ex x1) (hc.ex x1 (by omega) (fun j => by omega)) (by rw [upI_at, if_pos ⟨rfl, rfl⟩])
      have hr := rdN_le (chN tx len) n (p + 1) (10 * v + chN tx len p - 48)
      refine ⟨S', ?_, g2, x1.tr g3⟩
      rw [show v * 10 + (chN tx len p - 48) = 10 * v + chN tx len p - 48 by omega, ← hK, g1]
      congr 2
      omega
    · rw [if_pos (by rw [bI_0]; simpa using c), if_neg c]
      refine ⟨S, ?_, h2, Ex.rf⟩
      show kx S (nI v) (nI i) = kx S (nI v) (nI (i + (p - p)))
      rw [Nat.sub_self, Nat.add_zero]
theorem ar29 : Ar 29 6 := ⟨rfl, rfl, by decide, by decide, by decide⟩
theorem c_readNumber {S : St} (hs : CSh S) {tx : Nat → Int32} {len p k : Nat} (ht : TxO tx len) (hc : TC S tx len) (hp : p < 500) (hk : k < 6) (h2 : S.1 28 2 = nI p) : ∃ S', f_X2_readNumber S 28 26 (nI k) = some S' ∧ S'.1 28 2 = nI (nE (chN tx len) p) ∧ S'.1 28 3 = bI (nB (chN tx len) p) ∧ S'.1 28 0 = S.1 28 0 ∧ S'.1 29 k = nV (chN tx len) p ∧ (∀ j, j ≠ k → S'.1 29 j = S.1 29 j) ∧ Ex PO S S' := by
  unfold f_X2_readNumber
  have e1 : ∀ S1 : St, CSh S1 → S1.2.1 28 1 = 29 := fun S1 q => q.2.2.1.2.2
  have hnS := nS_le (chN tx len) p
  have hnE := nE_le (chN tx len) p
  have J33 : ∀ (S1 : St) (x3 : Int32), CSh S1 → TC S1 tx len → S1.1 28 2 = nI (nS (chN tx len) p) → S1.1 28 0 = S.1 28 0 → Ex PO S S1 → (∀ j, S1.1 29 j = S.1 29 j) → ((x3 = 0) = ¬ (chN tx len p = 45)) → ∃ S', f_X2_readNumber_J33 S1 28 26 (nI k) x3 = some S' ∧ S'.1 28 2 = nI (nE (chN tx len) p) ∧ S'.1 28 3 = bI (nB (chN tx len) p) ∧ S'.1 28 0 = S.1 28 0 ∧ S'.1 29 k = nV (chN tx len) p ∧ (∀ j, j ≠ k → S'.1 29 j = S.1 29 j) ∧ Ex PO S S' := by
    intro S1 x3 s1 c1 g2 g0 x1 g29 h3
    unfold f_X2_readNumber_J33
    obtain ⟨S2, r1, r2, r3⟩ := l_rdC ht (nI k) x3 (fun (S_8 : St) (y4_6 : Int32) (y5_7 : Int32) => (f_X2_readNumber_J94 S_8 28 (nI k) x3 y4_6 y5_7)) 5 0 FU S1 (nS (chN tx len) p) 0 rfl (by decide) (by omega) s1 c1 g2
    have s2 := s1.ex r3
    rw [show (0 : Int32) = nI 0 from rfl, r1]
    have r29 : ∀ j, S2.1 29 j = S.1 29 j := fun j => by rw [r3.2 _ _ (by omega)]; exact g29 j
    have r0 : S2.1 28 0 = S.1 28 0 := by rw [r3.2 _ _ (by omega)]; exact g0
    have x2 : Ex PO S S2 := x1.tr (r3.wk (fun x j q => by unfold PO; omega))
    have J : ∀ b : Bool, b = nB (chN tx len) p → ∃ S', f_X2_readNumber_J105 S2 28 (nI k) x3 (nI (rdN (chN tx len) 5 (nS (chN tx len) p) 0).2) (bI b) 28 = some S' ∧ S'.1 28 2 = nI (nE (chN tx len) p) ∧ S'.1 28 3 = bI (nB (chN tx len) p) ∧ S'.1 28 0 = S.1 28 0 ∧ S'.1 29 k = nV (chN tx len) p ∧ (∀ j, j ≠ k → S'.1 29 j = S.1 29 j) ∧ Ex PO S S' := by
      intro b hb
      unfold f_X2_readNumber_J105
      have hz : bI b = 0 ∨ bI b = 1 := by
        unfold bI
        split
        · exact Or.inr rfl
        · exact Or.inl rfl
      rw [ck_t hz, ck28 s2, vlt_s, if_neg (by rw [L0, q_lt (by omega) (by omega)]; omega)]
      generalize hS3 : upI S2 28 3 (bI b) = S3
      have x3' : Ex (fun x j => x = 28 ∧ j = 3) S2 S3 := by
        rw [← hS3]
        exact Ex.up ⟨rfl, rfl⟩
      have s3 := s2.ex x3'
      have g3 : S3.1 28 3 = bI b := by rw [← hS3, upI_at, if_pos ⟨rfl, rfl⟩]
      have ecl : (nI k).toNatClampNeg = k := q_cl (by omega)
      simp only [e1 S3 s3, lnA ar29, ecl]
      rw [ck28 s3, ck_t (okA s3.n ar29), if_neg (by rw [q_le (by omega) (by omega)]; omega), ck28 s3]
      have fin : ∀ v : Int32, v = nV (chN tx len) p → ∃ S', (some (upI S3 29 k v) : Option St) = some S' ∧ S'.1 28 2 = nI (nE (chN tx len) p) ∧ S'.1 28 3 = bI (nB (chN tx len) p) ∧ S'.1 28 0 = S.1 28 0 ∧ S'.1 29 k = nV (chN tx len) p ∧ (∀ j, j ≠ k → S'.1 29 j = S.1 29 j) ∧ Ex PO S S' := by
        intro v hv
        refine ⟨_, rfl, ?_, ?_, ?_, ?_, fun j hj => ?_, (x2.tr (x3'.wk (fun x j q => by unfold PO; omega))).upp (Or.inr rfl)⟩
        · rw [upI_at, if_neg (by omega), x3'.2 _ _ (by omega), r2]
          rfl
        · rw [upI_at, if_neg (by omega), g3, hb]
        · rw [upI_at, if_neg (by omega), x3'.2 _ _ (by omega), r0]
        · rw [upI_at, if_pos ⟨rfl, rfl⟩, hv]
        · rw [upI_at, if_neg (by omega), x3'.2 _ _ (by omega), r29]
      by_cases c : chN tx len p = 45
      · rw [if_neg (by rw [h3]; exact fun z => z c), cwA s3.n ar29 hk, vlt_s]
        exact fin _ (by unfold nV; rw [if_pos c])
      · rw [if_pos (by rw [h3]; exact c), cwA s3.n ar29 hk, vlt_s]
        exact fin _ (by unfold nV; rw [if_neg c])
    have hr := rdN_le (chN tx len) 5 (nS (chN tx len) p) 0
    unfold f_X2_readNumber_J94
    by_cases c : nE (chN tx len) p = nS (chN tx len) p
    · have c' : (rdN (chN tx len) 5 (nS (chN tx len) p) 0).1 = nS (chN tx len) p := c
      rw [if_pos (by rw [c', Nat.sub_self]; rfl)]
      exact J true (by unfold nB; rw [decide_eq_true c])
    · have c' : ¬ (rdN (chN tx len) 5 (nS (chN tx len) p) 0).1 = nS (chN tx len) p := c
      rw [if_neg (by rw [L0, q_eq (by omega) (by omega)]; omega)]
      exact J false (by unfold nB; rw [decide_eq_false c])
  have hsg := c_signAt hs ht hc (p := p) (by omega)
  have hle := chN_le ht p
  rw [ck28 hs, ck26 hs, h2, hsg, bnd_s]
  by_cases c : chN tx len p = 45
  · rw [if_pos (by rw [c]; rfl)]
    unfold f_X2_readNumber_J18
    have x1 : Ex (fun x j => x = 28 ∧ j = 2) S (upI S 28 2 (nI (p + 1))) := Ex.up ⟨rfl, rfl⟩
    rw [if_neg (by decide), ck28 hs, ck28 hs, vlt_s, h2, L1, q_add]
    exact J33 _ _ (hs.ex x1) (hc.ex x1 (by omega) (fun j => by omega)) (by rw [upI_at, if_pos ⟨rfl, rfl⟩]; unfold nS; rw [if_pos c]) (by rw [upI_at, if_neg (by omega)]) (x1.wk (fun x j q => by unfold PO; omega)) (fun j => by rw [upI_at, if_neg (by omega)]) (by
      apply propext
      exact ⟨fun z => absurd z (by decide), fun z => absurd c z⟩)
  · rw [if_neg (by rw [show (45 : Int32) = nI 45 from rfl, q_eq (by omega) (by omega)]; exact c)]
    unfold f_X2_readNumber_J18
    rw [if_pos rfl]
    exact J33 S 0 hs hc (by unfold nS; rw [if_neg c]; exact h2) rfl Ex.rf (fun _ => rfl) (by
      apply propext
      exact ⟨fun _ => c, fun _ => rfl⟩)
theorem c_readSign {S : St} (hs : CSh S) {tx : Nat → Int32} {len p c : Nat} (ht : TxO tx len) (hc : TC S tx len) (hp : p < 500) (h1 : c < 127) (h2 : S.1 28 2 = nI p) (h3 : S.1 28 3 = 0) : ∃ S', f_X2_readSign S 28 26 (nI c) = some S' ∧ S'.1 28 2 = nI (sg1 (chN tx len) c (p, false)).1 ∧ S'.1 28 3 = bI (sg1 (chN tx len) c (p, false)).2 ∧ Ex (fun x j => x = 28 ∧ (j = 2 ∨ j = 3)) S S' := by
  have es : sg1 (chN tx len) c (p, false) = if chN tx len p = c then (p + 1, false) else (p, true) := if_neg Bool.false_ne_true
  unfold f_X2_readSign
  have hsg := c_signAt hs ht hc (p := p) (by omega)
  have hle := chN_le ht p
  rw [ck28 hs, ck26 hs, h2, hsg, bnd_s, es]
  by_cases z : chN tx len p = c
  · rw [if_pos (by rw [z]), if_pos z, ck28 hs, ck28 hs, vlt_s, L1, q_add]
    refine ⟨_, rfl, by rw [upI_at, if_pos ⟨rfl, rfl⟩], ?_, Ex.up ⟨rfl, Or.inl rfl⟩⟩
    rw [upI_at, if_neg (by omega), h3]
    rfl
  · rw [if_neg (by rw [q_eq (by omega) (by omega)]; exact z), if_neg z, ck28 hs, vlt_s]
    refine ⟨_, rfl, ?_, ?_, Ex.up ⟨rfl, Or.inr rfl⟩⟩
    · rw [upI_at, if_neg (by omega), h2]
    · rw [upI_at, if_pos ⟨rfl, rfl⟩]
      rfl
