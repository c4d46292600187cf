/-- the scenes: now and the four of the history -/
def Sc (k : Nat) : Prop := k = 5 ∨ k = 44 ∨ k = 64 ∨ k = 84 ∨ k = 104
theorem Sc.kds {k : Nat} (h : Sc k) : kd k = 3 ∧ kd (k + 1) = 10 ∧ ln (k + 1) = 8 ∧ kd (k + 2) = 14 ∧ ln (k + 2) = 4 ∧ kd (k + 3) = 12 ∧ ln (k + 3) = 5 ∧ kd (k + 4) = 10 ∧ ln (k + 4) = 10 ∧ kd (k + 5) = 10 ∧ ln (k + 5) = 10 ∧ (∀ q, q < 4 → _root_.Nat.beq (kdL.getD (k + 6 + q) 99) 5 = true) ∧ (∀ i, i < 5 → _root_.Nat.beq (kdL.getD (k + 10 + 2 * i) 99) 0 = true ∧ _root_.Nat.beq (kdL.getD (k + 11 + 2 * i) 99) 10 = true ∧ _root_.Nat.beq (lnL.getD (k + 11 + 2 * i) 0) 160 = true) ∧ 5 ≤ k ∧ k ≤ 104 := by
  rcases h with rfl | rfl | rfl | rfl | rfl <;> decide +kernel
theorem Sc.thing {k q : Nat} (h : Sc k) (hq : q < 4) : kd (k + 6 + q) = 5 := Nat.eq_of_beq_eq_true (h.kds.2.2.2.2.2.2.2.2.2.2.2.1 q hq)
/-- the frames of a scene -/
def isF (k F : Nat) : Prop := ∃ i, i < 5 ∧ F = k + 10 + 2 * i
theorem isF.kds {k F : Nat} (hk : Sc k) (h : isF k F) : kd F = 0 ∧ kd (F + 1) = 10 ∧ ln (F + 1) = 160 ∧ 15 ≤ F ∧ F < 123 := by
  obtain ⟨i, hi, rfl⟩ := h
  obtain ⟨h1, h2, h3⟩ := hk.kds.2.2.2.2.2.2.2.2.2.2.2.2.1 i hi
  have e : k + 10 + 2 * i + 1 = k + 11 + 2 * i := by omega
  have := hk.kds.2.2.2.2.2.2.2.2.2.2.2.2.2
  refine ⟨Nat.eq_of_beq_eq_true h1, ?_, ?_, by omega, by omega⟩
  · rw [e]; exact Nat.eq_of_beq_eq_true h2
  · rw [e]; exact Nat.eq_of_beq_eq_true h3
/-- a scene's shape -/
def ScSh (S : St) (k : Nat) : Prop := (S.2.1 k 0 = k + 1 ∧ S.2.1 k 1 = k + 2 ∧ S.2.1 k 3 = k + 3 ∧ S.2.1 k 8 = k + 4 ∧ S.2.1 k 9 = k + 5) ∧ (∀ q, q < 4 → S.2.1 (k + 2) q = k + 6 + q) ∧ (∀ F, isF k F → S.2.1 F 2 = F + 1) ∧ (∀ f, f < 5 → isF k (S.2.1 (k + 3) f)) ∧ ∀ f g, f < 5 → g < 5 → S.2.1 (k + 3) f = S.2.1 (k + 3) g → f = g
/-- the class's shape -/
def CSh (S : St) : Prop := S.2.2 = 124 ∧ (S.2.1 4 0 = 5 ∧ S.2.1 4 1 = 25 ∧ S.2.1 4 3 = 26 ∧ S.2.1 4 4 = 30 ∧ S.2.1 4 5 = 35 ∧ S.2.1 4 6 = 41 ∧ S.2.1 4 7 = 43) ∧ (S.2.1 26 0 = 27 ∧ S.2.1 26 2 = 28 ∧ S.2.1 28 1 = 29) ∧ (S.2.1 30 0 = 31 ∧ S.2.1 30 1 = 32 ∧ S.2.1 30 2 = 33 ∧ S.2.1 30 3 = 34) ∧ (S.2.1 35 0 = 36 ∧ S.2.1 35 1 = 37 ∧ S.2.1 35 2 = 38 ∧ S.2.1 35 4 = 39 ∧ S.2.1 35 5 = 40) ∧ S.2.1 41 2 = 42 ∧ (∀ k, Sc k → ScSh S k) ∧ (∀ i, i < 4 → Sc (S.2.1 25 i) ∧ S.2.1 25 i ≠ 5) ∧ ∀ i j, i < 4 → j < 4 → S.2.1 25 i = S.2.1 25 j → i = j
theorem CSh.n {S : St} (h : CSh S) : S.2.2 = 124 := h.1
theorem CSh.sc {S : St} (h : CSh S) {k : Nat} (hk : Sc k) : ScSh S k := h.2.2.2.2.2.2.1 k hk
theorem sc5 : Sc 5 := Or.inl rfl
/-- what is the same but for the places P -/
def Ex (P : Nat → Nat → Prop) (S S' : St) : Prop := S'.2 = S.2 ∧ ∀ k j, ¬ P k j → S'.1 k j = S.1 k j
theorem Ex.rf {P : Nat → Nat → Prop} {S : St} : Ex P S S := ⟨rfl, fun _ _ _ => rfl⟩
theorem Ex.tr {P : Nat → Nat → Prop} {S S1 S2 : St} (h1 : Ex P S S1) (h2 : Ex P S1 S2) : Ex P S S2 := ⟨h2.1.trans h1.1, fun k j h => (h2.2 k j h).trans (h1.2 k j h)⟩
theorem Ex.wk {P Q : Nat → Nat → Prop} {S S' : St} (h : Ex P S S') (hPQ : ∀ k j, P k j → Q k j) : Ex Q S S' := ⟨h.1, fun k j hq => h.2 k j (fun hp => hq (hPQ k j hp))⟩
theorem Ex.up {P : Nat → Nat → Prop} {S : St} {k j : Nat} {v : Int32} (h : P k j) : Ex P S (upI S k j v) := ⟨rfl, fun a b hn => by
  rw [upI_at, if_neg]
  rintro ⟨rfl, rfl⟩
  exact hn h⟩
theorem CSh.ex {P : Nat → Nat → Prop} {S S' : St} (h : CSh S) (he : Ex P S S') : CSh S' := by
  obtain ⟨s1, s2⟩ := S'
  obtain ⟨e, -⟩ := he
  have e' : s2 = S.2 := e
  subst e'
  exact h
theorem okS {S : St} (hn : S.2.2 = 124) {c k : Nat} (hk : kd k = c) (h : k < 124) : okc S c k := ⟨hk, by omega⟩
theorem c_numberIn {S : St} (hn : S.2.2 = 124) {a n i : Nat} (hk : kd a = 10) (ha : a < 124) (hl : ln a = n) (hn2 : n < 2147483648) (hi : i < 2147483648) : f_X7_numberIn S a (nI i) = some (if i < n then S.1 a i else 0) := by
  unfold f_X7_numberIn
  rw [if_neg (by rw [L0, q_lt hi (by omega)]; omega), ck_t (okS hn hk ha)]
  have hl' : Int32.ofNat (ln a) = nI n := congrArg Int32.ofNat hl
  simp only [hl']
  by_cases h : i < n
  · rw [if_neg (by rw [q_le hn2 hi]; omega), ck_t (inaN hn hk hl ha hn2 h), q_cl hi, if_pos h]
  · rw [if_pos (by rw [q_le hn2 hi]; omega), if_neg h]
theorem c_setting {S : St} (h : CSh S) {k j : Nat} (hk : Sc k) (hj : j < 8) : f_X3_setting S k (nI j) = some (S.1 (k + 1) j) := by
  unfold f_X3_setting
  have hd := hk.kds
  have hb := hd.2.2.2.2.2.2.2.2.2.2.2.2.2
  rw [ck_t (okS h.n hd.1 (by omega)), (h.sc hk).1.1, c_numberIn h.n hd.2.1 (by omega) hd.2.2.1 (by omega) (by omega), bnd_s, if_pos hj]
theorem c_thingAt_t {S : St} (h : CSh S) {k q tc : Nat} (hk : Sc k) (htc : S.1 k 2 = nI tc) (h4 : tc ≤ 4) (hq : q < tc) : f_X3_thingAt S k (nI q) = some (k + 6 + q) := by
  unfold f_X3_thingAt
  have hd := hk.kds
  have hb := hd.2.2.2.2.2.2.2.2.2.2.2.2.2
  have ok := okS h.n hd.1 (show k < 124 by omega)
  have ok2 := okS h.n hd.2.2.2.1 (show k + 2 < 124 by omega)
  have hln : ln (k + 2) = 4 := hd.2.2.2.2.1
  rw [if_neg (by rw [L0, q_lt (by omega) (by omega)]; omega), ck_t ok, htc, if_neg (by rw [q_le (by omega) (by omega)]; omega), ck_t ok, (h.sc hk).1.2.1, ck_t ok2, if_neg (by rw [hln]; show ¬ nI 4 ≤ nI q; rw [q_le (by omega) (by omega)]; omega), ck_t ok, ck_t (show ina S 14 (k + 2) (nI q) from ⟨ok2, by rw [L0, q_le (by omega) (by omega)]; omega, by rw [q_cl (by omega), hln]; omega⟩), q_cl (by omega), (h.sc hk).2.1 q (by omega)]
theorem c_thingAt_f {S : St} (h : CSh S) {k tc : Nat} (hk : Sc k) (htc : S.1 k 2 = nI tc) (x : Int32) (hx : ¬ (0 ≤ x ∧ x ≤ nI tc - 1)) (h1 : tc ≤ 4) : f_X3_thingAt S k x = some 0 := by
  unfold f_X3_thingAt
  have hd := hk.kds
  have hb := hd.2.2.2.2.2.2.2.2.2.2.2.2.2
  have ok := okS h.n hd.1 (show k < 124 by omega)
  by_cases h0 : x < 0
  · rw [if_pos h0]
  · rw [if_neg h0, ck_t ok, htc]
    have h0' := Int32.not_lt.mp h0
    by_cases h2 : nI tc ≤ x
    · rw [if_pos h2]
    · exfalso
      apply hx
      refine ⟨h0', ?_⟩
      have h2' := Int32.not_le.mp h2
      rw [iI_nat, show (1 : Int32) = iI 1 from rfl, iI_sub]
      rw [Int32.lt_iff_toInt_lt, q_int (by omega)] at h2'
      rw [Int32.le_iff_toInt_le, iI_int (by omega) (by omega)]
      omega
theorem c_frameAt_t {S : St} (h : CSh S) {k f fc : Nat} (hk : Sc k) (hfc : S.1 k 4 = nI fc) (h5 : fc ≤ 5) (hf : f < fc) : f_X3_frameAt S k (nI f) = some (S.2.1 (k + 3) f) := by
  unfold f_X3_frameAt
  have hd := hk.kds
  have hb := hd.2.2.2.2.2.2.2.2.2.2.2.2.2
  have ok := okS h.n hd.1 (show k < 124 by omega)
  have ok2 := okS h.n hd.2.2.2.2.2.1 (show k + 3 < 124 by omega)
  have hln : ln (k + 3) = 5 := hd.2.2.2.2.2.2.1
  rw [if_neg (by rw [L0, q_lt (by omega) (by omega)]; omega), ck_t ok, hfc, if_neg (by rw [q_le (by omega) (by omega)]; omega), ck_t ok, (h.sc hk).1.2.2.1, ck_t ok2, if_neg (by rw [hln]; show ¬ nI 5 ≤ nI f; rw [q_le (by omega) (by omega)]; omega), ck_t ok, ck_t (show ina S 12 (k + 3) (nI f) from ⟨ok2, by rw [L0, q_le (by omega) (by omega)]; omega, by rw [q_cl (by omega), hln]; omega⟩), q_cl (by omega)]
theorem c_frameAt_f {S : St} (h : CSh S) {k fc : Nat} (hk : Sc k) (hfc : S.1 k 4 = nI fc) (x : Int32) (hx : ¬ (0 ≤ x ∧ x ≤ nI fc - 1)) (h1 : fc ≤ 5) : f_X3_frameAt S k x = some 0 := by
  unfold f_X3_frameAt
  have hd := hk.kds
  have hb := hd.2.2.2.2.2.2.2.2.2.2.2.2.2
  have ok := okS h.n hd.1 (show k < 124 by omega)
  by_cases h0 : x < 0
  · rw [if_pos h0]
  · rw [if_neg h0, ck_t ok, hfc]
    have h0' := Int32.not_lt.mp h0
    by_cases h2 : nI fc ≤ x
    · rw [if_pos h2]
    · exfalso
      apply hx
      refine ⟨h0', ?_⟩
      have h2' := Int32.not_le.mp h2
      rw [iI_nat, show (1 : Int32) = iI 1 from rfl, iI_sub]
      rw [Int32.lt_iff_toInt_lt, q_int (by omega)] at h2'
      rw [Int32.le_iff_toInt_le, iI_int (by omega) (by omega)]
      omega
/-- an index as the model asks for it -/
theorem idx_ex {x : Int32} {n : Nat} (hn : n < 2147483648) (h : 0 ≤ x ∧ x ≤ nI n - 1) : ∃ i, x = nI i ∧ i < n := by
  have h1 := h.1
  have h2 := h.2
  rw [iI_nat, show (1 : Int32) = iI 1 from rfl, iI_sub, Int32.le_iff_toInt_le, iI_int (by omega) (by omega)] at h2
  rw [show (0 : Int32) = iI 0 from rfl, Int32.le_iff_toInt_le, iI_int (by omega) (by omega)] at h1
  refine ⟨x.toInt.toNat, ?_, by omega⟩
  rw [iI_nat]
  have e : ((x.toInt.toNat : Nat) : Int) = x.toInt := by omega
  rw [e]
  exact iI_of x
theorem e_floorDiv {x : Int} (h1 : -2000000000 ≤ x) (h2 : x ≤ 2000000000) : f_J9_floorDiv_7cf53 (iI x) 100 = some (iI (x / 100)) := by
  unfold f_J9_floorDiv_7cf53
  rw [ck_t (by decide)]
  have hx : (iI x).toInt = x := iI_int (by omega) (by omega)
  have hs : (0 : Int32) ≤ (iI x ^^^ 100) ↔ 0 ≤ x := by
    rw [Int32.le_iff_toInt_le]
    show (0 : Int) ≤ (iI x ^^^ 100).toBitVec.toInt ↔ _
    have e1 : ∀ v : BitVec 32, (0 ≤ v.toInt) ↔ v.msb = false := by
      intro v
      rw [BitVec.msb_eq_toInt]
      simp
    have hx2 : (iI x).toBitVec.toInt = x := hx
    rw [e1, Int32.toBitVec_xor, BitVec.msb_xor]
    have e2 := e1 (iI x).toBitVec
    rw [hx2] at e2
    have e3 : (100 : Int32).toBitVec.msb = false := by decide
    rw [e3, Bool.xor_false]
    exact e2.symm
  have htb : -2147483648 ≤ x.tdiv 100 ∧ x.tdiv 100 < 2147483648 := by
    by_cases h0 : 0 ≤ x
    · rw [Int.tdiv_eq_ediv_of_nonneg h0]
      omega
    · have h9 := Int.neg_tdiv (-x) 100
      rw [Int.neg_neg, Int.tdiv_eq_ediv_of_nonneg (show 0 ≤ -x by omega)] at h9
      rw [h9]
      omega
  have hd : (iI x / 100) = iI (x.tdiv 100) := by
    rw [← Int32.toInt_inj, Int32.toInt_div_of_ne_right _ _ (by decide), hx, iI_int htb.1 htb.2]
    rfl
  rw [hd]
  by_cases h0 : 0 ≤ x
  · rw [if_pos (hs.2 h0), Int.tdiv_eq_ediv_of_nonneg h0]
  · rw [if_neg (fun z => h0 (hs.1 z))]
    have ht : x.tdiv 100 = -((-x) / 100) := by
      have h9 := Int.neg_tdiv (-x) 100
      rw [Int.neg_neg, Int.tdiv_eq_ediv_of_nonneg (show 0 ≤ -x by omega)] at h9
      exact h9
    have hm : iI (x.tdiv 100) * 100 = iI (x.tdiv 100 * 100) := by rw [show (100 : Int32) = iI 100 from rfl, iI_mul]
    rw [hm, ht]
    by_cases hz : -((-x) / 100) * 100 = x
    · rw [if_pos (by rw [hz])]
      congr 2
      omega
    · rw [if_neg (by rw [iI_eq (by omega) (by omega) (by omega) (by omega)]; exact hz), show (1 : Int32) = iI 1 from rfl, iI_sub]
      congr 2
      omega
theorem e_max {a b : Int} (h1 : -2147483648 ≤ a) (h2 : a < 2147483648) (h3 : -2147483648 ≤ b) (h4 : b < 2147483648) : f_J9_max_7cf53 (iI a) (iI b) = some (iI (max a b)) := by
  unfold f_J9_max_7cf53
  by_cases h : a < b
  · rw [if_pos (by rw [iI_lt h1 h2 h3 h4]; exact h)]
    congr 2
    omega
  · rw [if_neg (by rw [iI_lt h1 h2 h3 h4]; exact h)]
    congr 2
    omega
theorem e_min {a b : Int} (h1 : -2147483648 ≤ a) (h2 : a < 2147483648) (h3 : -2147483648 ≤ b) (h4 : b < 2147483648) : f_J9_min_7cf53 (iI a) (iI b) = some (iI (min a b)) := by
  unfold f_J9_min_7cf53
  by_cases h : b < a
  · rw [if_pos (by rw [iI_lt h3 h4 h1 h2]; exact h)]
    congr 2
    omega
  · rw [if_neg (by rw [iI_lt h3 h4 h1 h2]; exact h)]
    congr 2
    omega
/-- the columns from lo to hi - 1 -/
theorem rng_bit {lo hi c : Nat} (hl : lo ≤ hi) : ((1 <<< hi) - (1 <<< lo)).testBit c = decide (lo ≤ c ∧ c < hi) := by
  obtain ⟨d, rfl⟩ : ∃ d, hi = lo + d := ⟨hi - lo, by omega⟩
  have e : (1 <<< (lo + d)) - (1 <<< lo) = (2 ^ d - 1) <<< lo := by
    rw [Nat.one_shiftLeft, Nat.one_shiftLeft, Nat.shiftLeft_eq, Nat.sub_mul, Nat.one_mul, Nat.pow_add, Nat.mul_comm]
  rw [e, Nat.testBit_shiftLeft, Nat.testBit_two_pow_sub_one]
  by_cases h : lo ≤ c
  · by_cases h2 : c < lo + d
    · simp [h, h2, show c - lo < d by omega]
    · simp [h, h2, show ¬ c - lo < d by omega]
  · simp [h]
