/-! THE MODEL, READ: what its functions answer about one row w of numbers -/
/-- the model's shape -/
def MSh (S : St) : Prop := S.2.2 = 131 ∧ S.2.1 124 0 = 125 ∧ S.2.1 124 1 = 126 ∧ S.2.1 124 3 = 127 ∧ S.2.1 124 4 = 128 ∧ S.2.1 124 6 = 129 ∧ S.2.1 124 13 = 130
theorem okM {S : St} (h : MSh S) : okc S 8 124 := ⟨rfl, by rw [h.1]; decide⟩
/-- an index within an int array -/
theorem inaN {S : St} (hn : S.2.2 = 131) {a n i : Nat} (hk : kd a = 10) (hl : ln a = n) (ha : a < 131) (hb : n < 2147483648) (hi : i < n) : ina S 10 a (nI i) := by
  refine ⟨⟨hk, by omega⟩, ?_, by rw [q_cl (by omega), hl]; exact hi⟩
  rw [L0, q_le (by omega) (by omega)]; omega
theorem ck125 {β : Type} {S : St} {i : Nat} (hn : S.2.2 = 131) (hi : i < 867) (o : Option β) : chk (ina S 10 125 (nI i)) o = o := ck_t (inaN hn rfl rfl (by decide) (by decide) hi) o
theorem ck127 {β : Type} {S : St} {i : Nat} (hn : S.2.2 = 131) (hi : i < 867) (o : Option β) : chk (ina S 10 127 (nI i)) o = o := ck_t (inaN hn rfl rfl (by decide) (by decide) hi) o
theorem cw125 {β : Type} {S : St} {i : Nat} (hn : S.2.2 = 131) (hi : i < 867) (o : Option β) : chk (inw S 10 125 (nI i)) o = o := ck_t ⟨inaN hn rfl rfl (by decide) (by decide) hi, by decide⟩ o
theorem cw127 {β : Type} {S : St} {i : Nat} (hn : S.2.2 = 131) (hi : i < 867) (o : Option β) : chk (inw S 10 127 (nI i)) o = o := ck_t ⟨inaN hn rfl rfl (by decide) (by decide) hi, by decide⟩ o
/-- an array of the model that holds a state: now or tried -/
def isW (a : Nat) : Prop := a = 125 ∨ a = 127
theorem inW {S : St} (hn : S.2.2 = 131) {a i : Nat} (ha : isW a) (hi : i < 867) : ina S 10 a (nI i) := by
  rcases ha with rfl | rfl <;> exact inaN hn rfl rfl (by decide) (by decide) hi
theorem ckW {β : Type} {S : St} {a i : Nat} (hn : S.2.2 = 131) (ha : isW a) (hi : i < 867) (o : Option β) : chk (ina S 10 a (nI i)) o = o := ck_t (inW hn ha hi) o
theorem cwW {β : Type} {S : St} {a i : Nat} (hn : S.2.2 = 131) (ha : isW a) (hi : i < 867) (o : Option β) : chk (inw S 10 a (nI i)) o = o := ck_t ⟨inW hn ha hi, by rcases ha with rfl | rfl <;> decide⟩ o
theorem ckl {β : Type} {S : St} {a : Nat} (hn : S.2.2 = 131) (ha : isW a) (x : Int32) {i : Nat} (hx : x = nI i) (hi : i < 867) (o : Option β) : chk (ina S 10 a x) o = o := by
  rw [hx]; exact ckW hn ha hi o
theorem cwl {β : Type} {S : St} {a : Nat} (hn : S.2.2 = 131) (ha : isW a) (x : Int32) {i : Nat} (hx : x = nI i) (hi : i < 867) (o : Option β) : chk (inw S 10 a x) o = o := by
  rw [hx]; exact cwW hn ha hi o
/-! what a row of numbers says -/
abbrev Wf : Type := Nat → Int32
def pl (w : Wf) (q : Nat) (t : Int32) : Int32 := w (9 + 6 * q + 2) + w (9 + 6 * q + 3) * t
def dk (w : Wf) (t : Int32) : Prop := w 5 ≠ 0 ∧ t - t / w 5 * w 5 < w 6
def cv (w : Wf) (q r c : Nat) (t : Int32) : Prop := w (9 + 6 * q) ≤ nI r ∧ nI r ≤ w (9 + 6 * q + 1) ∧ pl w q t ≤ nI (100 * c + 50) ∧ nI (100 * c + 50) < pl w q t + w (9 + 6 * q + 4)
def dkb (w : Wf) (t : Int32) : Bool := decide (w 5 ≠ 0) && decide (t - t / w 5 * w 5 < w 6)
def cvb (w : Wf) (q r c : Nat) (t : Int32) : Bool := decide (w (9 + 6 * q) ≤ nI r) && (decide (nI r ≤ w (9 + 6 * q + 1)) && (decide (pl w q t ≤ nI (100 * c + 50)) && decide (nI (100 * c + 50) < pl w q t + w (9 + 6 * q + 4))))
/-- the brightness of the things below the q-th, in a row, in a column, at a time -/
def raw (w : Wf) (r c : Nat) (t : Int32) : Nat → Int32
  | 0 => w 4
  | q + 1 => if cvb w q r c t = true then w (9 + 6 * q + 5) else raw w r c t q
/-- what is shown, with tc things -/
def sh (w : Wf) (tc r c : Nat) (t : Int32) : Int32 := if dkb w t = true then raw w r c t tc * w 7 / 100 else raw w r c t tc
theorem e_isDark {S : St} {a : Nat} (hn : S.2.2 = 131) (ha : isW a) (t : Int32) : f_X8_isDark S a t = some (if dkb (S.1 a) t = true then 1 else 0) := by
  unfold f_X8_isDark dkb
  simp only [C5, C6, ckl hn ha 5 L5 (by decide), ckl hn ha 6 L6 (by decide)]
  by_cases h : S.1 a 5 = 0
  · simp [h]
  · rw [if_neg h, ck_t h]
    by_cases h2 : S.1 a 6 ≤ t - t / S.1 a 5 * S.1 a 5
    · rw [if_pos h2]; simp [h, Int32.not_lt.mpr h2]
    · rw [if_neg h2]; simp [h, Int32.not_le.mp h2]
theorem e_placeAt {S : St} {a q : Nat} (hn : S.2.2 = 131) (ha : isW a) (hq : q < 4) (t : Int32) : f_X8_placeAt S a (nI q) t = some (pl (S.1 a) q t) := by
  unfold f_X8_placeAt pl
  simp only [L9, L6, L2, L3, q_mul, q_add]
  rw [ckW hn ha (by omega), ckW hn ha (by omega), q_cl (by omega), q_cl (by omega)]
theorem e_covers {S : St} {a q r c : Nat} (hn : S.2.2 = 131) (ha : isW a) (hq : q < 4) (t : Int32) : f_X8_covers S a (nI q) (nI r) (nI c) t = some (if cvb (S.1 a) q r c t = true then 1 else 0) := by
  unfold f_X8_covers cvb
  rw [e_placeAt hn ha hq, bnd_s]
  simp only [L9, L6, L1, L4, L100, L50, q_mul, q_add]
  rw [ckW hn ha (by omega), q_cl (by omega)]
  by_cases h1 : nI r < S.1 a (9 + 6 * q)
  · rw [if_pos h1]; simp [Int32.not_le.mpr h1]
  · rw [if_neg h1, ckW hn ha (by omega), q_cl (by omega)]
    have h1' := Int32.not_lt.mp h1
    by_cases h2 : S.1 a (9 + 6 * q + 1) < nI r
    · rw [if_pos h2]; simp [Int32.not_le.mpr h2]
    · rw [if_neg h2]
      have h2' := Int32.not_lt.mp h2
      by_cases h3 : nI (100 * c + 50) < pl (S.1 a) q t
      · rw [if_pos h3]; simp [Int32.not_le.mpr h3]
      · rw [if_neg h3, ckW hn ha (by omega), q_cl (by omega)]
        have h3' := Int32.not_lt.mp h3
        by_cases h4 : pl (S.1 a) q t + S.1 a (9 + 6 * q + 4) ≤ nI (100 * c + 50)
        · rw [if_pos h4]; simp [Int32.not_lt.mpr h4]
        · rw [if_neg h4]; simp [h1', h2', h3', Int32.not_le.mp h4]
theorem l_shown {β : Type} {S : St} {a r c tc : Nat} (hn : S.2.2 = 131) (ha : isW a) (htc : S.1 a 8 = nI tc) (h4 : tc ≤ 4) (t : Int32) (kx : Int32 → Option Int32) : wl2 (f_X8_shown_B8 S a (nI r) (nI c) t kx) FU (S.1 a 4) 0 = kx (raw (S.1 a) r c t tc) := by
  refine wl2_eq (fun q => raw (S.1 a) r c t q) 0 rfl rfl (Nat.zero_le _) (by omega) (fun q k _ hq => ?_) (fun k => ?_)
  · unfold f_X8_shown_B8
    simp only [C8, ckl hn ha 8 L8 (by decide), htc]
    rw [if_neg (by rw [q_le (by omega) (by omega)]; omega), e_covers hn ha (by omega), bnd_s]
    simp only [raw]
    by_cases h : cvb (S.1 a) q r c t = true
    · rw [if_pos h, if_neg (by decide), if_pos h]
      simp only [L9, L6, L5, L1, q_mul, q_add]
      rw [ckW hn ha (by omega), q_cl (by omega), vlt_s]
    · rw [if_neg h, if_pos rfl, if_neg h, L1, q_add]
  · unfold f_X8_shown_B8
    simp only [C8, ckl hn ha 8 L8 (by decide), htc]
    rw [if_pos (Int32.le_refl _)]
theorem e_shown {S : St} {a r c tc : Nat} (hn : S.2.2 = 131) (ha : isW a) (htc : S.1 a 8 = nI tc) (h4 : tc ≤ 4) (t : Int32) : f_X8_shown S a (nI r) (nI c) t = some (sh (S.1 a) tc r c t) := by
  unfold f_X8_shown
  simp only [C4, C7, ckl hn ha 4 L4 (by decide)]
  rw [l_shown (β := Int32) hn ha htc h4, e_isDark hn ha, bnd_s]
  unfold sh
  by_cases h : dkb (S.1 a) t = true
  · rw [if_pos h, if_neg (by decide), if_pos h, ckl hn ha 7 L7 (by decide), ck_t (by decide)]
  · rw [if_neg h, if_pos rfl, if_neg h]
/-! frames -/
def fv1 (w : Wf) (f j : Nat) : Int32 := w (37 + 162 * f + j)
theorem e_frameValue {S : St} (h : MSh S) {f j : Nat} (hf : f < 5) (hj : j < 162) : f_X8_frameValue S 124 (nI f) (nI j) = some (fv1 (S.1 125) f j) := by
  unfold f_X8_frameValue fv1
  rw [ck_t (okM h), h.2.1]
  simp only [L37, L162, q_mul, q_add]
  rw [ck125 h.1 (by omega), q_cl (by omega)]
theorem e_isSeen {S : St} (h : MSh S) {f r fb : Nat} (hf : f < 5) (hr : r < 10) (hfb : fv1 (S.1 125) f 1 = nI fb) (hb : fb < 1024) : f_X8_isSeen S 124 (nI f) (nI r) = some (if fb.testBit r = true then 0 else 1) := by
  unfold f_X8_isSeen
  rw [ck_t (okM h), L1, e_frameValue h hf (by omega), bnd_s, hfb, e_has (by omega) (by omega), bnd_s, ← L1]
  by_cases hh : fb.testBit r = true
  · rw [if_pos hh, if_neg (by decide), if_pos hh]
  · rw [if_neg hh, if_pos rfl, if_neg hh]
theorem e_pixelOf {S : St} (h : MSh S) {f r c : Nat} (hf : f < 5) (hr : r < 10) (hc : c < 16) : f_X8_pixelOf S 124 (nI f) (nI r) (nI c) = some (fv1 (S.1 125) f (2 + 16 * r + c)) := by
  unfold f_X8_pixelOf
  rw [ck_t (okM h)]
  simp only [L2, L16, q_mul, q_add]
  rw [e_frameValue h hf (by omega), bnd_s]
/-- whether two pixels differ by the threshold -/
def dfr (thr x y : Int32) : Bool := decide (thr ≤ x - y) || decide (thr ≤ -(x - y))
theorem dfr_t {thr x y : Int32} : dfr thr x y = true ↔ (thr ≤ x - y ∨ thr ≤ -(x - y)) := by
  simp only [dfr, Bool.or_eq_true, decide_eq_true_eq]
/-- the edges among pixels -/
def edm (thr : Int32) (C : Nat) (p : Nat → Int32) : Nat := mk (fun c => decide (1 ≤ c) && dfr thr (p c) (p (c - 1))) C
def edf (w : Wf) (C f r fb : Nat) : Nat := if fb.testBit r = true then 0 else edm (w 3) C (fun c => fv1 w f (2 + 16 * r + c))
theorem e_isEdge {S : St} (h : MSh S) {f r c C fb : Nat} (hf : f < 5) (hr : r < 10) (hC : S.1 125 1 = nI C) (hC16 : C ≤ 16) (hfb : fv1 (S.1 125) f 1 = nI fb) (hb : fb < 1024) (h1 : 1 ≤ c) (hc : c < C) : f_X8_isEdge S 124 (nI f) (nI r) (nI c) = some (if fb.testBit r = false ∧ dfr (S.1 125 3) (fv1 (S.1 125) f (2 + 16 * r + c)) (fv1 (S.1 125) f (2 + 16 * r + (c - 1))) = true then 1 else 0) := by
  unfold f_X8_isEdge
  rw [ck_t (okM h), e_isSeen h hf hr hfb hb, bnd_s]
  by_cases hh : fb.testBit r = true
  · rw [if_pos hh, if_pos rfl, if_neg (by simp [hh])]
  · have hh' : fb.testBit r = false := by simpa using hh
    rw [if_neg hh, if_neg (by decide), ck_t (okM h), h.2.1]
    simp only [C1, C3, ckl h.1 (Or.inl rfl) 1 L1 (by decide), ckl h.1 (Or.inl rfl) 3 L3 (by decide), hC]
    rw [L1, q_sub (by omega), e_in_t ((q_rng (by omega) (by omega) (by omega)).2 (by omega)), bnd_s, if_neg (by decide), ck_t (okM h), e_pixelOf h hf hr (by omega), bnd_s, ck_t (okM h), q_sub h1, e_pixelOf h hf hr (by omega), bnd_s, ck_t (okM h)]
    by_cases h3 : S.1 125 3 ≤ fv1 (S.1 125) f (2 + 16 * r + c) - fv1 (S.1 125) f (2 + 16 * r + (c - 1))
    · rw [if_pos h3, if_pos ⟨hh', dfr_t.2 (Or.inl h3)⟩]
    · rw [if_neg h3, ck_t (okM h)]
      by_cases h5 : -(fv1 (S.1 125) f (2 + 16 * r + c) - fv1 (S.1 125) f (2 + 16 * r + (c - 1))) < S.1 125 3
      · rw [if_pos h5, if_neg (fun q => (dfr_t.1 q.2).elim h3 (fun z => Int32.not_le.mpr h5 z))]
      · rw [if_neg h5, if_pos ⟨hh', dfr_t.2 (Or.inr (Int32.not_lt.mp h5))⟩]
theorem mk_succ (P : Nat → Bool) (n : Nat) : mk P (n + 1) = mk P n ||| (if P n = true then 1 <<< n else 0) := rfl
theorem e_edgesIn {S : St} (h : MSh S) {f r C fb : Nat} (hf : f < 5) (hr : r < 10) (hC : S.1 125 1 = nI C) (hC1 : 1 ≤ C) (hC16 : C ≤ 16) (hfb : fv1 (S.1 125) f 1 = nI fb) (hb : fb < 1024) : f_X8_edgesIn S 124 (nI f) (nI r) = some (nI (edf (S.1 125) C f r fb)) := by
  unfold f_X8_edgesIn
  refine Eq.trans (wl2_eq (kx := fun y => some y) (n := C) (fun i => nI (mk (fun c => decide (1 ≤ c) && (decide (fb.testBit r = false) && dfr (S.1 125 3) (fv1 (S.1 125) f (2 + 16 * r + c)) (fv1 (S.1 125) f (2 + 16 * r + (c - 1))))) i)) 1 (by simp [mk]; rfl) rfl hC1 (by omega) (fun c k h1 hc => by
    unfold f_X8_edgesIn_B5
    rw [ck_t (okM h), h.2.1]
    simp only [C1, ckl h.1 (Or.inl rfl) 1 L1 (by decide), hC]
    rw [if_neg (by rw [q_le (by omega) (by omega)]; omega), ck_t (okM h), e_isEdge h hf hr hC hC16 hfb hb h1 hc, bnd_s, mk_succ]
    by_cases hh : fb.testBit r = false ∧ dfr (S.1 125 3) (fv1 (S.1 125) f (2 + 16 * r + c)) (fv1 (S.1 125) f (2 + 16 * r + (c - 1))) = true
    · rw [if_pos hh, if_neg (by decide), if_pos (by simp [h1, hh.1, hh.2]), L1, q_add, q_shl 1 (by omega), q_or]
    · rw [if_neg hh, if_pos rfl, if_neg (by intro q; simp at q; exact hh ⟨by simpa using q.2.1, q.2.2⟩), L0, q_or, L1, q_add]) (fun k => by
    unfold f_X8_edgesIn_B5
    rw [ck_t (okM h), h.2.1]
    simp only [C1, ckl h.1 (Or.inl rfl) 1 L1 (by decide), hC]
    rw [if_pos (Int32.le_refl _)])) ?_
  · congr 2
    unfold edf edm
    by_cases hh : fb.testBit r = true
    · rw [if_pos hh]
      apply Nat.eq_of_testBit_eq
      intro i
      rw [mk_bit, hh, Nat.zero_testBit]
      simp
    · rw [if_neg hh]
      have hh' : fb.testBit r = false := by simpa using hh
      exact mk_ext (fun i _ => by simp [hh'])
