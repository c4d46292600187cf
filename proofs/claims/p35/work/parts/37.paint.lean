/-- an int array of the program's own -/
def Ar (a n : Nat) : Prop := kd a = 10 ∧ ln a = n ∧ 4 ≤ a ∧ a < 124 ∧ n < 5000
theorem okA {S : St} (hn : S.2.2 = 124) {a n : Nat} (h : Ar a n) : okc S 10 a := okS hn h.1 h.2.2.2.1
theorem lnA {a n : Nat} (h : Ar a n) : Int32.ofNat (ln a) = nI n := congrArg Int32.ofNat h.2.1
theorem ckA {β : Type} {S : St} (hn : S.2.2 = 124) {a n i : Nat} (h : Ar a n) (hi : i < n) (o : Option β) : chk (ina S 10 a (nI i)) o = o := ck_t (inaN hn h.1 h.2.1 h.2.2.2.1 (by have := h.2.2.2.2; omega) hi) o
theorem cwA {β : Type} {S : St} (hn : S.2.2 = 124) {a n i : Nat} (h : Ar a n) (hi : i < n) (o : Option β) : chk (inw S 10 a (nI i)) o = o := ck_t ⟨inaN hn h.1 h.2.1 h.2.2.2.1 (by have := h.2.2.2.2; omega) hi, h.2.2.1⟩ o
/-- a line of 16 -/
def isL (a : Nat) : Prop := a = 39 ∨ a = 40 ∨ a = 43
theorem isL.ar {a : Nat} (h : isL a) : Ar a 16 := by
  rcases h with rfl | rfl | rfl <;> exact ⟨rfl, rfl, by decide, by decide, by decide⟩
theorem isL.ne {a k : Nat} (h : isL a) (hk : Sc k) : (∀ d, d ≤ 19 → k + d ≠ a) := by
  intro d hd
  rcases h with rfl | rfl | rfl <;> rcases hk with rfl | rfl | rfl | rfl | rfl <;> omega
theorem Ex.n {P : Nat → Nat → Prop} {S S' : St} (h : Ex P S S') : S'.2.2 = S.2.2 := by rw [h.1]
theorem Ex.r {P : Nat → Nat → Prop} {S S' : St} (h : Ex P S S') : S'.2.1 = S.2.1 := by rw [h.1]
theorem Ex.k {a : Nat} {S S' : St} (h : Ex (fun k _ => k = a) S S') {k j : Nat} (hk : k ≠ a) : S'.1 k j = S.1 k j := h.2 k j hk
def cmL (P : Int) : Nat := (max 0 (min 16 ((P + 49) / 100))).toNat
def ccm (P W : Int) : Nat := (1 <<< cmL (P + W)) - (1 <<< cmL P)
theorem cmL_le (P : Int) : cmL P ≤ 16 := by unfold cmL; omega
theorem cmL_mono {P Q : Int} (h : P ≤ Q) : cmL P ≤ cmL Q := by unfold cmL; omega
theorem ccm_bit {P W : Int} (hW : 0 ≤ W) {c : Nat} (hc : c < 16) : (ccm P W).testBit c = decide (P ≤ 100 * c + 50 ∧ 100 * c + 50 < P + W) := by
  unfold ccm
  rw [rng_bit (cmL_mono (by omega))]
  have : (cmL P ≤ c ∧ c < cmL (P + W)) ↔ (P ≤ 100 * c + 50 ∧ 100 * c + 50 < P + W) := by unfold cmL; omega
  simp only [this]
theorem ccm_lt (P W : Int) : ccm P W < 131072 := by
  have h1 : 1 <<< cmL (P + W) ≤ 1 <<< 16 := by
    rw [Nat.one_shiftLeft, Nat.one_shiftLeft]
    exact Nat.pow_le_pow_right (by omega) (cmL_le _)
  exact Nat.lt_of_le_of_lt (Nat.le_trans (Nat.sub_le _ _) h1) (by decide)
theorem e_columnsCovered {P W : Int} (h1 : -1000000000 ≤ P) (h2 : P ≤ 900000000) (h3 : 0 ≤ W) (h4 : W ≤ 100000000) : f_X7_columnsCovered (iI P) (iI W) = some (nI (ccm P W)) := by
  unfold f_X7_columnsCovered
  have e1 : iI (max 0 (min 16 ((P + 49) / 100))) = nI (cmL P) := by
    rw [iI_nat]; congr 1; unfold cmL; omega
  have e2 : iI (max 0 (min 16 ((P + W + 49) / 100))) = nI (cmL (P + W)) := by
    rw [iI_nat]; congr 1; unfold cmL; omega
  rw [show (49 : Int32) = iI 49 from rfl, show (16 : Int32) = iI 16 from rfl, show (0 : Int32) = iI 0 from rfl, iI_add, iI_add, iI_add]
  rw [e_floorDiv (by omega) (by omega), bnd_s, e_min (by omega) (by omega) (by omega) (by omega), bnd_s, e_max (by omega) (by omega) (by omega) (by omega), bnd_s, e_floorDiv (by omega) (by omega), bnd_s, e_min (by omega) (by omega) (by omega) (by omega), bnd_s, e_max (by omega) (by omega) (by omega) (by omega), bnd_s, e1, e2]
  have b1 := cmL_le P
  have b2 := cmL_le (P + W)
  rw [L1, q_shl 1 (by omega), q_shl 1 (by omega), q_sub]
  · rfl
  · rw [Nat.one_shiftLeft, Nat.one_shiftLeft]
    exact Nat.pow_le_pow_right (by omega) (cmL_mono (by omega))
theorem e_dimmed (a b : Int32) : f_X7_dimmed a b = some (a * b / 100) := by
  unfold f_X7_dimmed
  rw [ck_t (by decide)]
theorem e_paintOver {S : St} (hn : S.2.2 = 124) {k a m : Nat} (ha : isL a) (hm : m < 2147483648) (v : Int32) : ∃ S', f_X3_paintOver S k a (nI m) v = some S' ∧ Ex (fun x _ => x = a) S S' ∧ ∀ c, c < 16 → S'.1 a c = if m.testBit c = true then v else S.1 a c := by
  unfold f_X3_paintOver
  have hA := ha.ar
  obtain ⟨S', h1, h2⟩ := wl2_inv (F := f_X3_paintOver_B3 a (nI m) v (fun S_3 => some S_3)) (kx := fun S_3 => some S_3) (n := 16) (fun i S' => Ex (fun x _ => x = a) S S' ∧ ∀ c, c < 16 → S'.1 a c = if c < i ∧ m.testBit c = true then v else S.1 a c) (fun i S1 kk hi hP => by
    unfold f_X3_paintOver_B3
    have hn1 : S1.2.2 = 124 := by rw [hP.1.n, hn]
    simp only [lnA hA]
    rw [ck_t (okA hn1 hA), if_neg (by rw [q_le (by omega) (by omega)]; omega), e_holds hm (by omega), bnd_s]
    by_cases hb : m.testBit i = true
    · rw [if_pos hb, if_neg (by decide), cwA hn1 hA hi, q_cl (by omega), vlt_s, L1, q_add]
      refine ⟨_, ⟨hP.1.tr (Ex.up rfl), fun c hc => ?_⟩, rfl⟩
      rw [upI_at]
      by_cases hci : c = i
      · subst hci
        rw [if_pos ⟨rfl, rfl⟩, if_pos ⟨by omega, hb⟩]
      · rw [if_neg (by omega), hP.2 c hc]
        have : (c < i + 1 ∧ m.testBit c = true) = (c < i ∧ m.testBit c = true) := by
          apply propext
          constructor
          · rintro ⟨q1, q2⟩; exact ⟨by omega, q2⟩
          · rintro ⟨q1, q2⟩; exact ⟨by omega, q2⟩
        simp only [this]
    · rw [if_neg hb, if_pos rfl, L1, q_add]
      refine ⟨S1, ⟨hP.1, fun c hc => ?_⟩, rfl⟩
      rw [hP.2 c hc]
      have : (c < i + 1 ∧ m.testBit c = true) = (c < i ∧ m.testBit c = true) := by
        apply propext
        constructor
        · rintro ⟨q1, q2⟩
          refine ⟨?_, q2⟩
          rcases Nat.lt_or_ge c i with q | q
          · exact q
          · exfalso
            have : c = i := by omega
            subst this
            exact hb q2
        · rintro ⟨q1, q2⟩; exact ⟨by omega, q2⟩
      simp only [this]) (fun S1 kk hP => by
    unfold f_X3_paintOver_B3
    have hn1 : S1.2.2 = 124 := by rw [hP.1.n, hn]
    simp only [lnA hA]
    rw [ck_t (okA hn1 hA), if_pos (by rw [q_le (by omega) (by omega)]; omega)]) 16 0 FU S rfl (by decide) ⟨Ex.rf, fun c _ => by rw [if_neg (by omega)]⟩
  refine ⟨S', h2, h1.1, fun c hc => ?_⟩
  rw [h1.2 c hc]
  simp only [hc, true_and]
def RT (S : St) (k : Nat) (w : Wf) (tc : Nat) : Prop := (∀ j, j < 8 → S.1 (k + 1) j = w j) ∧ tc ≤ 4 ∧ S.1 k 2 = nI tc ∧ ∀ q, q < tc → ∀ j, j < 6 → S.1 (k + 6 + q) j = w (9 + 6 * q + j)
theorem RT.ex {a : Nat} {S S' : St} {k tc : Nat} {w : Wf} (h : RT S k w tc) (he : Ex (fun x _ => x = a) S S') (hd : ∀ d, d ≤ 19 → k + d ≠ a) : RT S' k w tc := by
  refine ⟨fun j hj => ?_, h.2.1, ?_, fun q hq j hj => ?_⟩
  · rw [he.k (hd 1 (by omega))]; exact h.1 j hj
  · rw [he.k (show k ≠ a from hd 0 (by omega))]; exact h.2.2.1
  · have := h.2.1
    rw [he.k (by have := hd (6 + q) (by omega); omega)]; exact h.2.2.2 q hq j hj
/-- nothing wraps around -/
def B1 (w : Wf) (q : Nat) (t : Int32) : Prop := -100000000 ≤ (pl w q t).toInt ∧ (pl w q t).toInt ≤ 100000000 ∧ 0 ≤ (w (9 + 6 * q + 4)).toInt ∧ (w (9 + 6 * q + 4)).toInt ≤ 100000
def BT (w : Wf) (tc : Nat) (t : Int32) : Prop := ∀ q, q < tc → B1 w q t
theorem c_covered {w : Wf} {q : Nat} {t : Int32} (h : B1 w q t) : f_X7_columnsCovered (pl w q t) (w (9 + 6 * q + 4)) = some (nI (ccm (pl w q t).toInt (w (9 + 6 * q + 4)).toInt)) := by
  obtain ⟨h1, h2, h3, h4⟩ := h
  have := e_columnsCovered (P := (pl w q t).toInt) (W := (w (9 + 6 * q + 4)).toInt) (by omega) (by omega) h3 (by omega)
  rw [← iI_of, ← iI_of] at this
  exact this
theorem cov_bit {w : Wf} {q c : Nat} {t : Int32} (h : B1 w q t) (hc : c < 16) : (ccm (pl w q t).toInt (w (9 + 6 * q + 4)).toInt).testBit c = (decide (pl w q t ≤ nI (100 * c + 50)) && decide (nI (100 * c + 50) < pl w q t + w (9 + 6 * q + 4))) := by
  obtain ⟨h1, h2, h3, h4⟩ := h
  rw [ccm_bit h3 hc]
  have e1 : pl w q t ≤ nI (100 * c + 50) ↔ (pl w q t).toInt ≤ 100 * c + 50 := by
    rw [Int32.le_iff_toInt_le, q_int (by omega)]
    omega
  have e2 : nI (100 * c + 50) < pl w q t + w (9 + 6 * q + 4) ↔ (100 * c + 50 : Int) < (pl w q t).toInt + (w (9 + 6 * q + 4)).toInt := by
    have : pl w q t + w (9 + 6 * q + 4) = iI ((pl w q t).toInt + (w (9 + 6 * q + 4)).toInt) := by
      rw [← iI_add, ← iI_of, ← iI_of]
    rw [this, Int32.lt_iff_toInt_lt, q_int (by omega), iI_int (by omega) (by omega)]
    omega
  simp only [e1, e2]
  rw [← Bool.decide_and]
/-- as raw, but that the x-th thing covers the columns of m -/
def rawx (w : Wf) (x : Int32) (m r c : Nat) (t : Int32) : Nat → Int32
  | 0 => w 4
  | q + 1 => if (decide (w (9 + 6 * q) ≤ nI r) && (decide (nI r ≤ w (9 + 6 * q + 1)) && (if nI q = x then m.testBit c else (decide (pl w q t ≤ nI (100 * c + 50)) && decide (nI (100 * c + 50) < pl w q t + w (9 + 6 * q + 4)))))) = true then w (9 + 6 * q + 5) else rawx w x m r c t q
theorem rawx_raw {w : Wf} {x : Int32} {m r c : Nat} {t : Int32} : ∀ {tc : Nat}, (∀ q, q < tc → nI q ≠ x) → rawx w x m r c t tc = raw w r c t tc
  | 0, _ => rfl
  | q + 1, h => by
    unfold rawx raw cvb
    rw [rawx_raw (fun i hi => h i (by omega)), if_neg (h q (by omega))]
theorem rawx_s (w : Wf) (x : Int32) (m r c : Nat) (t : Int32) (q : Nat) : rawx w x m r c t (q + 1) = if (decide (w (9 + 6 * q) ≤ nI r) && (decide (nI r ≤ w (9 + 6 * q + 1)) && (if nI q = x then m.testBit c else (decide (pl w q t ≤ nI (100 * c + 50)) && decide (nI (100 * c + 50) < pl w q t + w (9 + 6 * q + 4)))))) = true then w (9 + 6 * q + 5) else rawx w x m r c t q := rfl
def BX (w : Wf) (tc : Nat) (x : Int32) (t : Int32) : Prop := ∀ q, q < tc → nI q ≠ x → B1 w q t
theorem e_paint {S : St} (h : CSh S) {k a r tc m : Nat} {w : Wf} {x t : Int32} (hk : Sc k) (ha : isL a) (hr : r < 10) (hw : RT S k w tc) (hb : BX w tc x t) (hm : m < 2147483648) : ∃ S', f_X3_paint S k (nI r) t x (nI m) a = some S' ∧ Ex (fun z _ => z = a) S S' ∧ ∀ c, c < 16 → S'.1 a c = rawx w x m r c t tc := by
  unfold f_X3_paint
  have hA := ha.ar
  have hd := hk.kds
  have hbd := hd.2.2.2.2.2.2.2.2.2.2.2.2.2
  have h4 := hw.2.1
  rw [ck_t (okS h.n hd.1 (by omega)), L4, c_setting h hk (by omega), bnd_s, hw.1 4 (by omega)]
  obtain ⟨S1, p1, e1⟩ := wl2_inv (F := f_X3_paint_B10 k (nI r) t x (nI m) a (w 4) (fun S_3 => wl2 (f_X3_paint_B34 k (nI r) t x (nI m) a (fun S_9 => some S_9)) FU S_3 0)) (kx := fun S_3 => wl2 (f_X3_paint_B34 k (nI r) t x (nI m) a (fun S_9 => some S_9)) FU S_3 0) (n := 16) (fun i S' => Ex (fun z _ => z = a) S S' ∧ ∀ c, c < i → S'.1 a c = w 4) (fun i S1 kk hi hP => by
    unfold f_X3_paint_B10
    have hn1 : S1.2.2 = 124 := by rw [hP.1.n, h.n]
    simp only [lnA hA]
    rw [ck_t (okA hn1 hA), if_neg (by rw [q_le (by omega) (by omega)]; omega), cwA hn1 hA hi, q_cl (by omega), vlt_s, L1, q_add]
    refine ⟨_, ⟨hP.1.tr (Ex.up rfl), fun c hc => ?_⟩, rfl⟩
    rw [upI_at]
    by_cases hci : c = i
    · subst hci
      rw [if_pos ⟨rfl, rfl⟩]
    · rw [if_neg (by omega), hP.2 c (by omega)]) (fun S1 kk hP => by
    unfold f_X3_paint_B10
    have hn1 : S1.2.2 = 124 := by rw [hP.1.n, h.n]
    simp only [lnA hA]
    rw [ck_t (okA hn1 hA), if_pos (by rw [q_le (by omega) (by omega)]; omega)]) 16 0 FU S rfl (by decide) ⟨Ex.rf, fun c hc => by omega⟩
  refine Exists.elim (wl2_inv (F := f_X3_paint_B34 k (nI r) t x (nI m) a (fun S_9 => some S_9)) (kx := fun S_9 => some S_9) (n := tc) (fun q S' => Ex (fun z _ => z = a) S S' ∧ ∀ c, c < 16 → S'.1 a c = rawx w x m r c t q) (fun q S2 kk hq hP => ?_) (fun S2 kk hP => ?_) tc 0 FU S1 (by omega) (by show tc < 1000000; omega) ⟨p1.1, p1.2⟩) (fun S' q => ⟨S', e1.trans q.2, q.1.1, q.1.2⟩)
  · have hc2 := h.ex hP.1
    have hw2 := hw.ex hP.1 (ha.ne hk)
    unfold f_X3_paint_B34
    have ok3 : okc S2 3 k := okS hc2.n hd.1 (by omega)
    have okq : okc S2 5 (k + 6 + q) := okS hc2.n (hk.thing (by omega)) (by omega)
    rw [ck_t ok3, hw2.2.2.1, if_neg (by rw [q_le (by omega) (by omega)]; omega), ck_t ok3, c_thingAt_t hc2 hk hw2.2.2.1 h4 hq, bnd_s, if_neg (by omega), ck_t okq]
    have t0 : S2.1 (k + 6 + q) 0 = w (9 + 6 * q) := hw2.2.2.2 q hq 0 (by omega)
    have t1 := hw2.2.2.2 q hq 1 (by omega)
    have t2 := hw2.2.2.2 q hq 2 (by omega)
    have t3 := hw2.2.2.2 q hq 3 (by omega)
    have t4 := hw2.2.2.2 q hq 4 (by omega)
    have t5 := hw2.2.2.2 q hq 5 (by omega)
    have eI : f_X5_isIn S2 (k + 6 + q) (nI r) = some (if w (9 + 6 * q) ≤ nI r ∧ nI r ≤ w (9 + 6 * q + 1) then 1 else 0) := by
      unfold f_X5_isIn
      rw [ck_t okq, t0, ck_t okq, t1]
      by_cases z1 : nI r < w (9 + 6 * q)
      · rw [if_pos z1, if_neg (fun z => Int32.not_lt.mpr z.1 z1)]
      · rw [if_neg z1]
        by_cases z2 : w (9 + 6 * q + 1) < nI r
        · rw [if_pos z2, if_neg (fun z => Int32.not_lt.mpr z.2 z2)]
        · rw [if_neg z2, if_pos ⟨Int32.not_lt.mp z1, Int32.not_lt.mp z2⟩]
    rw [eI, bnd_s]
    by_cases hin : w (9 + 6 * q) ≤ nI r ∧ nI r ≤ w (9 + 6 * q + 1)
    · rw [if_pos hin, if_neg (by decide)]
      have hJ : ∀ m2, m2 < 2147483648 → (∀ c, c < 16 → m2.testBit c = (if nI q = x then m.testBit c else (decide (pl w q t ≤ nI (100 * c + 50)) && decide (nI (100 * c + 50) < pl w q t + w (9 + 6 * q + 4))))) → ∃ a', (Ex (fun z _ => z = a) S a' ∧ ∀ c, c < 16 → a'.1 a c = rawx w x m r c t (q + 1)) ∧ f_X3_paint_J90 S2 k (nI r) t x (nI m) a (fun S_9 => some S_9) kk (nI q) (k + 6 + q) (nI m2) = kk a' (nI (q + 1)) := by
        intro m2 hm2 hbit
        unfold f_X3_paint_J90
        obtain ⟨S3, g1, g2, g3⟩ := e_paintOver hc2.n (k := k) ha hm2 (S2.1 (k + 6 + q) 5)
        rw [ck_t okq, ck_t ok3, g1, bnd_s, L1, q_add]
        refine ⟨S3, ⟨hP.1.tr g2, fun c hc => ?_⟩, rfl⟩
        rw [g3 c hc, hbit c hc, hP.2 c hc, t5]
        rw [rawx_s, decide_eq_true hin.1, decide_eq_true hin.2, Bool.true_and, Bool.true_and]
      by_cases hx : nI q = x
      · rw [if_pos hx]
        exact hJ m hm (fun c _ => by rw [if_pos hx])
      · rw [if_neg hx, ck_t okq]
        have eP : f_X5_positionAt S2 (k + 6 + q) t = some (pl w q t) := by
          unfold f_X5_positionAt pl
          rw [ck_t okq, ck_t okq, t2, t3]
        have hbq := hb q hq hx
        rw [eP, bnd_s, ck_t okq, t4, c_covered hbq, bnd_s]
        exact hJ _ (Nat.lt_trans (ccm_lt _ _) (by decide)) (fun c hc => by rw [if_neg hx]; exact cov_bit hbq hc)
    · rw [if_neg hin, if_pos rfl, L1, q_add]
      refine ⟨S2, ⟨hP.1, fun c hc => ?_⟩, rfl⟩
      rw [hP.2 c hc]
      have hf : (decide (w (9 + 6 * q) ≤ nI r) && (decide (nI r ≤ w (9 + 6 * q + 1)) && (if nI q = x then m.testBit c else (decide (pl w q t ≤ nI (100 * c + 50)) && decide (nI (100 * c + 50) < pl w q t + w (9 + 6 * q + 4)))))) = false := by
        by_cases z1 : w (9 + 6 * q) ≤ nI r
        · have z2 : ¬ nI r ≤ w (9 + 6 * q + 1) := fun z => hin ⟨z1, z⟩
          rw [decide_eq_false z2, Bool.false_and, Bool.and_false]
        · rw [decide_eq_false z1, Bool.false_and]
      rw [rawx_s, hf, if_neg (by decide)]
  · have hc2 := h.ex hP.1
    have hw2 := hw.ex hP.1 (ha.ne hk)
    unfold f_X3_paint_B34
    rw [ck_t (okS hc2.n hd.1 (by omega)), hw2.2.2.1, if_pos (Int32.le_refl _)]

