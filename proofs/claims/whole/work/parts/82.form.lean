/-! AN ORDER, READ by the model -/
def TM (S : St) (tx : Nat → Int32) (len : Nat) : Prop := S.1 124 5 = nI len ∧ ∀ j, j < len → S.1 128 j = tx j
def PQ : Nat → Nat → Prop := fun x j => (x = 124 ∧ 12 ≤ j ∧ j ≤ 14) ∨ x = 130
theorem TM.ex {P : Nat → Nat → Prop} {S S' : St} {tx : Nat → Int32} {len : Nat} (h : TM S tx len) (he : Ex P S S') (h1 : ¬ P 124 5) (h2 : ∀ j, ¬ P 128 j) : TM S' tx len := ⟨(he.2 _ _ h1).trans h.1, fun j hj => (he.2 _ _ (h2 j)).trans (h.2 j hj)⟩
theorem TM.pq {S S' : St} {tx : Nat → Int32} {len : Nat} (h : TM S tx len) (he : Ex PQ S S') : TM S' tx len := h.ex he (by unfold PQ; omega) (fun j => by unfold PQ; omega)
/-- the sign at a place as the model sees it -/
def lkM (ch : Tx) (len p : Nat) : Int32 := if p < len then nI (ch p) else -1000000
theorem no_m {n : Nat} (h : n < 2147483648) : ¬ nI n = (-1000000 : Int32) := fun e => by
  have := congrArg Int32.toInt e
  rw [q_int h] at this
  have e2 : (-1000000 : Int32).toInt = -1000000 := by decide
  omega
theorem lk_eq {tx : Nat → Int32} {len p c : Nat} (ht : TxO tx len) (h1 : 1 ≤ c) (h2 : c ≤ 126) : (lkM (chN tx len) len p = nI c) = (chN tx len p = c) := by
  unfold lkM
  apply propext
  have hle := chN_le ht p
  by_cases z : p < len
  · rw [if_pos z, q_eq (by omega) (by omega)]
  · rw [if_neg z, chN_out (by omega)]
    constructor
    · intro e
      exact absurd e.symm (no_m (by omega))
    · intro e
      omega
theorem e_look {S : St} (hm : MSh S) {tx : Nat → Int32} {len p : Nat} (ht : TxO tx len) (hc : TM S tx len) (hp : p < 1000) (h : S.1 124 12 = nI p) : f_X8_look S 124 = some (lkM (chN tx len) len p) := by
  unfold f_X8_look lkM
  have e4 : S.2.1 124 4 = 128 := hm.2.2.2.2.1
  have l80 := ht.1
  rw [ck8 hm, ck8 hm, hc.1, h]
  by_cases c : p < len
  · rw [if_neg (by rw [q_le (by omega) (by omega)]; omega), ck8 hm, ck8 hm, e4, ckA hm.1 ar128 (by omega), q_cl (by omega), hc.2 p c, if_pos c, (chN_in ht c).1]
  · rw [if_pos (by rw [q_le (by omega) (by omega)]; omega), if_neg c]
theorem lk_dig {tx : Nat → Int32} {len p : Nat} (ht : TxO tx len) : f_X8_in (lkM (chN tx len) len p) 48 57 = some (bI (isD (chN tx len p))) := by
  rw [e_in]
  congr 1
  unfold bI lkM
  have hle := chN_le ht p
  by_cases z : p < len
  · rw [if_pos z]
    by_cases c : isD (chN tx len p) = true
    · rw [if_pos c, if_pos (by rw [L48, L57, q_le (by omega) (by omega), q_le (by omega) (by omega)]; exact isD_t.mp c)]
    · rw [if_neg c, if_neg (by rw [L48, L57, q_le (by omega) (by omega), q_le (by omega) (by omega)]; exact fun q => c (isD_t.mpr q))]
  · rw [if_neg z, chN_out (by omega), if_neg (by decide), if_neg (by decide)]
def NOM : Int32 := -1000000
theorem l_rdM {tx : Nat → Int32} {len : Nat} (ht : TxO tx len) (a1 a2 : Int32) (f : Nat) (kx : St → Int32 → Option St) : ∀ n fuel (S : St) p v, p + n = f + 5 → f ≤ p → n < fuel → p + n < 900 → MSh S → TM S tx len → S.1 124 12 = nI p → S.1 124 14 = -1000000 → ∃ S', wl2 (f_X8_number_B50 124 a1 a2 (nI f) kx) fuel S (nI v) = kx S' (nI (rdN (chN tx len) n p v).2) ∧ S'.1 124 12 = nI (rdN (chN tx len) n p v).1 ∧ Ex (fun x j => x = 124 ∧ j = 12) S S'
  | n, 0, _, _, _, _, _, h, _, _, _, _, _ => by omega
  | 0, fuel + 1, S, p, v, e, hfp, _, _, hm, hc, h2, h14 => by
    refine ⟨S, ?_, h2, Ex.rf⟩
    show f_X8_number_B50 124 a1 a2 (nI f) kx _ S (nI v) = _
    unfold f_X8_number_B50
    rw [ck8 hm, if_pos h14, ck8 hm, h2, if_pos (by rw [q_sub hfp, L5, q_le (by omega) (by omega)]; omega)]
    rfl
  | n + 1, fuel + 1, S, p, v, e, hfp, h, hp, hm, hc, h2, h14 => by
    show ∃ S', f_X8_number_B50 124 a1 a2 (nI f) kx (wl2 (f_X8_number_B50 124 a1 a2 (nI f) kx) fuel) S (nI v) = _ ∧ _
    generalize hK : wl2 (f_X8_number_B50 124 a1 a2 (nI f) kx) fuel = kk
    unfold f_X8_number_B50
    have hlk := e_look hm ht hc (p := p) (by omega) h2
    have hle := chN_le ht p
    rw [ck8 hm, if_pos h14, ck8 hm, h2, if_neg (by rw [q_sub hfp, L5, q_le (by omega) (by omega)]; omega), ck8 hm, hlk, bnd_s, lk_dig ht, bnd_s, rdN_s]
    by_cases c : isD (chN tx len p) = true
    · obtain ⟨d1, d2⟩ := isD_t.mp c
      have hpl : p < len := by
        rcases Nat.lt_or_ge p len with z | z
        · exact z
        · rw [chN_out z] at d1; omega
      have elk : lkM (chN tx len) len p = nI (chN tx len p) := if_pos hpl
      rw [if_neg (by rw [bI_0, c]; decide), if_pos c, ck8 hm, bnd_s, ck8 hm, ck8 hm, vlt_s, elk, L10, L48, L1, q_mul, q_add, q_add, q_sub (by omega)]
      have x1 : Ex (fun x j => x = 124 ∧ j = 12) S (upI S 124 12 (nI (p + 1))) := Ex.up ⟨rfl, rfl⟩
      obtain ⟨S', g1, g2, g3⟩ := l_rdM ht a1 a2 f kx n fuel (upI S 124 12 (nI (p + 1))) (p + 1) (10 * v + chN tx len p - 48) (by omega) (by omega) (by omega) (by omega) (hm.ex x1) (hc.ex x1 (by omega) (fun j => by omega)) (by rw [upI_at, if_pos ⟨rfl, rfl⟩]) (by rw [upI_at, if_neg (by omega)]; exact h14)
      refine ⟨S', ?_, g2, x1.tr g3⟩
      rw [← hK, g1]
    · rw [if_pos (by rw [bI_0]; simpa using c), if_neg c]
      exact ⟨S, rfl, h2, Ex.rf⟩
theorem MSh.e13 {S : St} (hm : MSh S) : S.2.1 124 13 = 130 := hm.2.2.2.2.2.2
theorem cw130 {S : St} (hm : MSh S) {j : Nat} (hj : j < 6) {β : Type} (o : Option β) : chk (inw S 10 130 (nI j)) o = o := cwA hm.1 ar130 hj o
theorem ck130 {S : St} (hm : MSh S) {j : Nat} (hj : j < 6) {β : Type} (o : Option β) : chk (ina S 10 130 (nI j)) o = o := ckA hm.1 ar130 hj o
/-- the model's place of reading: at s.1, or broken off there -/
def RM (S : St) (s : Nat × Bool) : Prop := S.1 124 12 = nI s.1 ∧ S.1 124 14 = if s.2 = true then nI s.1 else -1000000
theorem e_number {S : St} (hm : MSh S) {tx : Nat → Int32} {len k : Nat} {s : Nat × Bool} (ht : TxO tx len) (hc : TM S tx len) (hp : s.1 < 500) (hk : k < 6) (hr : RM S s) : ∃ S', f_X8_number S 124 (nI k) = some S' ∧ RM S' (nm1 (chN tx len) s) ∧ (s.2 = false → S'.1 130 k = nV (chN tx len) s.1) ∧ (∀ j, j ≠ k → S'.1 130 j = S.1 130 j) ∧ Ex PQ S S' := by
  obtain ⟨h2, h14⟩ := hr
  unfold f_X8_number
  have ecl : (nI k).toNatClampNeg = k := q_cl (by omega)
  cases hs : s.2 with
  | true =>
    rw [hs, if_pos rfl] at h14
    rw [ck8 hm, if_neg (by rw [h14]; exact no_m (by omega))]
    unfold f_X8_number_J22 f_X8_number_J23 f_X8_number_J38
    have hz : nI s.1 + 0 = nI s.1 := by rw [L0, q_add, Nat.add_zero]
    rw [ck8 hm, if_pos rfl, ck8 hm, vlt_s, h2, hz]
    generalize hS1 : upI S 124 12 (nI s.1) = S1
    have x1 : Ex PQ S S1 := by
      rw [← hS1]
      exact Ex.up (Or.inl ⟨rfl, by omega⟩)
    have m1 := hm.ex x1
    have g12 : S1.1 124 12 = nI s.1 := by rw [← hS1, upI_at, if_pos ⟨rfl, rfl⟩]
    have g14 : S1.1 124 14 = nI s.1 := by rw [← hS1, upI_at, if_neg (by omega)]; exact h14
    have k1 : wl2 (f_X8_number_B50 124 (nI k) 0 (S1.1 124 12) (fun (S_7 : St) (y4_6 : Int32) => (f_X8_number_J111 S_7 124 (nI k) 0 (S1.1 124 12) y4_6))) FU S1 0 = f_X8_number_J111 S1 124 (nI k) 0 (S1.1 124 12) 0 := by
      show f_X8_number_B50 124 (nI k) 0 (S1.1 124 12) (fun (S_7 : St) (y4_6 : Int32) => (f_X8_number_J111 S_7 124 (nI k) 0 (S1.1 124 12) y4_6)) (wl2 (f_X8_number_B50 124 (nI k) 0 (S1.1 124 12) (fun (S_7 : St) (y4_6 : Int32) => (f_X8_number_J111 S_7 124 (nI k) 0 (S1.1 124 12) y4_6))) 999999) S1 0 = _
      generalize wl2 (f_X8_number_B50 124 (nI k) 0 (S1.1 124 12) (fun (S_7 : St) (y4_6 : Int32) => (f_X8_number_J111 S_7 124 (nI k) 0 (S1.1 124 12) y4_6))) 999999 = kk
      unfold f_X8_number_B50
      rw [ck8 m1, if_neg (by rw [g14]; exact no_m (by omega))]
    rw [ck8 m1, k1]
    unfold f_X8_number_J111
    rw [ck8 m1, if_neg (by rw [g14]; exact no_m (by omega)), ck8 m1, if_pos rfl, m1.e13, cw130 m1 hk, vlt_s, ecl]
    refine ⟨_, rfl, ?_, (fun h => by cases h), fun j hj => ?_, x1.upp (Or.inr rfl)⟩
    · rw [nm1_b hs]
      refine ⟨?_, ?_⟩
      · rw [upI_at, if_neg (by omega)]
        exact g12
      · rw [upI_at, if_neg (by omega), hs, if_pos rfl]
        exact g14
    · rw [upI_at, if_neg (by omega), ← hS1, upI_at, if_neg (by omega)]
  | false =>
    rw [hs, if_neg (by decide)] at h14
    have hnS := nS_le (chN tx len) s.1
    have hnE := nE_le (chN tx len) s.1
    have hlk := e_look hm ht hc (p := s.1) (by omega) h2
    have e45 : (lkM (chN tx len) len s.1 = 45) = (chN tx len s.1 = 45) := lk_eq (c := 45) ht (by omega) (by omega)
    have J38 : ∀ (a2 t0 : Int32), nI s.1 + t0 = nI (nS (chN tx len) s.1) → ((a2 = 0) = ¬ (chN tx len s.1 = 45)) → ∃ S', f_X8_number_J38 S 124 (nI k) a2 t0 (nI s.1) 124 = some S' ∧ RM S' (nm1 (chN tx len) s) ∧ S'.1 130 k = nV (chN tx len) s.1 ∧ (∀ j, j ≠ k → S'.1 130 j = S.1 130 j) ∧ Ex PQ S S' := by
      intro a2 t0 ht0 ha2
      unfold f_X8_number_J38
      rw [ck8 hm, vlt_s, ht0]
      generalize hS1 : upI S 124 12 (nI (nS (chN tx len) s.1)) = S1
      have x1 : Ex PQ S S1 := by
        rw [← hS1]
        exact Ex.up (Or.inl ⟨rfl, by omega⟩)
      have m1 := hm.ex x1
      have c1 := hc.pq x1
      have g12 : S1.1 124 12 = nI (nS (chN tx len) s.1) := by rw [← hS1, upI_at, if_pos ⟨rfl, rfl⟩]
      have g14 : S1.1 124 14 = -1000000 := by rw [← hS1, upI_at, if_neg (by omega)]; exact h14
      have g130 : ∀ j, S1.1 130 j = S.1 130 j := fun j => by rw [← hS1, upI_at, if_neg (by omega)]
      rw [ck8 m1, g12]
      obtain ⟨S2, r1, r2, r3⟩ := l_rdM ht (nI k) a2 (nS (chN tx len) s.1) (fun (S_7 : St) (y4_6 : Int32) => (f_X8_number_J111 S_7 124 (nI k) a2 (nI (nS (chN tx len) s.1)) y4_6)) 5 FU S1 (nS (chN tx len) s.1) 0 rfl (Nat.le_refl _) (by decide) (by omega) m1 c1 g12 g14
      have m2 := m1.ex r3
      rw [show (0 : Int32) = nI 0 from rfl, r1]
      have r2' : S2.1 124 12 = nI (nE (chN tx len) s.1) := r2
      have r14 : S2.1 124 14 = -1000000 := by rw [r3.2 _ _ (by omega)]; exact g14
      have r130 : ∀ j, S2.1 130 j = S.1 130 j := fun j => by rw [r3.2 _ _ (by omega)]; exact g130 j
      have x2 : Ex PQ S S2 := x1.tr (r3.wk (fun x j q => by unfold PQ; omega))
      have en : nm1 (chN tx len) s = (nE (chN tx len) s.1, nB (chN tx len) s.1) := by
        rw [pr_f hs]
        exact nm1_f _ _
      unfold f_X8_number_J111
      have fin : ∀ (S3 : St), MSh S3 → Ex PQ S S3 → S3.1 124 12 = nI (nE (chN tx len) s.1) → S3.1 124 14 = (if nB (chN tx len) s.1 = true then nI (nE (chN tx len) s.1) else -1000000) → (∀ j, S3.1 130 j = S.1 130 j) → ∃ S', (chk (okc S3 8 124) (if a2 = 0 then (chk (inw S3 10 (S3.2.1 124 13) (nI k)) (vlt (upI S3 (S3.2.1 124 13) (nI k).toNatClampNeg (nI (rdN (chN tx len) 5 (nS (chN tx len) s.1) 0).2)) fun S_13 => (some S_13))) else (chk (inw S3 10 (S3.2.1 124 13) (nI k)) (vlt (upI S3 (S3.2.1 124 13) (nI k).toNatClampNeg (-(nI (rdN (chN tx len) 5 (nS (chN tx len) s.1) 0).2))) fun S_14 => (some S_14)))) : Option St) = some S' ∧ RM S' (nm1 (chN tx len) s) ∧ S'.1 130 k = nV (chN tx len) s.1 ∧ (∀ j, j ≠ k → S'.1 130 j = S.1 130 j) ∧ Ex PQ S S' := by
        intro S3 m3 x3 g3 g4 g5
        rw [ck8 m3, m3.e13]
        simp only [ecl]
        have f2 : ∀ v : Int32, v = nV (chN tx len) s.1 → ∃ S', (some (upI S3 130 k v) : Option St) = some S' ∧ RM S' (nm1 (chN tx len) s) ∧ S'.1 130 k = nV (chN tx len) s.1 ∧ (∀ j, j ≠ k → S'.1 130 j = S.1 130 j) ∧ Ex PQ S S' := by
          intro v hv
          refine ⟨_, rfl, ?_, ?_, fun j hj => ?_, x3.upp (Or.inr rfl)⟩
          · rw [en]
            refine ⟨?_, ?_⟩
            · rw [upI_at, if_neg (by omega)]
              exact g3
            · rw [upI_at, if_neg (by omega)]
              exact g4
          · rw [upI_at, if_pos ⟨rfl, rfl⟩, hv]
          · rw [upI_at, if_neg (by omega)]
            exact g5 j
        by_cases c : chN tx len s.1 = 45
        · rw [if_neg (by rw [ha2]; exact fun z => z c), cw130 m3 hk, vlt_s]
          exact f2 _ (by unfold nV; rw [if_pos c])
        · rw [if_pos (by rw [ha2]; exact c), cw130 m3 hk, vlt_s]
          exact f2 _ (by unfold nV; rw [if_neg c])
      rw [ck8 m2, if_pos r14, ck8 m2, r2']
      by_cases c : nE (chN tx len) s.1 = nS (chN tx len) s.1
      · rw [if_pos (by rw [c]), ck8 m2, ck8 m2, vlt_s]
        have x3 : Ex PQ S2 (upI S2 124 14 (nI (nE (chN tx len) s.1))) := Ex.up (Or.inl ⟨rfl, by omega⟩)
        refine fin _ (m2.ex x3) (x2.tr x3) ?_ ?_ (fun j => ?_)
        · rw [upI_at, if_neg (by omega)]
          exact r2'
        · rw [upI_at, if_pos ⟨rfl, rfl⟩, if_pos (by unfold nB; rw [decide_eq_true c])]
        · rw [upI_at, if_neg (by omega)]
          exact r130 j
      · rw [if_neg (by rw [q_eq (by omega) (by omega)]; exact c)]
        exact fin S2 m2 x2 r2' (by rw [if_neg (by unfold nB; rw [decide_eq_false c]; decide)]; exact r14) r130
    rw [ck8 hm, if_pos h14, ck8 hm, hlk, bnd_s]
    by_cases c : chN tx len s.1 = 45
    · rw [if_pos (by rw [e45]; exact c)]
      unfold f_X8_number_J23
      rw [ck8 hm, if_neg (by decide), h2]
      obtain ⟨S', g1, g2, g3, g4, g5⟩ := J38 1 1 (by unfold nS; rw [if_pos c, L1, q_add]) (by
        apply propext
        exact ⟨fun z => absurd z (by decide), fun z => absurd c z⟩)
      exact ⟨S', g1, g2, fun _ => g3, g4, g5⟩
    · rw [if_neg (by rw [e45]; exact c)]
      unfold f_X8_number_J22 f_X8_number_J23
      rw [ck8 hm, if_pos rfl, h2]
      obtain ⟨S', g1, g2, g3, g4, g5⟩ := J38 0 0 (by unfold nS; rw [if_neg c, L0, q_add, Nat.add_zero]) (by
        apply propext
        exact ⟨fun _ => c, fun _ => rfl⟩)
      exact ⟨S', g1, g2, fun _ => g3, g4, g5⟩
theorem e_sign {S : St} (hm : MSh S) {tx : Nat → Int32} {len c : Nat} {s : Nat × Bool} (ht : TxO tx len) (hc : TM S tx len) (hp : s.1 < 500) (h1 : 1 ≤ c) (h2 : c ≤ 126) (hr : RM S s) : ∃ S', f_X8_sign S 124 (nI c) = some S' ∧ RM S' (sg1 (chN tx len) c s) ∧ Ex (fun x j => x = 124 ∧ 12 ≤ j ∧ j ≤ 14) S S' := by
  obtain ⟨h12, h14⟩ := hr
  unfold f_X8_sign
  cases hs : s.2 with
  | true =>
    rw [hs, if_pos rfl] at h14
    rw [ck8 hm, if_neg (by rw [h14]; exact no_m (by omega)), ck8 hm, if_neg (by rw [h14]; exact no_m (by omega)), sg1_b hs]
    exact ⟨S, rfl, ⟨h12, by rw [hs, if_pos rfl]; exact h14⟩, Ex.rf⟩
  | false =>
    rw [hs, if_neg (by decide)] at h14
    have hlk := e_look hm ht hc (p := s.1) (by omega) h12
    have es : sg1 (chN tx len) c s = if chN tx len s.1 = c then (s.1 + 1, false) else (s.1, true) := by
      rw [pr_f hs]
      exact sg1_f _ _ _
    rw [ck8 hm, if_pos h14, ck8 hm, hlk, bnd_s, es]
    by_cases z : chN tx len s.1 = c
    · rw [if_pos (by rw [lk_eq ht h1 h2]; exact z), if_pos z, ck8 hm, ck8 hm, vlt_s, h12, L1, q_add]
      refine ⟨_, rfl, ⟨?_, ?_⟩, Ex.up ⟨rfl, by omega⟩⟩
      · rw [upI_at, if_pos ⟨rfl, rfl⟩]
      · rw [upI_at, if_neg (by omega)]
        exact h14
    · rw [if_neg (by rw [lk_eq ht h1 h2]; exact z), if_neg z, ck8 hm, if_pos h14, ck8 hm, ck8 hm, vlt_s, h12]
      refine ⟨_, rfl, ⟨?_, ?_⟩, Ex.up ⟨rfl, by omega⟩⟩
      · rw [upI_at, if_neg (by omega)]
        exact h12
      · rw [upI_at, if_pos ⟨rfl, rfl⟩]
        rfl
