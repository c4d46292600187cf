/-! the class's vote -/
def encC (o : Option Int) : Int32 := match o with
  | none => -10000004
  | some k => iI k
def encM (o : Option Int) : Int32 := match o with
  | none => -1000000
  | some k => iI k
theorem em_shl {a b s : Nat} (hb : Em b) : (a <<< s) &&& b < 65536 := Nat.lt_of_le_of_lt Nat.and_le_right hb.1
theorem em_shr {a b s : Nat} (hb : Em b) : (a >>> s) &&& b < 65536 := Nat.lt_of_le_of_lt Nat.and_le_right hb.1
theorem e_bestShift {a b : Nat} (ha : Em a) (hb : Em b) : f_X7_bestShift (nI a) (nI b) = some (encC (vt a b)) := by
  unfold f_X7_bestShift
  by_cases h1 : a = 0
  · subst h1
    rw [if_pos (show nI 0 = (0 : Int32) from rfl)]
    have hz : ∀ k : Int, cnt 0 b k = 0 := by
      intro k
      unfold cnt
      split
      · rw [cR_ct ⟨by decide, by decide⟩ hb]; exact ct_zero (fun i _ => by simp)
      · rw [cL_ct ⟨by decide, by decide⟩ hb]; exact ct_zero (fun i _ => by simp)
    have hv := vf_inv (cnt 0 b) 9
    unfold vt
    generalize vf (cnt 0 b) 9 = p at hv
    obtain ⟨o, m⟩ := p
    cases o with
    | none => rfl
    | some k => have := hv.2.2.1; rw [hz] at this; omega
  · by_cases h2 : b = 0
    · subst h2
      have e1 : ¬ nI a = (0 : Int32) := by rw [L0, q_eq (by have := ha.1; omega) (by omega)]; exact h1
      rw [if_neg e1, if_pos (show nI 0 = (0 : Int32) from rfl)]
      have hz : ∀ k : Int, cnt a 0 k = 0 := by
        intro k
        unfold cnt
        split
        · rw [cR_ct ha ⟨by decide, by decide⟩]; exact ct_zero (fun i _ => by simp)
        · rw [cL_ct ha ⟨by decide, by decide⟩]; exact ct_zero (fun i _ => by simp)
      have hv := vf_inv (cnt a 0) 9
      unfold vt
      generalize vf (cnt a 0) 9 = p at hv
      obtain ⟨o, m⟩ := p
      cases o with
      | none => rfl
      | some k => have := hv.2.2.1; rw [hz] at this; omega
    · have e1 : ¬ nI a = (0 : Int32) := by rw [L0, q_eq (by have := ha.1; omega) (by omega)]; exact h1
      have e2 : ¬ nI b = (0 : Int32) := by rw [L0, q_eq (by have := hb.1; omega) (by omega)]; exact h2
      rw [if_neg e1, if_neg e2]
      have a31 := ha.1
      have hle : ∀ s, s ≤ 9 → (vf (cnt a b) s).2 ≤ 17 := by
        intro s _
        have hv := vf_inv (cnt a b) s
        generalize vf (cnt a b) s = p at hv
        obtain ⟨o, m⟩ := p
        cases o with
        | none => have := hv.1; simp only at this ⊢; omega
        | some k => have := hv.1; have := cnt_le a b k; simp only at *; omega
      refine Eq.trans (wl3_eq (kx := fun x _ => some x) (n := 9) (fun s => encC (vf (cnt a b) s).1) (fun s => nI (vf (cnt a b) s).2) 0 rfl rfl rfl (by omega) (by omega) (fun s k _ hs => ?_) (fun k => ?_)) rfl
      · unfold f_X7_bestShift_B19
        rw [if_neg (by rw [L8, q_lt (by omega) (by omega)]; omega), q_shr (by omega) (by omega), q_shl a (by omega), q_and, q_and, e_bitCount (em_shr hb), e_bitCount (em_shl hb), bnd_s, bnd_s]
        have hp := hle s (by omega)
        have c1 : pc ((a >>> s) &&& b) 17 = cL a b s := rfl
        have c2 : pc ((a <<< s) &&& b) 17 = cR a b s := rfl
        have d2 : cnt a b (s : Int) = cR a b s := by unfold cnt; rw [if_pos (by omega)]; rfl
        have d1 : cnt a b (-(s : Int)) = cL a b s := by
          unfold cnt
          by_cases z : s = 0
          · subst z
            rw [if_pos (by decide)]
            show pc ((a <<< 0) &&& b) 17 = pc ((a >>> 0) &&& b) 17
            rw [Nat.shiftLeft_zero, Nat.shiftRight_zero]
          · rw [if_neg (by omega)]
            congr 1
            omega
        have b1 : cL a b s ≤ 17 := pc_le _ _
        have b2 : cR a b s ≤ 17 := pc_le _ _
        rw [c1, c2]
        have hst : vf (cnt a b) (s + 1) = (let p := vf (cnt a b) s; let q := if p.2 < cL a b s then (some (-(s : Int)), cL a b s) else p; if q.2 < cR a b s then (some (s : Int), cR a b s) else q) := by
          show (let p := vf (cnt a b) s; let q := if p.2 < cnt a b (-(s : Int)) then (some (-(s : Int)), cnt a b (-(s : Int))) else p; if q.2 < cnt a b (s : Int) then (some (s : Int), cnt a b (s : Int)) else q) = _
          rw [d1, d2]
        have hneg : -nI s = iI (-(s : Int)) := by rw [iI_nat, iI_neg]
        have hpos : nI s = iI (s : Int) := iI_nat s
        rw [hst]
        generalize vf (cnt a b) s = p at hp
        obtain ⟨o, m⟩ := p
        simp only at hp ⊢
        have q1 : nI (cL a b s) ≤ nI m ↔ cL a b s ≤ m := q_le (by omega) (by omega)
        have q2 : nI (cR a b s) ≤ nI m ↔ cR a b s ≤ m := q_le (by omega) (by omega)
        have q3 : nI (cR a b s) ≤ nI (cL a b s) ↔ cR a b s ≤ cL a b s := q_le (by omega) (by omega)
        by_cases h3 : cL a b s ≤ m
        · rw [if_pos (q1.2 h3), if_neg (show ¬ m < cL a b s by omega)]
          by_cases h4 : cR a b s ≤ m
          · rw [if_pos (q2.2 h4), if_neg (show ¬ m < cR a b s by omega), L1, q_add]
          · rw [if_neg (fun z => h4 (q2.1 z)), if_pos (show m < cR a b s by omega), L1, q_add, hpos]
            rfl
        · rw [if_neg (fun z => h3 (q1.1 z)), if_pos (show m < cL a b s by omega)]
          by_cases h4 : cR a b s ≤ cL a b s
          · rw [if_pos (q3.2 h4), if_neg (show ¬ cL a b s < cR a b s by omega), L1, q_add, hneg]
            rfl
          · rw [if_neg (fun z => h4 (q3.1 z)), if_pos (show cL a b s < cR a b s by omega), L1, q_add, hpos]
            rfl
      · unfold f_X7_bestShift_B19
        rw [if_pos (by rw [L8, q_lt (by omega) (by omega)]; omega)]
/-! the model's vote -/
theorem e_agreeing {a b : Nat} (ha : Em a) (hb : Em b) {k : Int} (h1 : -8 ≤ k) (h2 : k ≤ 8) : f_X8_agreeing (nI a) (nI b) (iI k) = some (nI (cnt a b k)) := by
  unfold f_X8_agreeing
  have a31 := ha.1
  have b31 := hb.1
  have hP : cnt a b k = ct (fun c => decide (1 ≤ c) && (a.testBit c && (decide (1 ≤ (c : Int) + k ∧ (c : Int) + k ≤ 15) && b.testBit ((c : Int) + k).toNat))) 16 := by
    unfold cnt
    by_cases hk : 0 ≤ k
    · rw [if_pos hk, cR_ct ha hb]
      refine ct_ext (fun c hc => ?_)
      have e : ((c : Int) + k).toNat = c + k.toNat := by omega
      rw [e]
      by_cases c0 : 1 ≤ c
      · by_cases c1 : (c : Int) + k ≤ 15
        · have : (1 ≤ (c : Int) + k ∧ (c : Int) + k ≤ 15) := ⟨by omega, c1⟩
          simp [c0, this]
        · have z : b.testBit (c + k.toNat) = false := hb.out (Or.inl (by omega))
          simp [z]
      · have z : a.testBit c = false := ha.out (Or.inr (by omega))
        simp [z]
    · rw [if_neg hk, cL_ct ha hb]
      refine ct_ext (fun c hc => ?_)
      by_cases c0 : 1 ≤ c
      · by_cases c1 : (-k).toNat ≤ c
        · have e : ((c : Int) + k).toNat = c - (-k).toNat := by omega
          rw [e]
          by_cases c2 : 1 ≤ (c : Int) + k
          · have : (1 ≤ (c : Int) + k ∧ (c : Int) + k ≤ 15) := ⟨c2, by omega⟩
            simp [c0, this, c1]
          · have z : b.testBit (c - (-k).toNat) = false := hb.out (Or.inr (by omega))
            simp [z]
        · have : ¬ (1 ≤ (c : Int) + k ∧ (c : Int) + k ≤ 15) := by omega
          simp [c1, this]
      · have z : a.testBit c = false := ha.out (Or.inr (by omega))
        simp [z]
  rw [hP]
  generalize hPd : (fun c : Nat => decide (1 ≤ c) && (a.testBit c && (decide (1 ≤ (c : Int) + k ∧ (c : Int) + k ≤ 15) && b.testBit ((c : Int) + k).toNat))) = P
  refine Eq.trans (wl2_eq (kx := fun y => some y) (n := 16) (fun i => nI (ct P i)) 1 ?_ rfl (by omega) (by omega) (fun c kk hc1 hc => ?_) (fun kk => ?_)) rfl
  · have z : ct P 1 = 0 := ct_zero (fun i hi => by rw [← hPd]; simp [show i = 0 by omega])
    rw [z]
    rfl
  · unfold f_X8_agreeing_B5
    have hs : ct P (c + 1) = ct P c + if P c = true then 1 else 0 := rfl
    have hPc : P c = (a.testBit c && (decide (1 ≤ (c : Int) + k ∧ (c : Int) + k ≤ 15) && b.testBit ((c : Int) + k).toNat)) := by
      rw [← hPd]; simp [hc1]
    rw [if_neg (by rw [L16, q_le (by omega) (by omega)]; omega), e_has (by omega) (by omega), bnd_s]
    have z0 : nI (ct P c) + 0 = nI (ct P c) := by rw [L0, q_add, Nat.add_zero]
    have s1 : nI c + 1 = nI (c + 1) := by rw [L1, q_add]
    by_cases t1 : a.testBit c = true
    · rw [if_pos t1, if_neg (by decide)]
      have hxc : nI c + iI k = iI ((c : Int) + k) := by rw [iI_nat, iI_add]
      rw [hxc]
      have hr : ((1 : Int32) ≤ iI ((c : Int) + k) ∧ iI ((c : Int) + k) ≤ 15) ↔ (1 ≤ (c : Int) + k ∧ (c : Int) + k ≤ 15) := by
        rw [show (1 : Int32) = iI 1 from rfl, show (15 : Int32) = iI 15 from rfl, iI_le (by omega) (by omega) (by omega) (by omega), iI_le (by omega) (by omega) (by omega) (by omega)]
      by_cases t2 : 1 ≤ (c : Int) + k ∧ (c : Int) + k ≤ 15
      · rw [e_in_t (hr.2 t2), bnd_s, if_neg (by decide)]
        have e : iI ((c : Int) + k) = nI ((c : Int) + k).toNat := by rw [iI_nat]; congr 1; omega
        rw [e, e_has (by omega) (by omega), bnd_s, hs, hPc]
        by_cases t3 : b.testBit ((c : Int) + k).toNat = true
        · rw [if_pos t3, if_neg (by decide), if_pos (by simp [t1, t2, t3]), s1, L1, q_add]
        · rw [if_neg t3, if_pos rfl, if_neg (by simp [t3]), s1, z0]; rfl
      · rw [e_in_f (fun z => t2 (hr.1 z)), bnd_s, if_pos rfl, hs, hPc, if_neg (by simp [t2]), s1, z0]; rfl
    · rw [if_neg t1, if_pos rfl, hs, hPc, if_neg (by simp [t1]), s1, z0]; rfl
  · unfold f_X8_agreeing_B5
    rw [if_pos (by rw [L16, q_le (by omega) (by omega)]; omega)]
theorem e_size {z : Int} (h1 : -2147483647 ≤ z) (h2 : z < 2147483648) : f_X8_size (iI z) = some (iI (z.natAbs : Int)) := by
  unfold f_X8_size
  by_cases h : 0 ≤ z
  · rw [if_pos (by rw [show (0 : Int32) = iI 0 from rfl, iI_le (by omega) (by omega) (by omega) (by omega)]; exact h)]
    congr 2
    omega
  · rw [if_neg (by rw [show (0 : Int32) = iI 0 from rfl, iI_le (by omega) (by omega) (by omega) (by omega)]; exact h), iI_neg]
    congr 2
    omega
def szb (o : Option Int) (t : Int) : Bool := match o with
  | none => true
  | some k => decide (t.natAbs < k.natAbs)
/-- the model's loop: shifts from -8 on -/
theorem l_voteBy {a b : Nat} (ha : Em a) (hb : Em b) (kx : Int32 → Option Int32) : ∀ (m : Nat) (t : Int) (fuel : Nat) (o : Option Int) (mo : Nat), t + m = 9 → -8 ≤ t → m < fuel → mo ≤ 17 → (match o with
    | none => mo = 0 ∧ ∀ j : Int, -8 ≤ j → j < t → cnt a b j = 0
    | some k => mo = cnt a b k ∧ Bst (cnt a b) (fun j => -8 ≤ j ∧ j < t) k) → ∃ o' : Option Int, (match o' with
    | none => ∀ j : Int, -8 ≤ j → j < 9 → cnt a b j = 0
    | some k => Bst (cnt a b) (fun j => -8 ≤ j ∧ j < 9) k) ∧ wl3 (f_X8_voteBy_B9 (nI a) (nI b) kx) fuel (encM o) (nI mo) (iI t) = kx (encM o')
  | 0, t, 0, _, _, _, _, h, _, _ => by omega
  | 0, t, fuel + 1, o, mo, e, _, _, hmo, hI => by
    have ht : t = 9 := by omega
    subst ht
    refine ⟨o, ?_, ?_⟩
    · cases o with
      | none => exact hI.2
      | some k => exact hI.2
    · show f_X8_voteBy_B9 (nI a) (nI b) kx _ (encM o) (nI mo) (iI 9) = _
      unfold f_X8_voteBy_B9
      rw [if_pos (by decide)]
  | m + 1, t, 0, _, _, _, _, h, _, _ => by omega
  | m + 1, t, fuel + 1, o, mo, e, h8, hf, hmo, hI => by
    have hc := cnt_le a b t
    have s1 : iI t + 1 = iI (t + 1) := by rw [show (1 : Int32) = iI 1 from rfl, iI_add]
    have step : wl3 (f_X8_voteBy_B9 (nI a) (nI b) kx) (fuel + 1) (encM o) (nI mo) (iI t) = if mo < cnt a b t ∨ (mo = cnt a b t ∧ 0 < cnt a b t ∧ szb o t = true) then wl3 (f_X8_voteBy_B9 (nI a) (nI b) kx) fuel (encM (some t)) (nI (cnt a b t)) (iI (t + 1)) else wl3 (f_X8_voteBy_B9 (nI a) (nI b) kx) fuel (encM o) (nI mo) (iI (t + 1)) := by
      show f_X8_voteBy_B9 (nI a) (nI b) kx (wl3 (f_X8_voteBy_B9 (nI a) (nI b) kx) fuel) (encM o) (nI mo) (iI t) = _
      generalize wl3 (f_X8_voteBy_B9 (nI a) (nI b) kx) fuel = K
      unfold f_X8_voteBy_B9
      rw [if_neg (by rw [show (9 : Int32) = iI 9 from rfl, iI_le (by omega) (by omega) (by omega) (by omega)]; omega), e_agreeing ha hb h8 (by omega), bnd_s, s1]
      have q1 : nI mo < nI (cnt a b t) ↔ mo < cnt a b t := q_lt (by omega) (by omega)
      have q2 : nI (cnt a b t) = nI mo ↔ cnt a b t = mo := q_eq (by omega) (by omega)
      have q3 : nI (cnt a b t) ≤ (0 : Int32) ↔ cnt a b t ≤ 0 := by rw [L0]; exact q_le (by omega) (by omega)
      by_cases c1 : mo < cnt a b t
      · rw [if_pos (q1.2 c1), if_pos (Or.inl c1)]
        rfl
      · rw [if_neg (fun z => c1 (q1.1 z))]
        by_cases c2 : cnt a b t = mo
        · rw [if_pos (q2.2 c2)]
          by_cases c3 : cnt a b t ≤ 0
          · rw [if_pos (q3.2 c3), if_neg (by omega)]
          · rw [if_neg (fun z => c3 (q3.1 z)), e_size (by omega) (by omega), bnd_s]
            cases o with
            | none =>
              rw [show f_X8_size (encM none) = some (iI 1000000) by decide, bnd_s, if_neg (by rw [iI_le (by omega) (by omega) (by omega) (by omega)]; omega), if_pos (Or.inr ⟨c2.symm, by omega, rfl⟩)]
              rfl
            | some k =>
              have hk : -8 ≤ k ∧ k < t := hI.2.1
              rw [show f_X8_size (encM (some k)) = some (iI (k.natAbs : Int)) from e_size (by omega) (by omega), bnd_s]
              have q4 : iI (k.natAbs : Int) ≤ iI (t.natAbs : Int) ↔ (k.natAbs : Int) ≤ (t.natAbs : Int) := iI_le (by omega) (by omega) (by omega) (by omega)
              by_cases c4 : k.natAbs ≤ t.natAbs
              · rw [if_pos (q4.2 (by omega)), if_neg (by simp only [szb, decide_eq_true_eq]; omega)]
              · rw [if_neg (fun z => c4 (by have := q4.1 z; omega)), if_pos (Or.inr ⟨c2.symm, by omega, by simp only [szb, decide_eq_true_eq]; omega⟩)]
                rfl
        · rw [if_neg (fun z => c2 (q2.1 z)), if_neg (by omega)]
    rw [step]
    by_cases hc1 : mo < cnt a b t ∨ (mo = cnt a b t ∧ 0 < cnt a b t ∧ szb o t = true)
    · rw [if_pos hc1]
      refine l_voteBy ha hb kx m (t + 1) fuel (some t) (cnt a b t) (by omega) (by omega) (by omega) hc ⟨rfl, ⟨h8, by omega⟩, by omega, fun j hj => ?_⟩
      by_cases hjt : j = t
      · subst hjt; right; exact ⟨rfl, Or.inr ⟨rfl, by omega⟩⟩
      · cases o with
        | none => have := hI.2 j hj.1 (by omega); left; omega
        | some k =>
          have h3 := hI.2.2.2 j ⟨hj.1, by omega⟩
          have h4 := hI.1
          have h5 : k < t := hI.2.1.2
          simp only [szb, decide_eq_true_eq] at hc1 h4
          unfold bf at h3 ⊢
          rcases hc1 with c | ⟨c, c', c''⟩
          · left; omega
          · rcases h3 with h3 | ⟨h3, h6⟩
            · left; omega
            · right; exact ⟨by omega, by omega⟩
    · rw [if_neg hc1]
      refine l_voteBy ha hb kx m (t + 1) fuel o mo (by omega) (by omega) (by omega) hmo ?_
      cases o with
      | none =>
        refine ⟨hI.1, fun j hj1 hj2 => ?_⟩
        have := hI.1
        by_cases hjt : j = t
        · subst hjt; omega
        · exact hI.2 j hj1 (by omega)
      | some k =>
        have h4 := hI.1
        have h5 := hI.2.1
        refine ⟨hI.1, ⟨h5.1, by omega⟩, hI.2.2.1, fun j hj => ?_⟩
        by_cases hjt : j = t
        · subst hjt
          simp only [szb, decide_eq_true_eq] at hc1 h4
          unfold bf
          have h6 : k < j := h5.2
          have h7 := hI.2.2.1
          by_cases q : cnt a b j = cnt a b k
          · right; exact ⟨q, by omega⟩
          · left; omega
        · exact hI.2.2.2 j ⟨hj.1, by omega⟩
theorem e_voteBy {a b : Nat} (ha : Em a) (hb : Em b) : f_X8_voteBy (nI a) (nI b) = some (encM (vt a b)) := by
  unfold f_X8_voteBy
  obtain ⟨o', h1, h2⟩ := l_voteBy ha hb (fun y => some y) 17 (-8) FU none 0 (by omega) (by omega) (by decide) (by omega) ⟨rfl, fun j h1 h2 => by omega⟩
  refine Eq.trans h2 ?_
  have hv := vf_inv (cnt a b) 9
  unfold vt
  generalize vf (cnt a b) 9 = p at hv
  obtain ⟨o, m⟩ := p
  show some (encM o') = some (encM o)
  congr 2
  cases o' with
  | none =>
    cases o with
    | none => rfl
    | some k =>
      have h3 := hv.2.2.1
      have h4 : k.natAbs < 9 := hv.2.1
      have := h1 k (by omega) (by omega)
      omega
  | some k' =>
    cases o with
    | none =>
      have h3 := h1.2.1
      have h4 : -8 ≤ k' ∧ k' < 9 := h1.1
      have := hv.2 k' (by omega)
      omega
    | some k =>
      have h4 : -8 ≤ k' ∧ k' < 9 := h1.1
      have h5 : k.natAbs < 9 := hv.2.1
      congr 1
      refine Bst.uniq (U := fun j => j.natAbs < 9) ⟨by omega, h1.2.1, fun j hj => h1.2.2 j ?_⟩ hv.2
      show -8 ≤ j ∧ j < 9
      have : j.natAbs < 9 := hj
      omega
theorem vt_rng (a b : Nat) {k : Int} (h : vt a b = some k) : k.natAbs < 9 := by
  have hv := vf_inv (cnt a b) 9
  unfold vt at h
  generalize vf (cnt a b) 9 = p at hv h
  obtain ⟨o, m⟩ := p
  cases h
  exact hv.2.1
