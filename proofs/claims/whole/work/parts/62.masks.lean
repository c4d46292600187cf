/-! MASKS OF VOTERS: voters, dissent; speed -/
theorem q_andn {a b : Nat} (ha : a < 2147483648) : nI a &&& (nI b ^^^ (-1)) = nI (mk (fun i => a.testBit i && !(b.testBit i)) 31) := by
  apply Int32.toBitVec_inj.1
  show BitVec.ofNat 32 a &&& (BitVec.ofNat 32 b ^^^ BitVec.allOnes 32) = BitVec.ofNat 32 (mk (fun i => a.testBit i && !(b.testBit i)) 31)
  apply BitVec.eq_of_getLsbD_eq
  intro i hi
  simp only [BitVec.getLsbD_and, BitVec.getLsbD_xor, BitVec.getLsbD_ofNat, BitVec.getLsbD_allOnes, mk_bit, hi, decide_true, Bool.true_and]
  by_cases c : i < 31
  · simp [c]
  · have z : a.testBit i = false := Nat.testBit_lt_two_pow (Nat.lt_of_lt_of_le ha (show 2 ^ 31 ≤ 2 ^ i from Nat.pow_le_pow_right (by omega) (by omega)))
    simp [z]
theorem e_votersFor {S : St} (hs : CSh S) {V : Nat → Option Int} {key : Int32} {D : Nat → Bool} (hV : ∀ x, x < 10 → S.1 33 x = encC (V x)) (hD : ∀ x, x < 10 → (encC (V x) = key ↔ D x = true)) : f_X6_votersFor S 30 key = some (nI (mk D 10)) := by
  unfold f_X6_votersFor
  have e2 : S.2.1 30 2 = 33 := hs.2.2.2.1.2.2.1
  refine wl2_eq (kx := fun y => some y) (n := 10) (fun i => nI (mk D i)) 0 rfl rfl (by omega) (by omega) (fun i kk _ hi => ?_) (fun kk => ?_)
  · unfold f_X6_votersFor_B4
    simp only [e2, lnA ar33, q_cl (show i < 2147483648 by omega)]
    rw [ck30 hs, ck_t (okA hs.n ar33), if_neg (by rw [q_le (by omega) (by omega)]; omega), ck30 hs, ckA hs.n ar33 hi, hV i hi, mk_succ]
    by_cases c : D i = true
    · rw [if_pos ((hD i hi).2 c), if_pos c, L1, q_add, q_shl 1 (by omega), q_or]
    · rw [if_neg (fun q => c ((hD i hi).1 q)), if_neg c, Nat.or_zero, L1, q_add]
  · unfold f_X6_votersFor_B4
    simp only [e2, lnA ar33]
    rw [ck30 hs, ck_t (okA hs.n ar33), if_pos (by rw [q_le (by omega) (by omega)]; omega)]
theorem encC_eq {o : Option Int} {k : Int} (ho : ∀ j, o = some j → j.natAbs < 9) (hk : k.natAbs < 9) : encC o = iI k ↔ decide (o = some k) = true := by
  rw [decide_eq_true_eq]
  cases o with
  | none =>
    constructor
    · intro e
      exact absurd e.symm (encC_no hk)
    · intro e
      cases e
  | some j =>
    have hj := ho j rfl
    show iI j = iI k ↔ _
    rw [iI_eq (by omega) (by omega) (by omega) (by omega)]
    constructor
    · intro e; rw [e]
    · intro e; exact Option.some.inj e
theorem encC_nn {o : Option Int} (ho : ∀ j, o = some j → j.natAbs < 9) : encC o = (-10000004 : Int32) ↔ o.isNone = true := by
  cases o with
  | none => exact ⟨fun _ => rfl, fun _ => rfl⟩
  | some j =>
    constructor
    · intro e
      exact absurd e (encC_no (ho j rfl))
    · intro e
      cases e
theorem VV_rng {w : Wf} {C R f1 fb1 f2 fb2 : Nat} : ∀ x k, VV w C R f1 fb1 f2 fb2 x = some k → k.natAbs < 9 := fun x k hk => by
  unfold VV at hk
  by_cases c : x < R
  · rw [if_pos c] at hk
    exact vt_rng _ _ hk
  · rw [if_neg c] at hk
    cases hk
theorem e_votersAtAll {S : St} (hs : CSh S) {V : Nat → Option Int} (hV : ∀ x, x < 10 → S.1 33 x = encC (V x)) (hr : ∀ x k, V x = some k → k.natAbs < 9) : f_X6_votersAtAll S 30 = some (nI (mk (fun i => (1 <<< 10 - 1).testBit i && !((mk (fun x => (V x).isNone) 10).testBit i)) 31)) := by
  unfold f_X6_votersAtAll
  have e2 : S.2.1 30 2 = 33 := hs.2.2.2.1.2.2.1
  rw [ck30 hs, e2, ck_t (okA hs.n ar33), ck30 hs, e_votersFor hs (D := fun x => (V x).isNone) hV (fun x hx => encC_nn (hr x)), bnd_s, lnA ar33]
  have hsh : (1 : Int32) <<< (nI 10 &&& 31) = nI (1 <<< 10) := q_shl 1 (by omega)
  have es : nI (1 <<< 10) - (1 : Int32) = nI (1 <<< 10 - 1) := by rw [L1, q_sub (by decide)]
  rw [hsh, es, q_andn (by decide)]
/-- the model's mask of voters: those for k, or those for another -/
theorem e_votersOf {S : St} (hm : MSh S) {R C f1 f2 fb1 fb2 : Nat} {k : Int} (v1 : FvO (S.1 125) R C f1 fb1) (v2 : FvO (S.1 125) R C f2 fb2) (hk : k.natAbs < 9) {a4 : Int32} {D : Nat → Bool} (hD : (a4 = 1 ∧ ∀ x, D x = decide (VV (S.1 125) C R f1 fb1 f2 fb2 x = some k)) ∨ (a4 = 0 ∧ ∀ x, D x = (!(VV (S.1 125) C R f1 fb1 f2 fb2 x).isNone && !(decide (VV (S.1 125) C R f1 fb1 f2 fb2 x = some k))))) : f_X8_votersOf S 124 (nI f1) (nI f2) (iI k) a4 = some (nI (mk D R)) := by
  unfold f_X8_votersOf
  have hR := v1.2.1
  refine wl2_eq (kx := fun y => some y) (n := R) (fun i => nI (mk D i)) 0 rfl rfl (by omega) (by omega) (fun i kk _ hi => ?_) (fun kk => ?_)
  · unfold f_X8_votersOf_B6
    have ev : f_X8_voteOf S 124 (nI f1) (nI f2) (nI i) = some (encM (VV (S.1 125) C R f1 fb1 f2 fb2 i)) := by
      rw [e_voteOf hm v1.1 v2.1 (by omega) v1.2.2.1.1 v1.2.2.1.2.1 v1.2.2.1.2.2 v1.2.2.2.1 v1.2.2.2.2 v2.2.2.2.1 v2.2.2.2.2]
      unfold VV
      rw [if_pos hi]
    have z0 : nI (mk D i) ||| 0 = nI (mk D i) := by rw [L0, q_or, Nat.or_zero]
    have s1 : nI (mk D i) ||| (1 : Int32) <<< (nI i &&& 31) = nI (mk D i ||| 1 <<< i) := by
      have hsh : (1 : Int32) <<< (nI i &&& 31) = nI (1 <<< i) := q_shl 1 (by omega)
      rw [hsh, q_or]
    have n1 : nI i + 1 = nI (i + 1) := by rw [L1, q_add]
    rw [ck8 hm, hm.2.1, ck_t (show ina S 10 125 0 from inaN hm.1 rfl rfl (by decide) (by decide) (show 0 < 867 by omega)), C0, hR.1, if_neg (by rw [q_le (by omega) (by omega)]; omega), ck8 hm, ev, bnd_s, mk_succ]
    have hrg := VV_rng (w := S.1 125) (C := C) (R := R) (f1 := f1) (fb1 := fb1) (f2 := f2) (fb2 := fb2) i
    generalize hV : VV (S.1 125) C R f1 fb1 f2 fb2 i = o at hrg
    rw [z0, s1, n1]
    cases o with
    | none =>
      have hd : ¬ D i = true := by
        rcases hD with ⟨-, z⟩ | ⟨-, z⟩
        · rw [z, hV]; simp
        · rw [z, hV]; simp
      rw [if_pos (show encM none = (-1000000 : Int32) from rfl), if_neg hd, Nat.or_zero]
    | some j =>
      have hj := hrg j rfl
      rw [if_neg (show ¬ encM (some j) = (-1000000 : Int32) from encM_no hj)]
      by_cases c : j = k
      · subst c
        rw [if_pos (show encM (some j) = iI j from rfl)]
        rcases hD with ⟨z1, z2⟩ | ⟨z1, z2⟩
        · rw [if_pos z1.symm, if_pos (by rw [z2, hV]; simp)]
        · rw [if_neg (by rw [z1]; decide), if_neg (by rw [z2, hV]; simp), Nat.or_zero]
      · rw [if_neg (show ¬ encM (some j) = iI k from fun e => c ((iI_eq (by omega) (by omega) (by omega) (by omega)).1 e))]
        have hne : ¬ (some j = some k) := fun e => c (Option.some.inj e)
        rcases hD with ⟨z1, z2⟩ | ⟨z1, z2⟩
        · rw [if_neg (by rw [z1]; decide), if_neg (by rw [z2, hV]; simp [hne, c]), Nat.or_zero]
        · rw [if_pos z1.symm, if_pos (by rw [z2, hV]; simp [hne, c])]
  · unfold f_X8_votersOf_B6
    rw [ck8 hm, hm.2.1, ck_t (show ina S 10 125 0 from inaN hm.1 rfl rfl (by decide) (by decide) (show 0 < 867 by omega)), C0, hR.1, if_pos (Int32.le_refl _)]
theorem om_voters {N : Nat} {S : St} (h : INV N S) (a b c : Int32) : Om N S (fun S => f_X7_voters S 4 a b c) (fun S => f_X8_voters S 124 a b c) := by
  have h0 := h
  obtain ⟨fc, h4, h36, f5, hs, hm⟩ := h.fc
  have e0 : ∀ S1 : St, CSh S1 → S1.2.1 4 4 = 30 := fun S1 q => q.2.1.2.2.2.1
  by_cases hp : (0 ≤ a ∧ a ≤ nI fc - 1) ∧ (0 ≤ b ∧ b ≤ nI fc - 1) ∧ a ≠ b
  · by_cases hc : -8 ≤ c ∧ c ≤ 8
    · obtain ⟨k, rfl, k1, k2⟩ := i_rg (lo := -8) (hi := 8) hc.1 hc.2 (by decide) (by decide) (by decide) (by decide)
      obtain ⟨f1, f2, R, C, fb1, fb2, S1, ⟨e1, e2, -, -⟩, v1, v2, p1, p2, p3, p4, s1, m1, e125, hI⟩ := pair_on h0 h4 hp
      have hk : k.natAbs < 9 := by omega
      have hR := v1.2.1
      refine ⟨nI (mk (fun x => decide (VV (S.1 125) C R f1 fb1 f2 fb2 x = some k)) 10), S1, ?_, ?_, hI.mono (by omega)⟩
      · show f_X7_voters S 4 a b (iI k) = _
        unfold f_X7_voters
        rw [ck7 hs, c_isPair hs h4 f5, if_pos hp, bnd_s, if_neg (by decide), e_within, if_pos hc, bnd_s, if_neg (by decide), ck7 hs, p1, bnd_s, ck7 s1, e0 S1 s1, ck30 s1, e_votersFor s1 (D := fun x => decide (VV (S.1 125) C R f1 fb1 f2 fb2 x = some k)) p3 (fun x hx => encC_eq (VV_rng x) hk), bnd_s]
      · show f_X8_voters S1 124 a b (iI k) = _
        unfold f_X8_voters
        rw [← e125] at v1 v2
        rw [ck8 m1, e_areFrames m1 (fc := fc) (by rw [e125]; exact h36), if_pos hp, bnd_s, if_neg (by decide), e_in, if_pos hc, bnd_s, if_neg (by decide), ck8 m1, e1, e2, e_votersOf m1 v1 v2 hk (Or.inl ⟨rfl, fun _ => rfl⟩), bnd_s, e125]
        congr 2
        apply Nat.eq_of_testBit_eq
        intro i
        rw [mk_bit, mk_bit]
        by_cases ci : i < R
        · simp [ci, show i < 10 by omega]
        · have z : VV (S.1 125) C R f1 fb1 f2 fb2 i = none := by
            unfold VV
            rw [if_neg ci]
          simp [ci, z]
    · refine Om.no h0 (-10000001) ?_ ?_
      · show f_X7_voters S 4 a b c = _
        unfold f_X7_voters
        rw [ck7 hs, c_isPair hs h4 f5, if_pos hp, bnd_s, if_neg (by decide), e_within, if_neg hc, bnd_s, if_pos rfl]
      · show f_X8_voters S 124 a b c = _
        unfold f_X8_voters
        rw [ck8 hm, e_areFrames hm h36, if_pos hp, bnd_s, if_neg (by decide), e_in, if_neg hc, bnd_s, if_pos rfl]
  · refine Om.no h0 (-10000001) ?_ ?_
    · show f_X7_voters S 4 a b c = _
      unfold f_X7_voters
      rw [ck7 hs, c_isPair hs h4 f5, if_neg hp, bnd_s, if_pos rfl]
    · show f_X8_voters S 124 a b c = _
      unfold f_X8_voters
      rw [ck8 hm, e_areFrames hm h36, if_neg hp, bnd_s, if_pos rfl]
theorem op_dissent {N : Nat} {S : St} (h : INV N S) (a b : Int32) : Op N S (fun S => f_X7_dissent S 4 a b) (fun S => f_X8_dissent S 124 a b) := by
  obtain ⟨fc, h4, h36, f5, hs, hm⟩ := h.fc
  have e0 : ∀ S1 : St, CSh S1 → S1.2.1 4 4 = 30 := fun S1 q => q.2.1.2.2.2.1
  by_cases hp : (0 ≤ a ∧ a ≤ nI fc - 1) ∧ (0 ≤ b ∧ b ≤ nI fc - 1) ∧ a ≠ b
  · obtain ⟨f1, f2, R, C, fb1, fb2, S1, ⟨e1, e2, -, -⟩, v1, v2, p1, p2, p3, p4, s1, m1, e125, hI⟩ := pair_on h h4 hp
    rw [← e125] at v1 v2 p4 p3
    have hR := v1.2.1
    obtain ⟨o, S2, q1, q2, q3, q4, q5, q6⟩ := pair_told hI s1 m1 v1 v2 p4
    cases o with
    | none =>
      refine ⟨-10000004, S1, S2, ?_, ?_, q5.mono (by omega)⟩
      · show f_X7_dissent S 4 a b = _
        unfold f_X7_dissent
        rw [ck7 hs, c_isPair hs h4 f5, if_pos hp, bnd_s, if_neg (by decide), ck7 hs, p1, bnd_s, ck7 s1, e0 S1 s1, ck30 s1, q1, bnd_s, if_pos (show encC none = (-10000004 : Int32) from rfl)]
      · show f_X8_dissent S1 124 a b = _
        unfold f_X8_dissent
        rw [ck8 m1, e_areFrames m1 (fc := fc) (by rw [e125]; exact h36), if_pos hp, bnd_s, if_neg (by decide), ck8 m1, e1, e2, q2, bnd2_s, if_pos (show encM none = (-1000000 : Int32) from rfl)]
    | some k =>
      have hk := q6 k rfl
      have hK : f_X6_votersFor S1 30 (encC (some k)) = some (nI (mk (fun x => decide (VV (S1.1 125) C R f1 fb1 f2 fb2 x = some k)) 10)) := e_votersFor s1 (D := fun x => decide (VV (S1.1 125) C R f1 fb1 f2 fb2 x = some k)) p3 (fun x hx => encC_eq (VV_rng x) hk)
      have hlt : mk (fun i => (1 <<< 10 - 1).testBit i && !((mk (fun x => (VV (S1.1 125) C R f1 fb1 f2 fb2 x).isNone) 10).testBit i)) 31 < 2147483648 := mk_lt _ 31
      refine ⟨nI (mk (fun x => !(VV (S1.1 125) C R f1 fb1 f2 fb2 x).isNone && !(decide (VV (S1.1 125) C R f1 fb1 f2 fb2 x = some k))) R), S1, S2, ?_, ?_, q5.mono (by omega)⟩
      · show f_X7_dissent S 4 a b = _
        unfold f_X7_dissent
        rw [ck7 hs, c_isPair hs h4 f5, if_pos hp, bnd_s, if_neg (by decide), ck7 hs, p1, bnd_s, ck7 s1, e0 S1 s1, ck30 s1, q1, bnd_s, if_neg (show ¬ encC (some k) = (-10000004 : Int32) from encC_no hk), ck7 s1, ck30 s1, e_votersAtAll s1 p3 VV_rng, bnd_s, ck7 s1, ck30 s1, hK, bnd_s, q_andn hlt]
        congr 3
        apply Nat.eq_of_testBit_eq
        intro i
        simp only [mk_bit]
        rw [Nat.one_shiftLeft, Nat.testBit_two_pow_sub_one]
        by_cases ci : i < 10
        · by_cases cR : i < R
          · simp [ci, cR, show i < 31 by omega]
          · have z : VV (S1.1 125) C R f1 fb1 f2 fb2 i = none := by
              unfold VV
              rw [if_neg cR]
            simp [ci, cR, z]
        · simp [ci, show ¬ i < R by omega]
      · show f_X8_dissent S1 124 a b = _
        unfold f_X8_dissent
        rw [← q4] at v1 v2
        rw [ck8 m1, e_areFrames m1 (fc := fc) (by rw [e125]; exact h36), if_pos hp, bnd_s, if_neg (by decide), ck8 m1, e1, e2, q2, bnd2_s, if_neg (show ¬ encM (some k) = (-1000000 : Int32) from encM_no hk), ck8 q3]
        have := e_votersOf q3 (a4 := 0) v1 v2 hk (Or.inr ⟨rfl, fun _ => rfl⟩)
        rw [q4] at this
        rw [show encM (some k) = iI k from rfl, this, bnd_s]
  · refine Op.no h (-10000001) ?_ ?_
    · show f_X7_dissent S 4 a b = _
      unfold f_X7_dissent
      rw [ck7 hs, c_isPair hs h4 f5, if_neg hp, bnd_s, if_pos rfl]
    · show f_X8_dissent S 124 a b = _
      unfold f_X8_dissent
      rw [ck8 hm, e_areFrames hm h36, if_neg hp, bnd_s, if_pos rfl]
