/-! THE CLASS'S VOTES -/
theorem i8 {k : Int} (h : k.natAbs < 9) : iI k + 8 = nI (k + 8).toNat := by
  rw [show (8 : Int32) = iI 8 from rfl, iI_add, iI_nat]
  congr 1
  omega
theorem encC_no {k : Int} (h : k.natAbs < 9) : ¬ iI k = (-10000004 : Int32) := by
  rw [show (-10000004 : Int32) = iI (-10000004) from rfl, iI_eq (by omega) (by omega) (by omega) (by omega)]
  omega
theorem encM_no {k : Int} (h : k.natAbs < 9) : ¬ iI k = (-1000000 : Int32) := by
  rw [show (-1000000 : Int32) = iI (-1000000) from rfl, iI_eq (by omega) (by omega) (by omega) (by omega)]
  omega
theorem e_countVotes {S : St} (hs : CSh S) {V : Nat → Option Int} {g : Nat → Nat} {a1 : Nat} (hV : ∀ x, x < 10 → S.1 33 x = encC (V x)) (hr : ∀ x k, V x = some k → k.natAbs < 9) (hg : ∀ x, g x ≤ 1000) (hw : (a1 = 0 ∧ ∀ x, g x = 1) ∨ (a1 = 5 ∧ ∀ S1, Ex (fun x _ => x = 34) S S1 → ∀ x, x < 10 → f_X3_weightOf S1 5 (nI x) = some (nI (g x)))) : ∃ S', f_X6_countVotes S 30 a1 = some S' ∧ Ex (fun x _ => x = 34) S S' ∧ ∀ i, i < 17 → S'.1 34 i = nI (tly V g i 10) := by
  unfold f_X6_countVotes
  have q2 : ∀ S1 : St, CSh S1 → S1.2.1 30 2 = 33 := fun S1 q => q.2.2.2.1.2.2.1
  have q3 : ∀ S1 : St, CSh S1 → S1.2.1 30 3 = 34 := fun S1 q => q.2.2.2.1.2.2.2
  obtain ⟨S1, ⟨x1, y1⟩, g1⟩ := wl2_inv (F := f_X6_countVotes_B2 30 a1 (fun (S_2 : St) => (wl2 (f_X6_countVotes_B26 30 a1 (fun (S_6 : St) => (some S_6))) FU S_2 0))) (kx := (fun (S_2 : St) => (wl2 (f_X6_countVotes_B26 30 a1 (fun (S_6 : St) => (some S_6))) FU S_2 0))) (n := 17) (fun i S' => Ex (fun x _ => x = 34) S S' ∧ ∀ j, j < i → S'.1 34 j = 0) (fun i S1 kk hi hP => by
    unfold f_X6_countVotes_B2
    have s1 := hs.ex hP.1
    simp only [q3 S1 s1, lnA ar34]
    rw [ck30 s1, ck_t (okA s1.n ar34), if_neg (by rw [q_le (by omega) (by omega)]; omega), ck30 s1, cwA s1.n ar34 hi]
    simp only [q_cl (show i < 2147483648 by omega)]
    rw [vlt_s, L1, q_add]
    refine ⟨_, ⟨hP.1.upa, fun j hj => ?_⟩, rfl⟩
    rw [upI_at]
    by_cases c : j = i
    · rw [if_pos ⟨rfl, c⟩]
    · rw [if_neg (fun q => c q.2)]
      exact hP.2 j (by omega)) (fun S1 kk hP => by
    unfold f_X6_countVotes_B2
    have s1 := hs.ex hP.1
    simp only [q3 S1 s1, lnA ar34]
    rw [ck30 s1, ck_t (okA s1.n ar34), if_pos (by rw [q_le (by omega) (by omega)]; omega)]) 17 0 FU S rfl (by decide) ⟨Ex.rf, fun j hj => by omega⟩
  rw [show nI 0 = (0 : Int32) from rfl] at g1
  rw [g1]
  obtain ⟨S2, ⟨x2, y2⟩, g2⟩ := wl2_inv (F := f_X6_countVotes_B26 30 a1 (fun (S_6 : St) => (some S_6))) (kx := (fun (S_6 : St) => (some S_6))) (n := 10) (fun x S' => Ex (fun x _ => x = 34) S S' ∧ ∀ i, i < 17 → S'.1 34 i = nI (tly V g i x)) (fun x S1 kk hx hP => by
    unfold f_X6_countVotes_B26
    obtain ⟨p1, p2⟩ := hP
    have s1 := hs.ex p1
    have ev : S1.1 33 x = encC (V x) := by rw [p1.2 33 x (by omega)]; exact hV x hx
    have ecl : (nI x).toNatClampNeg = x := q_cl (by omega)
    simp only [q2 S1 s1, q3 S1 s1, lnA ar33, lnA ar34, ecl, ev]
    rw [ck30 s1, ck_t (okA s1.n ar33), if_neg (by rw [q_le (by omega) (by omega)]; omega), ck30 s1, ckA s1.n ar33 hx, ck30 s1, ckA s1.n ar33 hx]
    cases hv : V x with
    | none =>
      rw [if_pos (show encC none = (-10000004 : Int32) from rfl), L1, q_add]
      refine ⟨S1, ⟨p1, fun i hi => ?_⟩, rfl⟩
      rw [p2 i hi, tly_s, hv, if_neg (by simp), Nat.add_zero]
    | some k =>
      have hk := hr x k hv
      have e8 : encC (some k) + 8 = nI (k + 8).toNat := i8 hk
      have hi17 : (k + 8).toNat < 17 := by omega
      have ecl2 : (nI (k + 8).toNat).toNatClampNeg = (k + 8).toNat := q_cl (by omega)
      simp only [e8, ecl2]
      have hno : ¬ encC (some k) = (-10000004 : Int32) := encC_no hk
      rw [if_neg hno, if_neg (by rw [L0, q_lt (by omega) (by omega)]; omega), ck30 s1, ck_t (okA s1.n ar34), if_neg (by rw [q_le (by omega) (by omega)]; omega), ck30 s1, ckA s1.n ar34 hi17, p2 _ hi17, L1, q_add]
      have fin : ∀ (Sx : St), Sx = upI S1 34 (k + 8).toNat (nI (tly V g (k + 8).toNat x + g x)) → Ex (fun x _ => x = 34) S Sx ∧ ∀ i, i < 17 → Sx.1 34 i = nI (tly V g i (x + 1)) := by
        intro Sx hSx
        subst hSx
        refine ⟨p1.upa, fun i hi => ?_⟩
        rw [upI_at, tly_s, hv]
        by_cases c : i = (k + 8).toNat
        · rw [if_pos ⟨rfl, c⟩, if_pos (by congr 1; omega), c]
        · rw [if_neg (fun q => c q.2), if_neg (by
            intro e
            have := Option.some.inj e
            omega), Nat.add_zero]
          exact p2 i hi
      rcases hw with ⟨z1, z2⟩ | ⟨z1, z2⟩
      · rw [if_pos z1, cwA s1.n ar34 hi17, vlt_s, q_add]
        refine ⟨_, fin _ (by rw [z2]), rfl⟩
      · rw [if_neg (by omega), z1, ck5 s1, z2 S1 p1 x hx, bnd_s, cwA s1.n ar34 hi17, vlt_s, q_add, q_add]
        exact ⟨_, fin _ rfl, rfl⟩) (fun S1 kk hP => by
    unfold f_X6_countVotes_B26
    obtain ⟨p1, p2⟩ := hP
    have s1 := hs.ex p1
    simp only [q2 S1 s1, lnA ar33]
    rw [ck30 s1, ck_t (okA s1.n ar33), if_pos (by rw [q_le (by omega) (by omega)]; omega)]) 10 0 FU S1 rfl (by decide) ⟨x1, fun i hi => y1 i hi⟩
  exact ⟨S2, g2, x2, y2⟩
/-- the edges of a frame, row by row, into one of the two tables -/
theorem e_readEdges {S : St} (hs : CSh S) {F A R tc : Nat} {w : Wf} {E : Nat → Nat} (hw : RT S 5 w tc) (hR : w 0 = nI R) (hR10 : R ≤ 10) (hF : F ≠ 0) (hA : Ar A 10) (hA2 : 28 ≤ A ∧ A < 44) (hE : ∀ S1, CSh S1 → Ex (fun x _ => x = A) S S1 → ∀ r, r < R → f_X3_edgesIn S1 5 F (nI r) = some (nI (E r))) : ∃ S', f_X6_readEdges S 30 5 F A = some S' ∧ Ex (fun x _ => x = A) S S' ∧ ∀ x, x < 10 → S'.1 A x = nI (if x < R then E x else 0) := by
  unfold f_X6_readEdges
  rw [ck5 hs, L0, c_setting hs sc5 (by omega), bnd_s, hw.1 0 (by omega), hR]
  obtain ⟨S1, ⟨x1, y1⟩, g1⟩ := wl2_inv (F := f_X6_readEdges_B10 5 F A (nI R) (fun (S_6 : St) => (some S_6))) (kx := (fun (S_6 : St) => (some S_6))) (n := 10) (fun i S' => Ex (fun x _ => x = A) S S' ∧ ∀ x, x < i → S'.1 A x = nI (if x < R then E x else 0)) (fun i S1 kk hi hP => by
    unfold f_X6_readEdges_B10
    obtain ⟨p1, p2⟩ := hP
    have s1 := hs.ex p1
    have ecl : (nI i).toNatClampNeg = i := q_cl (by omega)
    simp only [lnA hA, ecl]
    have fin : ∀ v : Nat, v = (if i < R then E i else 0) → Ex (fun x _ => x = A) S (upI S1 A i (nI v)) ∧ ∀ x, x < i + 1 → (upI S1 A i (nI v)).1 A x = nI (if x < R then E x else 0) := by
      intro v hv
      refine ⟨p1.upa, fun x hx => ?_⟩
      rw [upI_at]
      by_cases c : x = i
      · rw [if_pos ⟨rfl, c⟩, hv, c]
      · rw [if_neg (fun q => c q.2)]
        exact p2 x (by omega)
    rw [ck_t (okA s1.n hA), if_neg (by rw [q_le (by omega) (by omega)]; omega), if_neg hF]
    by_cases c : i < R
    · rw [if_neg (by rw [q_le (by omega) (by omega)]; omega), ck5 s1, hE S1 s1 p1 i c, bnd_s, cwA s1.n hA hi, vlt_s, L1, q_add]
      exact ⟨_, fin _ (by rw [if_pos c]), rfl⟩
    · rw [if_pos (by rw [q_le (by omega) (by omega)]; omega), cwA s1.n hA hi, vlt_s, L1, q_add]
      exact ⟨_, fin 0 (by rw [if_neg c]), rfl⟩) (fun S1 kk hP => by
    unfold f_X6_readEdges_B10
    have s1 := hs.ex hP.1
    simp only [lnA hA]
    rw [ck_t (okA s1.n hA), if_pos (by rw [q_le (by omega) (by omega)]; omega)]) 10 0 FU S rfl (by decide) ⟨Ex.rf, fun x hx => by omega⟩
  exact ⟨S1, g1, x1, y1⟩
/-- the votes of two tables of edges -/
theorem e_voteOnShift {S : St} (hs : CSh S) {E1 E2 : Nat → Nat} (h1 : ∀ x, x < 10 → S.1 31 x = nI (E1 x)) (h2 : ∀ x, x < 10 → S.1 32 x = nI (E2 x)) (m1 : ∀ x, Em (E1 x)) (m2 : ∀ x, Em (E2 x)) : ∃ S', f_X6_voteOnShift S 30 = some S' ∧ Ex (fun x _ => x = 33 ∨ x = 34) S S' ∧ (∀ x, x < 10 → S'.1 33 x = encC (vt (E1 x) (E2 x))) ∧ ∀ i, i < 17 → S'.1 34 i = nI (tly (fun x => vt (E1 x) (E2 x)) (fun _ => 1) i 10) := by
  unfold f_X6_voteOnShift
  obtain ⟨S1, ⟨x1, y1⟩, g1⟩ := wl2_inv (F := f_X6_voteOnShift_B2 30 (fun (S_5 : St) => (chk (okc S_5 6 30) (bnd (f_X6_countVotes S_5 30 0) fun S_6 => (some S_6))))) (kx := (fun (S_5 : St) => (chk (okc S_5 6 30) (bnd (f_X6_countVotes S_5 30 0) fun S_6 => (some S_6))))) (n := 10) (fun i S' => Ex (fun x _ => x = 33) S S' ∧ ∀ x, x < i → S'.1 33 x = encC (vt (E1 x) (E2 x))) (fun i S1 kk hi hP => by
    unfold f_X6_voteOnShift_B2
    obtain ⟨p1, p2⟩ := hP
    have s1 := hs.ex p1
    have e0 : S1.2.1 30 0 = 31 := s1.2.2.2.1.1
    have e1 : S1.2.1 30 1 = 32 := s1.2.2.2.1.2.1
    have e2 : S1.2.1 30 2 = 33 := s1.2.2.2.1.2.2.1
    have ecl : (nI i).toNatClampNeg = i := q_cl (by omega)
    simp only [e0, e1, e2, lnA ar33, ecl]
    rw [ck30 s1, ck_t (okA s1.n ar33), if_neg (by rw [q_le (by omega) (by omega)]; omega), ck30 s1, ck30 s1, c_numberIn s1.n (n := 10) rfl (by decide) rfl (by omega) (by omega), bnd_s, if_pos hi, ck30 s1, c_numberIn s1.n (n := 10) rfl (by decide) rfl (by omega) (by omega), bnd_s, if_pos hi, p1.2 31 i (by omega), p1.2 32 i (by omega), h1 i hi, h2 i hi, e_bestShift (m1 i) (m2 i), bnd_s, cwA s1.n ar33 hi, vlt_s, L1, q_add]
    refine ⟨_, ⟨p1.upa, fun x hx => ?_⟩, rfl⟩
    rw [upI_at]
    by_cases c : x = i
    · rw [if_pos ⟨rfl, c⟩, c]
    · rw [if_neg (fun q => c q.2)]
      exact p2 x (by omega)) (fun S1 kk hP => by
    unfold f_X6_voteOnShift_B2
    have s1 := hs.ex hP.1
    have e2 : S1.2.1 30 2 = 33 := s1.2.2.2.1.2.2.1
    simp only [e2, lnA ar33]
    rw [ck30 s1, ck_t (okA s1.n ar33), if_pos (by rw [q_le (by omega) (by omega)]; omega)]) 10 0 FU S rfl (by decide) ⟨Ex.rf, fun x hx => by omega⟩
  rw [show nI 0 = (0 : Int32) from rfl] at g1
  have s1 := hs.ex x1
  obtain ⟨S2, p1, p2, p3⟩ := e_countVotes s1 (V := fun x => vt (E1 x) (E2 x)) (g := fun _ => 1) (a1 := 0) y1 (fun x k hk => vt_rng _ _ hk) (fun _ => by decide) (Or.inl ⟨rfl, fun _ => rfl⟩)
  rw [g1, ck30 s1, p1, bnd_s]
  refine ⟨S2, rfl, (x1.wk (fun x j q => Or.inl q)).tr (p2.wk (fun x j q => Or.inr q)), fun x hx => ?_, p3⟩
  rw [p2.2 33 x (by omega)]
  exact y1 x hx
theorem vt_00 : vt 0 0 = none := by decide +kernel
/-- how row x votes between two frames of the row w -/
def VV (w : Wf) (C R f1 fb1 f2 fb2 : Nat) (x : Nat) : Option Int := if x < R then vt (edf w C f1 x fb1) (edf w C f2 x fb2) else none
def PV : Nat → Nat → Prop := fun x _ => x = 31 ∨ x = 32 ∨ x = 33 ∨ x = 34
/-- the class votes on two frames -/
theorem e_voteOn {S : St} (hs : CSh S) {tc fc bl R C f1 f2 : Nat} {w : Wf} (h : RN S 5 w tc fc bl R C) (h3 : Rg (w 3) 1 255) (hf1 : f1 < fc) (hf2 : f2 < fc) : ∃ fb1 fb2 S', (fb1 < 1024 ∧ fv1 w f1 1 = nI fb1) ∧ (fb2 < 1024 ∧ fv1 w f2 1 = nI fb2) ∧ f_X7_voteOn S 4 (nI f1) (nI f2) = some S' ∧ Ex PV S S' ∧ (∀ x, x < 10 → S'.1 33 x = encC (VV w C R f1 fb1 f2 fb2 x)) ∧ ∀ i, i < 17 → S'.1 34 i = nI (tly (VV w C R f1 fb1 f2 fb2) (fun _ => 1) i 10) := by
  have hR := h.2.2.1
  have hC := h.2.2.2.1
  have f5 := h.2.2.2.2.2.2.2.1.2.2
  have e0 : ∀ S1 : St, CSh S1 → S1.2.1 4 0 = 5 := fun S1 q => q.2.1.1
  have e4 : ∀ S1 : St, CSh S1 → S1.2.1 4 4 = 30 := fun S1 q => q.2.1.2.2.2.1
  obtain ⟨fb1, a1, a2, -, -, -⟩ := c_edges hs sc5 h h3 hf1 (show 0 < R by omega)
  obtain ⟨fb2, b1, b2, -, -, -⟩ := c_edges hs sc5 h h3 hf2 (show 0 < R by omega)
  have hE : ∀ (S1 : St) (A : Nat), 28 ≤ A ∧ A < 44 → ∀ S0, CSh S0 → RN S0 5 w tc fc bl R C → S0.2.1 = S.2.1 → CSh S1 → Ex (fun x _ => x = A) S0 S1 → ∀ f fb, f < fc → fv1 w f 1 = nI fb → fb < 1024 → ∀ r, r < R → f_X3_edgesIn S1 5 (S.2.1 (5 + 3) f) (nI r) = some (nI (edf w C f r fb)) := by
    intro S1 A hA S0 s0 h0 hr0 s1 he f fb hf hfb hlt r hr
    have h1 : RN S1 5 w tc fc bl R C := h0.ch s0 sc5 (he.ch (A := fun x => x = A) (fun x j q => q)) (fun d hd => by omega)
    obtain ⟨fb', c1, c2, -, -, c5⟩ := c_edges s1 sc5 h1 h3 hf hr
    have : fb' = fb := by
      rw [← q_eq (by omega) (by omega), ← c2, hfb]
    subst this
    rw [he.r, hr0] at c5
    exact c5
  have g1 := ((hs.sc sc5).2.2.2.1 f1 (by omega)).rg
  have g2 := ((hs.sc sc5).2.2.2.1 f2 (by omega)).rg
  obtain ⟨S1, p1, p2, p3⟩ := e_readEdges hs (F := S.2.1 (5 + 3) f1) (A := 31) (E := fun r => edf w C f1 r fb1) h.1 hR.1 hR.2.2 (by omega) ar31 (by omega) (fun S1 s1 he r hr => hE S1 31 (by omega) S hs h rfl s1 he f1 fb1 hf1 a2 a1 r hr)
  have s1 := hs.ex p2
  have r1 := p2.r
  have h1 : RN S1 5 w tc fc bl R C := h.ch hs sc5 (p2.ch (A := fun x => x = 31) (fun x j q => q)) (fun d hd => by omega)
  obtain ⟨S2, q1, q2, q3⟩ := e_readEdges s1 (F := S.2.1 (5 + 3) f2) (A := 32) (E := fun r => edf w C f2 r fb2) h1.1 hR.1 hR.2.2 (by omega) ar32 (by omega) (fun S2 s2 he r hr => hE S2 32 (by omega) S1 s1 h1 r1 s2 he f2 fb2 hf2 b2 b1 r hr)
  have s2 := s1.ex q2
  have em : ∀ f fb x, Em (if x < R then edf w C f x fb else 0) := fun f fb x => by
    split
    · exact edf_em hC.2.2
    · exact ⟨by decide, by decide⟩
  obtain ⟨S3, t1, t2, t3, t4⟩ := e_voteOnShift s2 (E1 := fun x => if x < R then edf w C f1 x fb1 else 0) (E2 := fun x => if x < R then edf w C f2 x fb2 else 0) (fun x hx => by rw [q2.2 31 x (by omega)]; exact p3 x hx) (fun x hx => q3 x hx) (fun x => em f1 fb1 x) (fun x => em f2 fb2 x)
  have hVV : ∀ x, vt (if x < R then edf w C f1 x fb1 else 0) (if x < R then edf w C f2 x fb2 else 0) = VV w C R f1 fb1 f2 fb2 x := by
    intro x
    unfold VV
    by_cases c : x < R
    · rw [if_pos c, if_pos c, if_pos c]
    · rw [if_neg c, if_neg c, if_neg c]
      exact vt_00
  refine ⟨fb1, fb2, S3, ⟨a1, a2⟩, ⟨b1, b2⟩, ?_, ?_, fun x hx => ?_, fun i hi => ?_⟩
  · unfold f_X7_voteOn f_X6_readFirst f_X6_readSecond
    have e30 : S.2.1 30 0 = 31 := hs.2.2.2.1.1
    have e31 : S1.2.1 30 1 = 32 := s1.2.2.2.1.2.1
    have f4 : S.1 5 4 = nI fc := h.2.2.2.2.2.2.2.1.1
    have f4' : S1.1 5 4 = nI fc := h1.2.2.2.2.2.2.2.1.1
    rw [ck7 hs, ck7 hs, ck7 hs, e0 S hs, e4 S hs, ck5 hs, c_frameAt_t hs sc5 f4 f5 hf1, bnd_s, ck30 hs, ck30 hs, ck30 hs, e30, p1, bnd_s, bnd_s, ck7 s1, ck7 s1, ck7 s1, e0 S1 s1, e4 S1 s1, ck5 s1, c_frameAt_t s1 sc5 f4' f5 hf2, bnd_s, ck30 s1, ck30 s1, ck30 s1, e31, r1, q1, bnd_s, bnd_s, ck7 s2, e4 S2 s2, ck30 s2, t1, bnd_s]
  · exact ((p2.wk (fun x j q => Or.inl q)).tr (q2.wk (fun x j q => Or.inr (Or.inl q)))).tr (t2.wk (fun x j q => Or.inr (Or.inr q)))
  · rw [t3 x hx, hVV x]
  · rw [t4 i hi]
    congr 1
    exact tly_ext (fun x _ => ⟨hVV x, fun _ => rfl⟩)
