def rowsL (w : Wf) (q tc C f : Nat) : Nat → List (Nat × Nat × Nat)
  | 0 => []
  | r + 1 => rowsL w q tc C f r ++ (if (fbo w f).testBit r = true then [] else [dem w q tc C f r])
def frmL (w : Wf) (q tc C R : Nat) : Nat → List (Nat × Nat × Nat)
  | 0 => []
  | f + 1 => frmL w q tc C R f ++ rowsL w q tc C f R
theorem rowsL_s (w : Wf) (q tc C f r : Nat) : rowsL w q tc C f (r + 1) = rowsL w q tc C f r ++ (if (fbo w f).testBit r = true then [] else [dem w q tc C f r]) := rfl
theorem rowsL_le (w : Wf) (q tc C f : Nat) : ∀ r, (rowsL w q tc C f r).length ≤ r
  | 0 => Nat.le_refl _
  | r + 1 => by
    have := rowsL_le w q tc C f r
    rw [rowsL_s, List.length_append]
    by_cases c : (fbo w f).testBit r = true
    · rw [if_pos c]
      show _ + 0 ≤ _
      omega
    · rw [if_neg c]
      show _ + 1 ≤ _
      omega
theorem frmL_le (w : Wf) (q tc C : Nat) {R : Nat} (hR : R ≤ 10) : ∀ f, (frmL w q tc C R f).length ≤ 10 * f
  | 0 => Nat.le_refl _
  | f + 1 => by
    have := frmL_le w q tc C hR f
    have := rowsL_le w q tc C f R
    show (frmL w q tc C R f ++ rowsL w q tc C f R).length ≤ _
    rw [List.length_append]
    omega
theorem rowsL_all (w : Wf) (q tc C f : Nat) (g : Nat × Nat × Nat → Bool) : ∀ r, (rowsL w q tc C f r).all g = allR (fun r => (fbo w f).testBit r || g (dem w q tc C f r)) r
  | 0 => rfl
  | r + 1 => by
    rw [rowsL_s, List.all_append, rowsL_all w q tc C f g r, allR_s]
    by_cases c : (fbo w f).testBit r = true
    · rw [if_pos c, c]
      simp
    · rw [if_neg c]
      have c' : (fbo w f).testBit r = false := by simpa using c
      rw [c']
      simp
theorem frmL_all (w : Wf) (q tc C R : Nat) (g : Nat × Nat × Nat → Bool) : ∀ f, (frmL w q tc C R f).all g = allR (fun f => allR (fun r => (fbo w f).testBit r || g (dem w q tc C f r)) R) f
  | 0 => rfl
  | f + 1 => by
    show (frmL w q tc C R f ++ rowsL w q tc C f R).all g = _
    rw [List.all_append, frmL_all w q tc C R g f, rowsL_all, allR_s]
theorem HL.ex {S S' : St} {L : List (Nat × Nat × Nat)} {P : Nat → Nat → Prop} (h : HL S L) (he : Ex P S S') (h1 : ¬ P 35 3) (h2 : ∀ j, ¬ P 36 j ∧ ¬ P 37 j ∧ ¬ P 38 j) : HL S' L := by
  refine ⟨(he.2 _ _ h1).trans h.1, fun i d hd => ?_⟩
  rw [he.2 _ _ (h2 i).1, he.2 _ _ (h2 i).2.1, he.2 _ _ (h2 i).2.2]
  exact h.2 i d hd
theorem l_gatherR {N : Nat} {S : St} (hs : CSh S) {tc fc bl R C tm f fb q : Nat} {w : Wf} {L : List (Nat × Nat × Nat)} (hn : RN S 5 w tc fc bl R C) (hok : OKn N w tc fc tm) (hf : f < fc) (hfb : fv1 w f 1 = nI fb) (hb : fb < 1024) (hL : HL S L) (hl : L.length + 10 ≤ 50) (x3 : Int32) (kx : St → Option St) : ∃ S', wl2 (f_X1_gatherDemands_B25 35 5 (nI q) x3 (S.2.1 (5 + 3) f) kx) FU S 0 = kx S' ∧ Ex PD S S' ∧ HL S' (L ++ rowsL w q tc C f R) := by
  have hR := hn.2.2.1
  have f5 := hn.2.2.2.2.2.2.2.1.2.2
  have hg := ((hs.sc sc5).2.2.2.1 f (by omega)).rg
  have hfbo := fbo_eq hfb hb
  obtain ⟨y1, fb', y2, y3, y4, y5⟩ := hn.2.2.2.2.2.2.2.2.1 f hf
  have hfb' : fb' = fb := by
    rw [← q_eq (by omega) (by omega), ← y3, ← hfb]
    unfold fv1
    rw [show 37 + 162 * f + 1 = 38 + 162 * f by omega]
  subst hfb'
  obtain ⟨S', ⟨p1, p2⟩, g⟩ := wl2_inv (F := f_X1_gatherDemands_B25 35 5 (nI q) x3 (S.2.1 (5 + 3) f) kx) (kx := kx) (n := R) (fun i S' => Ex PD S S' ∧ HL S' (L ++ rowsL w q tc C f i)) (fun i S1 kk hi hP => by
    obtain ⟨p1, p2⟩ := hP
    unfold f_X1_gatherDemands_B25
    have s1 := hs.ex p1
    have hn1 : RN S1 5 w tc fc bl R C := hn.ch hs sc5 (p1.ch (A := fun x => 35 ≤ x ∧ x ≤ 40) (fun x j q => by unfold PD at q; omega)) (fun d hd => by omega)
    have hF1 := (((hs.sc sc5).2.2.2.1 f (by omega)).fr hs sc5).ex p1
    have hset : f_X3_setting S1 5 0 = some (S1.1 (5 + 1) 0) := c_setting s1 sc5 (j := 0) (by omega)
    have hm : fb' &&& (1 <<< R - 1) < 1024 := Nat.lt_of_le_of_lt Nat.and_le_left hb
    have g4' : S1.1 (S.2.1 (5 + 3) f) 1 = nI (fb' &&& (1 <<< R - 1)) := by rw [p1.2 _ _ (by unfold PD; omega)]; exact y4
    rw [if_neg (by omega), ck5 s1, hset, bnd_s, hn1.1.1 0 (by omega), if_neg (by rw [hR.1, q_le (by omega) (by omega)]; omega), ck_t (okS s1.n hF1.1 hF1.2.2.1), g4', e_holds (by omega) (by omega), mask_low hi, bnd_s]
    by_cases c : fb'.testBit i = true
    · rw [if_pos c, if_neg (by decide), L1, q_add]
      refine ⟨S1, ⟨p1, ?_⟩, rfl⟩
      rw [rowsL_s, hfbo, if_pos c, List.append_nil]
      exact p2
    · have c' : fb'.testBit i = false := by simpa using c
      have hle := rowsL_le w q tc C f i
      obtain ⟨S2, k1, k2, k3⟩ := e_addDemand s1 (q := q) hn1 hok hf hi hfb hb c' p2 (by rw [List.length_append]; omega)
      rw [p1.r] at k1
      rw [if_neg c, if_pos rfl, ck35 s1, k1, bnd_s, L1, q_add]
      refine ⟨S2, ⟨p1.tr k2, ?_⟩, rfl⟩
      rw [rowsL_s, hfbo, if_neg c, ← List.append_assoc]
      exact k3) (fun S1 kk hP => by
    obtain ⟨p1, p2⟩ := hP
    unfold f_X1_gatherDemands_B25
    have s1 := hs.ex p1
    have hn1 : RN S1 5 w tc fc bl R C := hn.ch hs sc5 (p1.ch (A := fun x => 35 ≤ x ∧ x ≤ 40) (fun x j q => by unfold PD at q; omega)) (fun d hd => by omega)
    have hset : f_X3_setting S1 5 0 = some (S1.1 (5 + 1) 0) := c_setting s1 sc5 (j := 0) (by omega)
    rw [if_neg (by omega), ck5 s1, hset, bnd_s, hn1.1.1 0 (by omega), if_pos (by rw [hR.1]; exact Int32.le_refl _)]) R 0 FU S (by omega) (by show R < 1000000; omega) ⟨Ex.rf, by
      show HL S (L ++ [])
      rw [List.append_nil]
      exact hL⟩
  exact ⟨S', g, p1, p2⟩
theorem e_gather {N : Nat} {S : St} (hs : CSh S) {tc fc bl R C tm q : Nat} {w : Wf} (hn : RN S 5 w tc fc bl R C) (hok : OKn N w tc fc tm) : ∃ S', f_X1_gatherDemands S 35 5 (nI q) = some S' ∧ Ex PD S S' ∧ HL S' (frmL w q tc C R fc) := by
  unfold f_X1_gatherDemands
  have f5 := hn.2.2.2.2.2.2.2.1.2.2
  rw [ck35 hs, vlt_s]
  obtain ⟨S', ⟨p1, p2⟩, g⟩ := wl2_inv (F := f_X1_gatherDemands_B7 35 5 (nI q) (fun (S_7 : St) => (some S_7))) (kx := (fun (S_7 : St) => (some S_7))) (n := fc) (fun i S' => Ex PD S S' ∧ HL S' (frmL w q tc C R i)) (fun i S1 kk hi hP => by
    obtain ⟨p1, p2⟩ := hP
    unfold f_X1_gatherDemands_B7
    have s1 := hs.ex p1
    have hn1 : RN S1 5 w tc fc bl R C := hn.ch hs sc5 (p1.ch (A := fun x => 35 ≤ x ∧ x ≤ 40) (fun x j q => by unfold PD at q; omega)) (fun d hd => by omega)
    have f4' : S1.1 5 4 = nI fc := hn1.2.2.2.2.2.2.2.1.1
    obtain ⟨fb, b1, b2⟩ := RNfrb hn1 i hi
    have hle := frmL_le w q tc C hn.2.2.1.2.2 i
    obtain ⟨S2, k1, k2, k3⟩ := l_gatherR s1 (q := q) hn1 hok hi b2 b1 p2 (by omega) (nI i) (fun S_6 => kk S_6 (nI i + 1))
    rw [ck5 s1, f4', if_neg (by rw [q_le (by omega) (by omega)]; omega), ck5 s1, c_frameAt_t s1 sc5 f4' f5 hi, bnd_s, k1, L1, q_add]
    exact ⟨S2, ⟨p1.tr k2, k3⟩, rfl⟩) (fun S1 kk hP => by
    obtain ⟨p1, p2⟩ := hP
    unfold f_X1_gatherDemands_B7
    have s1 := hs.ex p1
    have hn1 : RN S1 5 w tc fc bl R C := hn.ch hs sc5 (p1.ch (A := fun x => 35 ≤ x ∧ x ≤ 40) (fun x j q => by unfold PD at q; omega)) (fun d hd => by omega)
    have f4' : S1.1 5 4 = nI fc := hn1.2.2.2.2.2.2.2.1.1
    rw [ck5 s1, f4', if_pos (Int32.le_refl _)]) fc 0 FU (upI S 35 3 0) (by omega) (by show fc < 1000000; omega) ⟨Ex.up (Or.inl ⟨rfl, rfl⟩), by
      refine ⟨?_, fun i d hd => ?_⟩
      · rw [upI_at, if_pos ⟨rfl, rfl⟩]
        rfl
      · have hd' : ([] : List (Nat × Nat × Nat))[i]? = some d := hd
        simp at hd'⟩
  exact ⟨S', g, p1, p2⟩
def atL (f : Nat × Nat × Nat → Bool) (L : List (Nat × Nat × Nat)) (i : Nat) : Bool := match L[i]? with
  | some d => f d
  | none => true
theorem atL_all (f : Nat × Nat × Nat → Bool) (L : List (Nat × Nat × Nat)) : allF (atL f L) 0 L.length = L.all f := by
  rw [Bool.eq_iff_iff, allF_iff, List.all_eq_true]
  constructor
  · intro h d hd
    obtain ⟨i, hi⟩ := List.mem_iff_getElem?.mp hd
    have hl := (List.getElem?_eq_some_iff.mp hi).1
    have := h i (by omega) (by omega)
    unfold atL at this
    rw [hi] at this
    exact this
  · intro h i _ hi
    unfold atL
    cases hz : L[i]? with
    | none => rfl
    | some d => exact h d (List.mem_iff_getElem?.mpr ⟨i, hz⟩)
theorem q_zero {a : Nat} (ha : a < 2147483648) : (nI a = 0) = (a = 0) := by
  rw [L0]
  exact propext (q_eq ha (by omega))
theorem e_meets {S : St} (hs : CSh S) {L : List (Nat × Nat × Nat)} {P V : Int} {W : Nat} (hL : HL S L) (hl : L.length ≤ 50) (hP : -1000 ≤ P ∧ P ≤ 2400) (hV : -100 ≤ V ∧ V ≤ 100) (hW : W ≤ 1600) : f_X1_meetsDemands S 35 (iI P) (iI V) (nI W) = some (if L.all (dmt P V W) = true then 1 else 0) := by
  unfold f_X1_meetsDemands
  have e0 : S.2.1 35 0 = 36 := hs.2.2.2.2.1.1
  have e1 : S.2.1 35 1 = 37 := hs.2.2.2.2.1.2.1
  have e2 : S.2.1 35 2 = 38 := hs.2.2.2.2.1.2.2.1
  refine (wl1_all (P := atL (dmt P V W) L) (n := L.length) (rt := some 1) (rf := some 0) (fun i k hi => ?_) (fun k => ?_) L.length 0 FU (by omega) (by show L.length < 1000000; omega)).trans ?_
  · unfold f_X1_meetsDemands_B3
    have hd : L[i]? = some L[i] := List.getElem?_eq_getElem hi
    generalize L[i] = d at hd
    obtain ⟨d1, d2, d3, d4, d5, d6⟩ := hL.2 i d hd
    have hVn := Int.mul_le_mul_of_nonneg_right hV.1 (show (0 : Int) ≤ (d.1 : Int) by omega)
    have hVn2 := Int.mul_le_mul_of_nonneg_right hV.2 (show (0 : Int) ≤ (d.1 : Int) by omega)
    have ecc : f_X7_columnsCovered (iI P + iI V * nI d.1) (nI W) = some (nI (ccm (P + V * (d.1 : Int)) W)) := by
      rw [iI_nat d.1, iI_mul, iI_add, iI_nat W]
      exact e_columnsCovered (by omega) (by omega) (by omega) (by omega)
    have hcm := ccm_lt (P + V * (d.1 : Int)) W
    have hpt : atL (dmt P V W) L i = dmt P V W d := by
      unfold atL
      rw [hd]
    rw [ck35 hs, hL.1, if_neg (by rw [q_le (by omega) (by omega)]; omega), ck35 hs, e0, c_numberIn hs.n (n := 50) rfl (by decide) rfl (by omega) (by omega), bnd_s, if_pos (show i < 50 by omega), d1, ecc, bnd_s, ck35 hs, e2, c_numberIn hs.n (n := 50) rfl (by decide) rfl (by omega) (by omega), bnd_s, if_pos (show i < 50 by omega), d3, q_and, hpt]
    have hz1 : ccm (P + V * (d.1 : Int)) W &&& d.2.2 < 2147483648 := Nat.lt_of_le_of_lt Nat.and_le_left (by omega)
    have hz2 : mk (fun i => d.2.1.testBit i && !((ccm (P + V * (d.1 : Int)) W).testBit i)) 31 < 2147483648 := mk_lt _ 31
    unfold dmt
    by_cases c1 : ccm (P + V * (d.1 : Int)) W &&& d.2.2 = 0
    · rw [if_pos (by rw [c1]; rfl), ck35 hs, e1, c_numberIn hs.n (n := 50) rfl (by decide) rfl (by omega) (by omega), bnd_s, if_pos (show i < 50 by omega), d2, q_andn (by omega)]
      by_cases c2 : mk (fun i => d.2.1.testBit i && !((ccm (P + V * (d.1 : Int)) W).testBit i)) 31 = 0
      · rw [if_pos (by rw [c2]; rfl), if_pos (by rw [decide_eq_true c1, decide_eq_true c2]; rfl), L1, q_add]
      · rw [if_neg (by rw [q_zero hz2]; exact c2), if_neg (by rw [decide_eq_false c2, Bool.and_false]; decide)]
    · rw [if_neg (by rw [q_zero hz1]; exact c1), if_neg (by rw [decide_eq_false c1, Bool.false_and]; decide)]
  · unfold f_X1_meetsDemands_B3
    rw [ck35 hs, hL.1, if_pos (Int32.le_refl _)]
  · rw [atL_all]
    by_cases c : L.all (dmt P V W) = true
    · rw [if_pos c, if_pos c]
    · rw [if_neg c, if_neg c]

