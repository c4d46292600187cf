/-- what the model holds of an order that is read -/
def OM (ch : Tx) (p : Nat) (S : St) : Prop := RM S (fin ch p) ∧ ((fin ch p).2 = false → ∀ k, k < cntL (ch p) → S.1 130 k = vl ch p k)
theorem e_form {S : St} (hm : MSh S) {tx : Nat → Int32} {len p : Nat} (ht : TxO tx len) (hc : TM S tx len) (hp : p < len) (h12 : S.1 124 12 = nI p) : ∃ S', f_X8_form S 124 = some (nI (chN tx len p), S') ∧ Ex PQ S S' ∧ OM (chN tx len) p S' := by
  unfold f_X8_form
  have l80 := ht.1
  rw [ck8 hm, vlt_s]
  generalize hS1 : upI S 124 14 (-1000000) = S1
  have x1 : Ex PQ S S1 := by
    rw [← hS1]
    exact Ex.up (Or.inl ⟨rfl, by omega⟩)
  have m1 := hm.ex x1
  have c1 := hc.pq x1
  have g12 : S1.1 124 12 = nI p := by rw [← hS1, upI_at, if_neg (by omega)]; exact h12
  have g14 : S1.1 124 14 = -1000000 := by rw [← hS1, upI_at, if_pos ⟨rfl, rfl⟩]
  have hlk := e_look m1 ht c1 (p := p) (by omega) g12
  have elk : lkM (chN tx len) len p = nI (chN tx len p) := if_pos hp
  have hle := chN_le ht p
  have q : ∀ k : Nat, k ≤ 126 → (nI (chN tx len p) = nI k ↔ chN tx len p = k) := fun k hk => q_eq (by omega) (by omega)
  rw [ck8 m1, hlk, bnd_s, elk]
  -- behind a letter
  have J103 : ∀ (S2 : St), MSh S2 → TM S2 tx len → Ex PQ S S2 → okL (chN tx len p) = true → RM S2 (sq (chN tx len) p (cntL (chN tx len p))) → ((sq (chN tx len) p (cntL (chN tx len p))).2 = false → ∀ k, k < cntL (chN tx len p) → S2.1 130 k = vl (chN tx len) p k) → ∃ S', f_X8_form_J103 S2 124 (nI (chN tx len p)) = some (nI (chN tx len p), S') ∧ Ex PQ S S' ∧ OM (chN tx len) p S' := by
    intro S2 m2 c2 x2 hk r2 v2
    unfold f_X8_form_J103
    have hb := sq_le (chN tx len) p (cntL (chN tx len p))
    have hcn := cntL_le (chN tx len p)
    obtain ⟨S3, k1, k2, k3⟩ := e_sign m2 (c := 59) ht c2 (show (sq (chN tx len) p (cntL (chN tx len p))).1 < 500 by omega) (by omega) (by omega) r2
    have ef : fin (chN tx len) p = sg1 (chN tx len) 59 (sq (chN tx len) p (cntL (chN tx len p))) := if_pos hk
    rw [ck8 m2, show (59 : Int32) = nI 59 from rfl, k1, bnd_s]
    refine ⟨S3, rfl, x2.tr (k3.wk (fun x j q => Or.inl q)), by rw [ef]; exact k2, fun h k hk => ?_⟩
    rw [k3.2 _ _ (by omega)]
    exact v2 (fin_ok h).2 k hk
  -- a number read as the k-th
  have step : ∀ (S2 : St) (k : Nat), k < 6 → MSh S2 → TM S2 tx len → Ex PQ S S2 → RM S2 (sqp (chN tx len) (sq (chN tx len) p k) k) → ((sq (chN tx len) p k).2 = false → ∀ i, i < k → S2.1 130 i = vl (chN tx len) p i) → ∃ S', f_X8_number S2 124 (nI k) = some S' ∧ MSh S' ∧ TM S' tx len ∧ Ex PQ S S' ∧ RM S' (sq (chN tx len) p (k + 1)) ∧ ((sq (chN tx len) p (k + 1)).2 = false → ∀ i, i < k + 1 → S'.1 130 i = vl (chN tx len) p i) := by
    intro S2 k hk m2 c2 x2 r2 v2
    have hb := sq_le (chN tx len) p k
    have hb2 := sqp_le (chN tx len) (sq (chN tx len) p k) k
    obtain ⟨S3, k1, k2, k3, k4, k5⟩ := e_number m2 (k := k) ht c2 (show (sqp (chN tx len) (sq (chN tx len) p k) k).1 < 500 by omega) hk r2
    refine ⟨S3, k1, m2.ex k5, c2.pq k5, x2.tr k5, by rw [sq_s]; exact k2, fun h i hi => ?_⟩
    have h2 : (sqp (chN tx len) (sq (chN tx len) p k) k).2 = false := by
      cases hz : (sqp (chN tx len) (sq (chN tx len) p k) k).2 with
      | false => rfl
      | true =>
        rw [sq_s, nm1_b hz, hz] at h
        cases h
    have h1 : (sq (chN tx len) p k).2 = false := by
      cases hz : (sq (chN tx len) p k).2 with
      | false => rfl
      | true =>
        rw [sqp_b hz, hz] at h2
        cases h2
    by_cases ci : i = k
    · rw [ci]
      exact k3 h2
    · rw [k4 i ci]
      exact v2 h1 i (by omega)
  have J51 : okL (chN tx len p) = true → ∃ S', f_X8_form_J51 S1 124 (nI (chN tx len p)) = some (nI (chN tx len p), S') ∧ Ex PQ S S' ∧ OM (chN tx len) p S' := by
    intro hk
    unfold f_X8_form_J51
    rw [ck8 m1, ck8 m1, vlt_s, g12, L1, q_add]
    generalize hS2 : upI S1 124 12 (nI (p + 1)) = S2
    have x2 : Ex PQ S1 S2 := by
      rw [← hS2]
      exact Ex.up (Or.inl ⟨rfl, by omega⟩)
    have m2 := m1.ex x2
    have c2 := c1.pq x2
    have r0 : RM S2 (sq (chN tx len) p 0) := by
      refine ⟨?_, ?_⟩
      · rw [← hS2, upI_at, if_pos ⟨rfl, rfl⟩]
        rfl
      · rw [← hS2, upI_at, if_neg (by omega)]
        exact g14
    have k72 : ∀ (S3 : St) (kx : St → Option (Int32 × St)), ¬ chN tx len p = 116 → wl2 (f_X8_form_B74 124 (nI (chN tx len p)) kx) FU S3 1 = kx S3 := by
      intro S3 kx hne
      show f_X8_form_B74 124 (nI (chN tx len p)) kx (wl2 (f_X8_form_B74 124 (nI (chN tx len p)) kx) 999999) S3 1 = _
      generalize wl2 (f_X8_form_B74 124 (nI (chN tx len p)) kx) 999999 = kk
      unfold f_X8_form_B74
      rw [if_neg (by decide), if_neg (show ¬ nI (chN tx len p) = 116 from fun z => hne ((q 116 (by omega)).1 z))]
    by_cases c115 : chN tx len p = 115
    · rw [if_pos (by rw [c115]; rfl)]
      unfold f_X8_form_J72
      rw [k72 S2 _ (by omega)]
      have ec : cntL (chN tx len p) = 0 := by rw [c115]; rfl
      exact J103 S2 m2 c2 (x1.tr x2) hk (by rw [ec]; exact r0) (fun _ k hk => by rw [ec] at hk; omega)
    · rw [if_neg (show ¬ nI (chN tx len p) = 115 from fun z => c115 ((q 115 (by omega)).1 z))]
      obtain ⟨S3, k1, m3, c3, x3, r3, v3⟩ := step S2 0 (by omega) m2 c2 (x1.tr x2) r0 (fun _ i hi => by omega)
      have k1' : f_X8_number S2 124 0 = some S3 := k1
      rw [ck8 m2, k1', bnd_s]
      unfold f_X8_form_J72
      by_cases c116 : chN tx len p = 116
      · have ec : cntL (chN tx len p) = 6 := by rw [c116]; rfl
        obtain ⟨S4, ⟨l0, l1, l2, l3, l4, l5⟩, l6⟩ := wl2_inv (F := f_X8_form_B74 124 (nI (chN tx len p)) (fun (S_6 : St) => (f_X8_form_J103 S_6 124 (nI (chN tx len p))))) (kx := (fun (S_6 : St) => (f_X8_form_J103 S_6 124 (nI (chN tx len p))))) (n := 6) (fun k S' => 1 ≤ k ∧ MSh S' ∧ TM S' tx len ∧ Ex PQ S S' ∧ RM S' (sq (chN tx len) p k) ∧ ((sq (chN tx len) p k).2 = false → ∀ i, i < k → S'.1 130 i = vl (chN tx len) p i)) (fun k Sa kk hk hP => by
          obtain ⟨l0, l1, l2, l3, l4, l5⟩ := hP
          unfold f_X8_form_B74
          have hb := sq_le (chN tx len) p k
          obtain ⟨Sb, b1, b2, b3⟩ := e_sign l1 (c := 44) ht l2 (show (sq (chN tx len) p k).1 < 500 by omega) (by omega) (by omega) l4
          have mb := l1.ex b3
          have xb : Ex PQ Sa Sb := b3.wk (fun x j q => Or.inl q)
          have es : sqp (chN tx len) (sq (chN tx len) p k) k = sg1 (chN tx len) 44 (sq (chN tx len) p k) := if_neg (by omega)
          obtain ⟨Sc, d1, d2, d3, d4, d5, d6⟩ := step Sb k hk mb (l2.pq xb) (l3.tr xb) (by rw [es]; exact b2) (fun h i hi => by rw [b3.2 _ _ (by omega)]; exact l5 h i hi)
          rw [if_neg (by rw [L6, q_le (by omega) (by omega)]; omega), if_pos (by rw [c116]; rfl), ck8 l1, show (44 : Int32) = nI 44 from rfl, b1, bnd_s, ck8 mb, d1, bnd_s, L1, q_add]
          exact ⟨Sc, ⟨by omega, d2, d3, d4, d5, d6⟩, rfl⟩) (fun Sa kk hP => by
          unfold f_X8_form_B74
          rw [if_pos (by decide)]) 5 1 FU S3 rfl (by decide) ⟨Nat.le_refl _, m3, c3, x3, r3, v3⟩
        rw [show (1 : Int32) = nI 1 from rfl, l6]
        exact J103 S4 l1 l2 l3 hk (by rw [ec]; exact l4) (by rw [ec]; exact l5)
      · rw [k72 S3 _ c116]
        have ec : cntL (chN tx len p) = 1 := by
          unfold cntL
          rw [if_neg c116, if_neg c115]
        exact J103 S3 m3 c3 x3 hk (by rw [ec]; exact r3) (by rw [ec]; exact v3)
  have okl : ∀ k, chN tx len p = k → okL k = true → okL (chN tx len p) = true := fun k h1 h2 => by rw [h1]; exact h2
  by_cases c1' : chN tx len p = 116
  · rw [if_pos (by rw [c1']; rfl)]
    exact J51 (okl _ c1' rfl)
  · rw [if_neg (show ¬ nI (chN tx len p) = 116 from fun z => c1' ((q 116 (by omega)).1 z))]
    by_cases c2' : chN tx len p = 103
    · rw [if_pos (by rw [c2']; rfl)]
      exact J51 (okl _ c2' rfl)
    · rw [if_neg (show ¬ nI (chN tx len p) = 103 from fun z => c2' ((q 103 (by omega)).1 z))]
      by_cases c3' : chN tx len p = 115
      · rw [if_pos (by rw [c3']; rfl)]
        exact J51 (okl _ c3' rfl)
      · rw [if_neg (show ¬ nI (chN tx len p) = 115 from fun z => c3' ((q 115 (by omega)).1 z))]
        by_cases c4' : chN tx len p = 98
        · rw [if_pos (by rw [c4']; rfl)]
          exact J51 (okl _ c4' rfl)
        · rw [if_neg (show ¬ nI (chN tx len p) = 98 from fun z => c4' ((q 98 (by omega)).1 z))]
          by_cases c5' : chN tx len p = 117
          · rw [if_pos (by rw [c5']; rfl)]
            exact J51 (okl _ c5' rfl)
          · have hk : okL (chN tx len p) = false := by
              unfold okL
              rw [decide_eq_false c1', decide_eq_false c2', decide_eq_false c3', decide_eq_false c4', decide_eq_false c5']
              rfl
            have ef : fin (chN tx len) p = (p, true) := if_neg (by rw [hk]; decide)
            rw [if_neg (show ¬ nI (chN tx len p) = 117 from fun z => c5' ((q 117 (by omega)).1 z)), ck8 m1, ck8 m1, vlt_s, g12]
            refine ⟨_, rfl, x1.upp (Or.inl ⟨rfl, by omega⟩), ?_, fun h => ?_⟩
            · rw [ef]
              refine ⟨?_, ?_⟩
              · rw [upI_at, if_neg (by omega)]
                exact g12
              · rw [upI_at, if_pos ⟨rfl, rfl⟩, if_pos rfl]
            · rw [ef] at h
              cases h
