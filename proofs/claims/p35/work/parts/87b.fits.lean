/-! WHAT FITS, WHERE ALL ROWS THAT SEE FIT AS IT IS NOW -/
/-- what the search for motions knows behind n of them -/
def RI (g : Nat → Nat → Bool) (n : Nat) (s : R5) : Prop := s.1 ≤ n ∧ ((∃ j, j < n ∧ g (j / 21) (j % 21) = false) → s.1 < n) ∧ ((∃ j, j < n ∧ g (j / 21) (j % 21) = true) → 0 < s.1) ∧ (s.1 ≠ 0 → ∃ a b : Nat, a ≤ b ∧ b < n ∧ s.2.1 = iI (zP (a / 21)) ∧ s.2.2.1 = iI (zV (a % 21)) ∧ s.2.2.2.1 = iI (zP (b / 21)) ∧ s.2.2.2.2 = iI (zV (b % 21)) ∧ a + s.1 ≤ b + 1 ∧ (s.1 = 1 → a = b))
theorem RI.step {g : Nat → Nat → Bool} {n : Nat} {s : R5} (h : RI g n s) : RI g (n + 1) (kp (g (n / 21) (n % 21)) (iI (zP (n / 21))) (iI (zV (n % 21))) s) := by
  obtain ⟨h1, h2, h3, h4⟩ := h
  unfold kp
  by_cases c : g (n / 21) (n % 21) = true
  · rw [if_pos c]
    refine ⟨?_, ?_, ?_, ?_⟩
    · show s.1 + 1 ≤ n + 1
      omega
    · rintro ⟨j, hj, e⟩
      show s.1 + 1 < n + 1
      have hne : j ≠ n := by
        rintro rfl
        rw [c] at e
        cases e
      have := h2 ⟨j, by omega, e⟩
      omega
    · intro _
      show 0 < s.1 + 1
      omega
    · intro _
      by_cases z : s.1 = 0
      · refine ⟨n, n, Nat.le_refl _, by omega, ?_, ?_, rfl, rfl, ?_, fun _ => rfl⟩
        · show (if s.1 = 0 then _ else _) = _
          rw [if_pos z]
        · show (if s.1 = 0 then _ else _) = _
          rw [if_pos z]
        · show n + (s.1 + 1) ≤ n + 1
          omega
      · obtain ⟨a, b, q1, q2, q3, q4, q5, q6, q7, q8⟩ := h4 z
        refine ⟨a, n, by omega, by omega, ?_, ?_, rfl, rfl, ?_, fun y => ?_⟩
        · show (if s.1 = 0 then _ else _) = _
          rw [if_neg z]
          exact q3
        · show (if s.1 = 0 then _ else _) = _
          rw [if_neg z]
          exact q4
        · show a + (s.1 + 1) ≤ n + 1
          omega
        · have y' : s.1 + 1 = 1 := y
          omega
  · rw [if_neg c]
    refine ⟨by omega, fun _ => by omega, ?_, fun z => ?_⟩
    · rintro ⟨j, hj, e⟩
      have hne : j ≠ n := by
        rintro rfl
        exact c e
      exact h3 ⟨j, by omega, e⟩
    · obtain ⟨a, b, q1, q2, q3⟩ := h4 z
      exact ⟨a, b, q1, by omega, q3⟩
theorem ri_I {g : Nat → Nat → Bool} {i : Nat} {s : R5} (h : RI g (21 * i) s) : ∀ k, k ≤ 21 → RI g (21 * i + k) (rsI g i s k)
  | 0, _ => h
  | k + 1, hk => by
    have ih := ri_I h k (by omega)
    have := ih.step
    rw [show (21 * i + k) / 21 = i by omega, show (21 * i + k) % 21 = k by omega] at this
    exact this
theorem ri_O (g : Nat → Nat → Bool) : ∀ i, RI g (21 * i) (rsO g i)
  | 0 => ⟨Nat.le_refl _, fun ⟨j, hj, _⟩ => by omega, fun ⟨j, hj, _⟩ => by omega, fun z => absurd rfl z⟩
  | i + 1 => by
    have := ri_I (ri_O g i) 21 (Nat.le_refl _)
    rw [show 21 * i + 21 = 21 * (i + 1) by omega] at this
    exact this
/-! positions and speeds that are tried -/
theorem q_tri {x : Int32} (h1 : ¬ x < -1000) (h2 : ¬ (2400 : Int32) < x) (h3 : x - x / 100 * 100 = 0) : ∃ i, i < 35 ∧ x = iI (zP i) := by
  rw [Int32.lt_iff_toInt_lt, show (-1000 : Int32).toInt = -1000 by decide] at h1
  rw [Int32.lt_iff_toInt_lt, show (2400 : Int32).toInt = 2400 by decide] at h2
  obtain ⟨z, hz, e⟩ : ∃ z : Int, z = x.toInt ∧ x = iI z := ⟨_, rfl, iI_of x⟩
  rw [← hz] at h1 h2
  have hx : (iI z).toInt = z := iI_int (by omega) (by omega)
  have htb : -10000 ≤ z.tdiv 100 ∧ z.tdiv 100 ≤ 10000 := by
    by_cases h0 : 0 ≤ z
    · rw [Int.tdiv_eq_ediv_of_nonneg h0]
      omega
    · have h9 := Int.neg_tdiv (-z) 100
      rw [Int.neg_neg, Int.tdiv_eq_ediv_of_nonneg (show 0 ≤ -z by omega)] at h9
      rw [h9]
      omega
  have hd : iI z / 100 = iI (z.tdiv 100) := by
    rw [← Int32.toInt_inj, Int32.toInt_div_of_ne_right _ _ (by decide), hx, iI_int (by omega) (by omega)]
    rfl
  rw [e, hd, show (100 : Int32) = iI 100 from rfl, iI_mul, iI_sub, show (0 : Int32) = iI 0 from rfl, iI_eq (by omega) (by omega) (by omega) (by omega)] at h3
  generalize z.tdiv 100 = t at htb h3
  refine ⟨(t + 10).toNat, by omega, ?_⟩
  rw [e]
  congr 1
  unfold zP
  omega
theorem q_trk {x : Int32} (h1 : ¬ x < -100) (h2 : ¬ (100 : Int32) < x) (h3 : x - x / 10 * 10 = 0) : ∃ i, i < 21 ∧ x = iI (zV i) := by
  rw [Int32.lt_iff_toInt_lt, show (-100 : Int32).toInt = -100 by decide] at h1
  rw [Int32.lt_iff_toInt_lt, show (100 : Int32).toInt = 100 by decide] at h2
  obtain ⟨z, hz, e⟩ : ∃ z : Int, z = x.toInt ∧ x = iI z := ⟨_, rfl, iI_of x⟩
  rw [← hz] at h1 h2
  have hx : (iI z).toInt = z := iI_int (by omega) (by omega)
  have htb : -10000 ≤ z.tdiv 10 ∧ z.tdiv 10 ≤ 10000 := by
    by_cases h0 : 0 ≤ z
    · rw [Int.tdiv_eq_ediv_of_nonneg h0]
      omega
    · have h9 := Int.neg_tdiv (-z) 10
      rw [Int.neg_neg, Int.tdiv_eq_ediv_of_nonneg (show 0 ≤ -z by omega)] at h9
      rw [h9]
      omega
  have hd : iI z / 10 = iI (z.tdiv 10) := by
    rw [← Int32.toInt_inj, Int32.toInt_div_of_ne_right _ _ (by decide), hx, iI_int (by omega) (by omega)]
    rfl
  rw [e, hd, show (10 : Int32) = iI 10 from rfl, iI_mul, iI_sub, show (0 : Int32) = iI 0 from rfl, iI_eq (by omega) (by omega) (by omega) (by omega)] at h3
  generalize z.tdiv 10 = t at htb h3
  refine ⟨(t + 10).toNat, by omega, ?_⟩
  rw [e]
  congr 1
  unfold zV
  omega
theorem q_ix {a : Nat} (h : a < 735) : (21 : Int32) * ((iI (zP (a / 21)) + 1000) / 100) + (iI (zV (a % 21)) + 100) / 10 = nI a := by
  have e1 : iI (zP (a / 21)) + 1000 = nI (100 * (a / 21)) := by
    rw [show (1000 : Int32) = iI 1000 from rfl, iI_add, iI_nat]
    congr 1
    unfold zP
    omega
  have e2 : iI (zV (a % 21)) + 100 = nI (10 * (a % 21)) := by
    rw [show (100 : Int32) = iI 100 from rfl, iI_add, iI_nat]
    congr 1
    unfold zV
    omega
  rw [e1, e2, show (100 : Int32) = nI 100 from rfl, show (10 : Int32) = nI 10 from rfl, show (21 : Int32) = nI 21 from rfl, q_div (by omega) (by omega), q_div (by omega) (by omega), q_mul, q_add]
  congr 1
  omega
section KC
variable {S : St} {w : Wf} {st : Nat} {h : Nat → Wf}
/-- whether all rows that see fit -/
def allf (w : Wf) : Bool := afit w w (tcw w) (fcw w) (Rw w) (Cw w)
theorem fit_row (k : Kc S w st h) {f : Nat} : (nI (mk (fitD w (tcw w) (Cw w) f (fbo w f)) (Rw w)) ||| nI (fbo w f &&& (1 <<< Rw w - 1)) = nI (1 <<< Rw w - 1)) ↔ allR (fun r => (fbo w f).testBit r || fit1 w w (tcw w) (Cw w) f r (fv1 w f 0 + nI r * w 2)) (Rw w) = true := by
  have hR := k.rn.2.2.1
  have hr2 := pow2_R k
  have hm := fbm_lt k f
  have hl := mk_lt (fitD w (tcw w) (Cw w) f (fbo w f)) (Rw w)
  have hp : (2 : Nat) ^ Rw w = 1 <<< Rw w := (Nat.one_shiftLeft _).symm
  have hor : mk (fitD w (tcw w) (Cw w) f (fbo w f)) (Rw w) ||| (fbo w f &&& (1 <<< Rw w - 1)) < 2 ^ Rw w := Nat.or_lt_two_pow hl (by omega)
  rw [q_or, q_eq (by omega) (by omega), allR_iff]
  have bit : ∀ r, r < Rw w → (mk (fitD w (tcw w) (Cw w) f (fbo w f)) (Rw w) ||| (fbo w f &&& (1 <<< Rw w - 1))).testBit r = ((fbo w f).testBit r || fit1 w w (tcw w) (Cw w) f r (fv1 w f 0 + nI r * w 2)) := fun r hr => by
    rw [Nat.testBit_or, mk_bit, Nat.testBit_and, Nat.one_shiftLeft, Nat.testBit_two_pow_sub_one]
    unfold fitD
    cases (fbo w f).testBit r <;> simp [hr]
  constructor
  · intro e r hr
    rw [← bit r hr, e, Nat.one_shiftLeft, Nat.testBit_two_pow_sub_one]
    simp [hr]
  · intro hall
    apply Nat.eq_of_testBit_eq
    intro r
    by_cases hr : r < Rw w
    · rw [bit r hr, hall r hr, Nat.one_shiftLeft, Nat.testBit_two_pow_sub_one]
      simp [hr]
    · rw [Nat.testBit_lt_two_pow (Nat.lt_of_lt_of_le hor (Nat.pow_le_pow_right (by omega) (by omega))), Nat.one_shiftLeft, Nat.testBit_two_pow_sub_one]
      simp [hr]
theorem l_fitsA (k : Kc S w st h) (a1 : Int32) (kx : St → Int32 → Option (Int32 × St)) : ∃ S', wl3 (f_L_fits_B12 4 a1 (nI (Rw w)) kx) FU S 1 0 = kx S' (if allf w = true then 1 else 0) ∧ Kc S' w st h := by
  have hR := k.rn.2.2.1
  have f5 := k.rn.2.2.2.2.2.2.2.1.2.2
  have hr2 := pow2_R k
  obtain ⟨S3, b, ⟨p1, p2⟩, q⟩ := wl3_inv (F := f_L_fits_B12 4 a1 (nI (Rw w)) kx) (kx := kx) (n := fcw w) (fun f S' b => Kc S' w st h ∧ b = if allR (fun f => allR (fun r => (fbo w f).testBit r || fit1 w w (tcw w) (Cw w) f r (fv1 w f 0 + nI r * w 2)) (Rw w)) f = true then 1 else 0) (fun f S' b kk hf hP => by
    obtain ⟨k3, rfl⟩ := hP
    have s3 := k3.cs
    have ea : nI f + 1 = nI (f + 1) := by rw [L1, q_add]
    have hlt : ¬ nI (fcw w) ≤ nI f := by
      rw [q_le (by omega) (by omega)]
      omega
    by_cases c : allR (fun f => allR (fun r => (fbo w f).testBit r || fit1 w w (tcw w) (Cw w) f r (fv1 w f 0 + nI r * w 2)) (Rw w)) f = true
    · obtain ⟨S4, g1, k4⟩ := k_fitting k3 hf
      have s4 := k4.cs
      have hsh : (1 : Int32) <<< (nI (Rw w) &&& 31) = nI (1 <<< Rw w) := q_shl 1 (by omega)
      have es : nI (1 <<< Rw w) - (1 : Int32) = nI (1 <<< Rw w - 1) := by rw [L1, q_sub (by omega)]
      rw [if_pos c]
      by_cases c2 : allR (fun r => (fbo w f).testBit r || fit1 w w (tcw w) (Cw w) f r (fv1 w f 0 + nI r * w 2)) (Rw w) = true
      · refine ⟨S4, 1, ⟨k4, ?_⟩, ?_⟩
        · rw [allR_s, c, c2]
          rfl
        · unfold f_L_fits_B12
          rw [ck7 s3, k_count1 k3, bnd_s, if_neg hlt, ea, if_neg (show ¬ (1 : Int32) = 0 by decide), ck7 s3, g1, bnd2_s, ck7 s4, k_frame1 k4 hf, bnd_s, hsh, es, if_pos ((fit_row k3).2 c2)]
      · refine ⟨S4, 0, ⟨k4, ?_⟩, ?_⟩
        · rw [allR_s, if_neg]
          rw [Bool.and_eq_true]
          exact fun z => c2 z.2
        · unfold f_L_fits_B12
          rw [ck7 s3, k_count1 k3, bnd_s, if_neg hlt, ea, if_neg (show ¬ (1 : Int32) = 0 by decide), ck7 s3, g1, bnd2_s, ck7 s4, k_frame1 k4 hf, bnd_s, hsh, es, if_neg (fun z => c2 ((fit_row k3).1 z))]
    · refine ⟨S', 0, ⟨k3, ?_⟩, ?_⟩
      · rw [allR_s, if_neg]
        rw [Bool.and_eq_true]
        exact fun z => c z.1
      · unfold f_L_fits_B12
        rw [if_neg c, ck7 s3, k_count1 k3, bnd_s, if_neg hlt, ea, if_pos (show (0 : Int32) = 0 from rfl)]) (fun S' b kk hP => by
    obtain ⟨k3, -⟩ := hP
    unfold f_L_fits_B12
    rw [ck7 k3.cs, k_count1 k3, bnd_s, if_pos (Int32.le_refl _)]) (fcw w) 0 FU S 1 (by omega) (by show fcw w < 1000000; omega) ⟨k, rfl⟩
  rw [show nI 0 = (0 : Int32) from rfl] at q
  refine ⟨S3, ?_, p1⟩
  rw [q, p2]
  rfl
theorem l_period (k : Kc S w st h) : ∃ p, p ≤ 20 ∧ w 5 = nI p ∧ (mk (fun p => allR (fun f => allR (rokp w (tcw w) (Cw w) f p) (Rw w)) (fcw w)) 21).testBit p = allf w := by
  obtain ⟨p, e, -, hp⟩ := k.ok.2.2.2.1.2.2.2.1
  refine ⟨p, hp, e, ?_⟩
  have ew : wper w p = w := by
    funext j
    unfold wper
    by_cases c : j = 5
    · rw [if_pos c, c, e]
    · rw [if_neg c]
  rw [mk_bit, decide_eq_true (show p < 21 by omega), Bool.true_and]
  unfold allf afit
  refine allR_ext (fun f _ => allR_ext (fun r _ => ?_))
  unfold rokp
  rw [okp_fit k.ok, ew]
theorem l_fitsM (k : Kc S w st h) {q : Nat} (hq : q < tcw w) : ∃ S', f_L_fits_J198 S 4 (nI q) (nI (rsO (mfit w q) 35).1) = some (1, S') ∧ Kc S' w st h := by
  have hI := ri_O (mfit w q) 35
  have mo : ∀ {S : St}, Kc S w st h → ∀ n, n ≤ 4 → ∃ S1, f_X7_motions S 4 (nI q) (nI n) = some (manw (rsO (mfit w q) 35) n, S1) ∧ Kc S1 w st h := fun k n hn => k_motions k hq hn
  generalize rsO (mfit w q) 35 = s at hI mo
  obtain ⟨h1, h2, h3, h4⟩ := hI
  unfold f_L_fits_J198 f_L_fits_J203
  by_cases z : s.1 = 0
  · have a1 : manw s 1 = -10000004 := by
      unfold manw
      rw [if_neg (by omega), if_pos z]
    have a4 : manw s 4 = -10000004 := by
      unfold manw
      rw [if_neg (by omega), if_pos z]
    obtain ⟨S1, g1, k1⟩ := mo k 1 (by omega)
    obtain ⟨S2, g2, k2⟩ := mo k1 4 (by omega)
    rw [a1] at g1
    rw [a4] at g2
    refine ⟨S2, ?_, k2⟩
    have g1' : f_X7_motions S 4 (nI q) 1 = some (-10000004, S1) := g1
    have g2' : f_X7_motions S1 4 (nI q) 4 = some (-10000004, S2) := g2
    rw [if_pos (show nI s.1 = 0 by rw [z]; rfl), if_neg (by decide), ck7 k.cs, g1', bnd2_s, if_pos rfl, ck7 k1.cs, g2', bnd2_s, if_pos rfl]
  · obtain ⟨a, b, q1, q2, q3, q4, q5, q6, q7, q8⟩ := h4 z
    have a1 : manw s 1 = iI (zP (a / 21)) := by
      unfold manw
      rw [if_neg (by omega), if_neg z, if_pos rfl, q3]
    have a2 : manw s 2 = iI (zV (a % 21)) := by
      unfold manw
      rw [if_neg (by omega), if_neg z, if_neg (by omega), if_pos rfl, q4]
    have a3 : manw s 3 = iI (zP (b / 21)) := by
      unfold manw
      rw [if_neg (by omega), if_neg z, if_neg (by omega), if_neg (by omega), if_pos rfl, q5]
    have a4 : manw s 4 = iI (zV (b % 21)) := by
      unfold manw
      rw [if_neg (by omega), if_neg z, if_neg (by omega), if_neg (by omega), if_neg (by omega), q6]
    obtain ⟨S1, g1, k1⟩ := mo k 1 (by omega)
    obtain ⟨S2, g2, k2⟩ := mo k1 2 (by omega)
    obtain ⟨S3, g3, k3⟩ := mo k2 3 (by omega)
    obtain ⟨S4, g4, k4⟩ := mo k3 4 (by omega)
    rw [a1] at g1
    rw [a2] at g2
    rw [a3] at g3
    rw [a4] at g4
    refine ⟨S4, ?_, k4⟩
    have g1' : f_X7_motions S 4 (nI q) 1 = some (iI (zP (a / 21)), S1) := g1
    have g2' : f_X7_motions S1 4 (nI q) 2 = some (iI (zV (a % 21)), S2) := g2
    have g3' : f_X7_motions S2 4 (nI q) 3 = some (iI (zP (b / 21)), S3) := g3
    have g4' : f_X7_motions S3 4 (nI q) 4 = some (iI (zV (b % 21)), S4) := g4
    have es : nI s.1 - 1 = nI (s.1 - 1) := by rw [L1, q_sub (by omega)]
    have eba : nI b - nI a = nI (b - a) := q_sub q1
    rw [if_neg (show ¬ nI s.1 = 0 by rw [L0, q_eq (by omega) (by omega)]; exact z), ck7 k.cs, g1', bnd2_s, ck_t (by decide), ck7 k1.cs, g2', bnd2_s, ck_t (by decide), vlt_s, q_ix (by omega), ck7 k2.cs, g3', bnd2_s, ck_t (by decide), ck7 k3.cs, g4', bnd2_s, ck_t (by decide), vlt_s, q_ix (by omega), if_neg (by decide), if_neg (show ¬ nI a < 0 by rw [L0, q_lt (by omega) (by omega)]; omega), if_neg (show ¬ (735 : Int32) ≤ nI b by rw [show (735 : Int32) = nI 735 from rfl, q_le (by omega) (by omega)]; omega), eba, es, if_neg (show ¬ nI (b - a) < nI (s.1 - 1) by rw [q_lt (by omega) (by omega)]; omega)]
    by_cases c : 1 < s.1
    · rw [if_pos (by rw [L1, q_lt (by omega) (by omega)]; exact c)]
    · rw [if_neg (by rw [L1, q_lt (by omega) (by omega)]; exact c), if_pos (by rw [q8 (by omega)])]
/-- a motion that is tried and is the thing's own -/
def ownm (w : Wf) (q : Nat) : Prop := ∃ i k, i < 35 ∧ k < 21 ∧ w (9 + 6 * q + 2) = iI (zP i) ∧ w (9 + 6 * q + 3) = iI (zV k)
theorem l_fitsJ (k : Kc S w st h) {q : Nat} (hq : q < tcw w) (t0 : Int32) (ht : t0 = 0 ∨ ownm w q) : ∃ S', f_L_fits_J127 S 4 (nI q) (if allf w = true then 1 else 0) t0 = some (1, S') ∧ Kc S' w st h := by
  obtain ⟨S1, g1, k1⟩ := k_motions k hq (n := 0) (by omega)
  obtain ⟨S2, g2, k2⟩ := k_periods k1
  obtain ⟨p, p1, p2, p3⟩ := l_period k2
  obtain ⟨S3, g3, k3⟩ := l_fitsM k2 hq
  have hI := ri_O (mfit w q) 35
  have own : ownm w q → ∃ j, j < 735 ∧ mfit w q (j / 21) (j % 21) = allf w := by
    rintro ⟨i, kk, hi, hk, e1, e2⟩
    refine ⟨21 * i + kk, by omega, ?_⟩
    rw [show (21 * i + kk) / 21 = i by omega, show (21 * i + kk) % 21 = kk by omega]
    have ew : wmot w q (zP i) (zV kk) = w := by
      funext j
      unfold wmot
      by_cases c : j = 9 + 6 * q + 2
      · rw [if_pos c, c, e1]
      · rw [if_neg c]
        by_cases c2 : j = 9 + 6 * q + 3
        · rw [if_pos c2, c2, e2]
        · rw [if_neg c2]
    unfold mfit
    rw [ew]
    rfl
  generalize rsO (mfit w q) 35 = s at g1 g3 hI
  obtain ⟨h1, h2, h3, h4⟩ := hI
  have hlm := mk_lt (fun p => allR (fun f => allR (rokp w (tcw w) (Cw w) f p) (Rw w)) (fcw w)) 21
  have h21 : (2 : Nat) ^ 21 = 2097152 := by decide
  have g1' : f_X7_motions S 4 (nI q) 0 = some (nI s.1, S1) := g1
  refine ⟨S3, ?_, k3⟩
  unfold f_L_fits_J127
  rw [ck7 k.cs, g1', bnd2_s, if_neg (show ¬ nI s.1 < 0 by rw [L0, q_lt (by omega) (by omega)]; omega), if_neg (show ¬ (735 : Int32) < nI s.1 by rw [show (735 : Int32) = nI 735 from rfl, q_lt (by omega) (by omega)]; omega), ck7 k1.cs, g2, bnd2_s, ck7 k2.cs, k_count15 k2, bnd_s, p2, e_Lhas (by omega) (by omega), bnd_s, p3, if_pos rfl]
  by_cases c : allf w = true
  · rw [if_pos c, if_neg (by decide)]
    have j81 : f_L_fits_J181 S2 4 (nI q) 1 t0 (nI s.1) = some (1, S3) := by
      unfold f_L_fits_J181
      rw [if_neg (by decide)]
      exact g3
    by_cases c2 : t0 = 0
    · rw [if_pos c2]
      exact j81
    · rw [if_neg c2]
      obtain ⟨j, hj, e⟩ := own (ht.resolve_left c2)
      have := h3 ⟨j, by omega, by rw [e, c]⟩
      rw [if_neg (show ¬ nI s.1 ≤ 0 by rw [L0, q_le (by omega) (by omega)]; omega)]
      exact j81
  · rw [if_neg c, if_pos rfl]
    unfold f_L_fits_J181
    rw [if_pos rfl]
    by_cases c2 : t0 = 0
    · rw [if_pos c2]
      exact g3
    · rw [if_neg c2]
      obtain ⟨j, hj, e⟩ := own (ht.resolve_left c2)
      have := h2 ⟨j, by omega, by rw [e]; simpa using c⟩
      rw [if_neg (show ¬ (735 : Int32) ≤ nI s.1 by rw [show (735 : Int32) = nI 735 from rfl, q_le (by omega) (by omega)]; omega)]
      exact g3
theorem l_fits (k : Kc S w st h) {q : Nat} (hq : q < tcw w) : ∃ S', f_L_fits S 4 (nI q) = some (1, S') ∧ Kc S' w st h := by
  unfold f_L_fits
  rw [ck7 k.cs, k_count10 k, bnd_s]
  generalize hkx : (fun (S_7 : St) (y3_6 : Int32) => _) = kx
  obtain ⟨S1, g1, k1⟩ := l_fitsA k (nI q) kx
  rw [g1, ← hkx]
  have j26 : ∃ S', f_L_fits_J126 S1 4 (nI q) (if allf w = true then 1 else 0) = some (1, S') ∧ Kc S' w st h := l_fitsJ k1 hq 0 (Or.inl rfl)
  show ∃ S', (chk (okc S1 7 4) _) = some (1, S') ∧ _
  rw [ck7 k1.cs, k_thingOf2 k1 hq, bnd_s, ck7 k1.cs, k_thingOf3 k1 hq, bnd_s]
  by_cases c1 : w (9 + 6 * q + 2) < -1000
  · rw [if_pos c1]; exact j26
  · rw [if_neg c1]
    by_cases c2 : (2400 : Int32) < w (9 + 6 * q + 2)
    · rw [if_pos c2]; exact j26
    · rw [if_neg c2, ck_t (by decide)]
      by_cases c3 : w (9 + 6 * q + 2) - w (9 + 6 * q + 2) / 100 * 100 = 0
      · rw [if_pos c3]
        by_cases c4 : w (9 + 6 * q + 3) < -100
        · rw [if_pos c4]; exact j26
        · rw [if_neg c4]
          by_cases c5 : (100 : Int32) < w (9 + 6 * q + 3)
          · rw [if_pos c5]; exact j26
          · rw [if_neg c5, ck_t (by decide)]
            by_cases c6 : w (9 + 6 * q + 3) - w (9 + 6 * q + 3) / 10 * 10 = 0
            · rw [if_pos c6]
              obtain ⟨i, hi, e1⟩ := q_tri c1 c2 c3
              obtain ⟨kk, hk, e2⟩ := q_trk c4 c5 c6
              exact l_fitsJ k1 hq 1 (Or.inr ⟨i, kk, hi, hk, e1, e2⟩)
            · rw [if_neg c6]; exact j26
      · rw [if_neg c3]; exact j26
end KC
