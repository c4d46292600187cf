/-! THE CAMERA IS SET UP -/
theorem hps_tc {w : Wf} {st : Nat} {h : Nat → Wf} (hw : tcw w ≤ 3) (hh : ∀ i, i < st → tcw (h i) ≤ 3) : ∀ i, i < hst st → tcw (hps st h w i) ≤ 3 := by
  intro i hi
  unfold hst at hi
  unfold hps
  by_cases c : st = 4
  · rw [if_pos c] at hi ⊢
    by_cases c2 : i < 3
    · rw [if_pos c2]
      exact hh (i + 1) (by omega)
    · rw [if_neg c2]
      exact hw
  · rw [if_neg c] at hi ⊢
    by_cases c2 : i = st
    · rw [if_pos c2]
      exact hw
    · rw [if_neg c2]
      exact hh i (by omega)
theorem upw_ne {w : Wf} {i : Nat} {b : Int32} {j : Nat} (h : j ≠ i) : upw w i b j = w j := if_neg h
theorem upw_at (w : Wf) (i : Nat) (b : Int32) : upw w i b i = b := if_pos rfl
theorem upw_tc {w : Wf} {i : Nat} {b : Int32} (h : 8 ≠ i) : tcw (upw w i b) = tcw w := by
  unfold tcw
  rw [upw_ne h]
theorem upw_fc {w : Wf} {i : Nat} {b : Int32} (h : 36 ≠ i) : fcw (upw w i b) = fcw w := by
  unfold fcw
  rw [upw_ne h]
theorem upw_tm {w : Wf} {i : Nat} {b : Int32} (h : 33 ≠ i) : tmw (upw w i b) = tmw w := by
  unfold tmw
  rw [upw_ne h]
theorem wadd_is {w : Wf} {tc : Nat} {a1 a2 a3 a4 a5 a6 : Int32} (h : tc < 3) : tcw (wadd w tc a1 a2 a3 a4 a5 a6) = tc + 1 ∧ fcw (wadd w tc a1 a2 a3 a4 a5 a6) = fcw w ∧ tmw (wadd w tc a1 a2 a3 a4 a5 a6) = tmw w := by
  unfold tcw fcw tmw wadd
  refine ⟨?_, ?_, ?_⟩
  · rw [if_pos rfl, q_cl (by omega)]
  · rw [if_neg (by omega), if_neg (by omega)]
  · rw [if_neg (by omega), if_neg (by omega)]
/-- how far the camera is -/
def CM (S : St) (m st : Nat) : Prop := ∃ w h, Kc S w st h ∧ tcw w = m ∧ fcw w = 0 ∧ tmw w = 0 ∧ ∀ i, i < st → tcw (h i) ≤ 3
theorem CM.set {S : St} {st : Nat} (c : CM S 0 st) {i : Nat} {b : Int32} (hi : i < 8) (hb : S00.1 1 i ≤ b ∧ b ≤ S00.1 2 i) : ∃ v S2, f_X7_set S 4 (nI i) b = some (v, S2) ∧ CM S2 0 (hst st) := by
  obtain ⟨w, h, k, e1, e2, e3, e4⟩ := c
  obtain ⟨S2, g1, k2⟩ := k_set k hi hb (Or.inr e2)
  exact ⟨_, S2, g1, _, _, k2, by rw [upw_tc (by omega), e1], by rw [upw_fc (by omega), e2], by rw [upw_tm (by omega), e3], hps_tc (by omega) e4⟩
theorem CM.cs {S : St} {m st : Nat} (c : CM S m st) : CSh S := by
  obtain ⟨w, h, k, -⟩ := c
  exact k.cs
theorem CM.add {S : St} {m st : Nat} (c : CM S m st) (hm : m < 3) {y : Nat} (hy : y < 2147483648) : ∃ v S2, f_X7_thing S 4 (nI y - nI y / 5 * 5) ((nI y - nI y / 5 * 5) + ((nI y / 8) - (nI y / 8) / 5 * 5)) (100 * (((nI y / 64) - (nI y / 64) / 16 * 16) - 3)) (10 * (((nI y / 1024) - (nI y / 1024) / 21 * 21) - 10)) (50 + (50 * ((nI y / 32768) - (nI y / 32768) / 12 * 12))) ((nI y / 524288) - (nI y / 524288) / 256 * 256) = some (v, S2) ∧ CM S2 (m + 1) (hst st) := by
  obtain ⟨w, h, k, e1, e2, e3, e4⟩ := c
  have d1 : nI y - nI y / 5 * 5 = nI (y % 5) := q_mod (b := 5) hy (by omega) (by omega)
  have d2 : nI y / 8 = nI (y / 8) := q_div (b := 8) hy (by omega)
  have d3 : nI y / 64 = nI (y / 64) := q_div (b := 64) hy (by omega)
  have d4 : nI y / 1024 = nI (y / 1024) := q_div (b := 1024) hy (by omega)
  have d5 : nI y / 32768 = nI (y / 32768) := q_div (b := 32768) hy (by omega)
  have d6 : nI y / 524288 = nI (y / 524288) := q_div (b := 524288) hy (by omega)
  have m2 : nI (y / 8) - nI (y / 8) / 5 * 5 = nI (y / 8 % 5) := q_mod (b := 5) (by omega) (by omega) (by omega)
  have m3 : nI (y / 64) - nI (y / 64) / 16 * 16 = nI (y / 64 % 16) := q_mod (b := 16) (by omega) (by omega) (by omega)
  have m4 : nI (y / 1024) - nI (y / 1024) / 21 * 21 = nI (y / 1024 % 21) := q_mod (b := 21) (by omega) (by omega) (by omega)
  have m5 : nI (y / 32768) - nI (y / 32768) / 12 * 12 = nI (y / 32768 % 12) := q_mod (b := 12) (by omega) (by omega) (by omega)
  have m6 : nI (y / 524288) - nI (y / 524288) / 256 * 256 = nI (y / 524288 % 256) := q_mod (b := 256) (by omega) (by omega) (by omega)
  simp only [d1, d2, d3, d4, d5, d6, m2, m3, m4, m5, m6]
  have h1 : y % 5 < 5 := Nat.mod_lt _ (by omega)
  have h2 : y / 8 % 5 < 5 := Nat.mod_lt _ (by omega)
  have h3 : y / 64 % 16 < 16 := Nat.mod_lt _ (by omega)
  have h4 : y / 1024 % 21 < 21 := Nat.mod_lt _ (by omega)
  have h5 : y / 32768 % 12 < 12 := Nat.mod_lt _ (by omega)
  have h6 : y / 524288 % 256 < 256 := Nat.mod_lt _ (by omega)
  generalize y % 5 = b1 at *
  generalize y / 8 % 5 = b2 at *
  generalize y / 64 % 16 = b3 at *
  generalize y / 1024 % 21 = b4 at *
  generalize y / 32768 % 12 = b5 at *
  generalize y / 524288 % 256 = b6 at *
  have x3 : (100 : Int32) * (nI b3 - 3) = iI (100 * ((b3 : Int) - 3)) := by
    rw [iI_nat, show (3 : Int32) = iI 3 from rfl, show (100 : Int32) = iI 100 from rfl, iI_sub, iI_mul]
  have x4 : (10 : Int32) * (nI b4 - 10) = iI (10 * ((b4 : Int) - 10)) := by
    rw [iI_nat, show (10 : Int32) = iI 10 from rfl, iI_sub, iI_mul]
  have x5 : (50 : Int32) + 50 * nI b5 = nI (50 + 50 * b5) := by
    rw [show (50 : Int32) = nI 50 from rfl, q_mul, q_add]
  rw [x3, x4, x5, q_add]
  obtain ⟨S2, g1, k2⟩ := k_thing k (a1 := nI b1) (a2 := nI (b1 + b2)) (a3 := iI (100 * ((b3 : Int) - 3))) (a4 := iI (10 * ((b4 : Int) - 10))) (a5 := nI (50 + 50 * b5)) (a6 := nI b6) (by omega) (by rw [L0, L9, q_le (by omega) (by omega), q_le (by omega) (by omega)]; omega) (by rw [L9, q_le (by omega) (by omega), q_le (by omega) (by omega)]; omega) (by rw [show (-20000 : Int32) = iI (-20000) from rfl, show (20000 : Int32) = iI 20000 from rfl, iI_le (by omega) (by omega) (by omega) (by omega), iI_le (by omega) (by omega) (by omega) (by omega)]; omega) (by rw [show (-200 : Int32) = iI (-200) from rfl, show (200 : Int32) = iI 200 from rfl, iI_le (by omega) (by omega) (by omega) (by omega), iI_le (by omega) (by omega) (by omega) (by omega)]; omega) (by rw [L50, L1600, q_le (by omega) (by omega), q_le (by omega) (by omega)]; omega) (by rw [L0, L255, q_le (by omega) (by omega), q_le (by omega) (by omega)]; omega)
  obtain ⟨f1, f2, f3⟩ := wadd_is (w := w) (tc := tcw w) (a1 := nI b1) (a2 := nI (b1 + b2)) (a3 := iI (100 * ((b3 : Int) - 3))) (a4 := iI (10 * ((b4 : Int) - 10))) (a5 := nI (50 + 50 * b5)) (a6 := nI b6) (by omega)
  exact ⟨_, S2, g1, _, _, k2, by rw [f1, e1], by rw [f2, e2], by rw [f3, e3], hps_tc (by omega) e4⟩
theorem l_camera (g : GG) (hL : gl g ≤ 260) {S : St} (c : CM S 0 0) : ∃ S', f_L_camera g S 4 = some S' ∧ CM S' 3 4 := by
  obtain ⟨r1, y1, z1⟩ := e_Lcell g S hL (j := 0) (by omega)
  have n1 : nI r1 - nI r1 / 10 * 10 = nI (r1 % 10) := q_mod (b := 10) y1 (by omega) (by omega)
  have l1 : r1 % 10 < 10 := Nat.mod_lt _ (by omega)
  obtain ⟨v1, S1, g1, c1⟩ := c.set (i := 0) (b := nI (1 + r1 % 10)) (by omega) (by
    show (1 : Int32) ≤ nI (1 + r1 % 10) ∧ nI (1 + r1 % 10) ≤ 10
    rw [L1, L10, q_le (by omega) (by omega), q_le (by omega) (by omega)]
    omega)
  obtain ⟨r2, y2, z2⟩ := e_Lcell g S1 hL (j := 1) (by omega)
  have n2 : nI r2 - nI r2 / 13 * 13 = nI (r2 % 13) := q_mod (b := 13) y2 (by omega) (by omega)
  have l2 : r2 % 13 < 13 := Nat.mod_lt _ (by omega)
  obtain ⟨v2, S2, g2, c2⟩ := c1.set (i := 1) (b := nI (4 + r2 % 13)) (by omega) (by
    show (4 : Int32) ≤ nI (4 + r2 % 13) ∧ nI (4 + r2 % 13) ≤ 16
    rw [L4, L16, q_le (by omega) (by omega), q_le (by omega) (by omega)]
    omega)
  obtain ⟨r3, y3, z3⟩ := e_Lcell g S2 hL (j := 2) (by omega)
  have n3 : nI r3 - nI r3 / 4 * 4 = nI (r3 % 4) := q_mod (b := 4) y3 (by omega) (by omega)
  have l3 : r3 % 4 < 4 := Nat.mod_lt _ (by omega)
  obtain ⟨v3, S3, g3, c3⟩ := c2.set (i := 2) (b := nI (r3 % 4)) (by omega) (by
    show (0 : Int32) ≤ nI (r3 % 4) ∧ nI (r3 % 4) ≤ 9
    rw [L0, L9, q_le (by omega) (by omega), q_le (by omega) (by omega)]
    omega)
  obtain ⟨r4, y4, z4⟩ := e_Lcell g S3 hL (j := 3) (by omega)
  have n4 : nI r4 - nI r4 / 60 * 60 = nI (r4 % 60) := q_mod (b := 60) y4 (by omega) (by omega)
  have l4 : r4 % 60 < 60 := Nat.mod_lt _ (by omega)
  obtain ⟨v4, S4, g4, c4⟩ := c3.set (i := 3) (b := nI (1 + r4 % 60)) (by omega) (by
    show (1 : Int32) ≤ nI (1 + r4 % 60) ∧ nI (1 + r4 % 60) ≤ 255
    rw [L1, L255, q_le (by omega) (by omega), q_le (by omega) (by omega)]
    omega)
  have c4 : CM S4 0 4 := c4
  obtain ⟨S5, p, q⟩ := wl2_inv (F := f_L_camera_B63 g 4 (fun (S_16 : St) => (some S_16))) (kx := fun (S_16 : St) => (some S_16)) (n := 3) (fun m S' => CM S' m 4) (fun m S' kk hm cm => by
    obtain ⟨r, y, z⟩ := e_Lcell g S' hL (j := 4 + m) (by omega)
    obtain ⟨v, S6, g6, c6⟩ := cm.add hm y
    refine ⟨S6, c6, ?_⟩
    unfold f_L_camera_B63
    rw [if_neg (by rw [L3, q_le (by omega) (by omega)]; omega), show (4 : Int32) + nI m = nI (4 + m) from (by rw [L4, q_add]), z, bnd_s]
    simp only [ck_t (show ¬ (5 : Int32) = 0 by decide), ck_t (show ¬ (8 : Int32) = 0 by decide), ck_t (show ¬ (64 : Int32) = 0 by decide), ck_t (show ¬ (16 : Int32) = 0 by decide), ck_t (show ¬ (1024 : Int32) = 0 by decide), ck_t (show ¬ (21 : Int32) = 0 by decide), ck_t (show ¬ (32768 : Int32) = 0 by decide), ck_t (show ¬ (12 : Int32) = 0 by decide), ck_t (show ¬ (524288 : Int32) = 0 by decide), ck_t (show ¬ (256 : Int32) = 0 by decide)]
    rw [ck7 cm.cs, g6, bnd2_s, L1, q_add]) (fun S' kk cm => by
    unfold f_L_camera_B63
    rw [if_pos (by rw [L3]; exact Int32.le_refl _)]) 3 0 FU S4 (by omega) (by decide) c4
  rw [show nI 0 = (0 : Int32) from rfl] at q
  refine ⟨S5, ?_, p⟩
  have z1' : f_L_cell g S 0 = some (nI r1) := z1
  have z2' : f_L_cell g S1 1 = some (nI r2) := z2
  have z3' : f_L_cell g S2 2 = some (nI r3) := z3
  have z4' : f_L_cell g S3 3 = some (nI r4) := z4
  have g1' : f_X7_set S 4 0 (nI (1 + r1 % 10)) = some (v1, S1) := g1
  have g2' : f_X7_set S1 4 1 (nI (4 + r2 % 13)) = some (v2, S2) := g2
  have g3' : f_X7_set S2 4 2 (nI (r3 % 4)) = some (v3, S3) := g3
  have g4' : f_X7_set S3 4 3 (nI (1 + r4 % 60)) = some (v4, S4) := g4
  have a1 : (1 : Int32) + nI (r1 % 10) = nI (1 + r1 % 10) := by rw [L1, q_add]
  have a2 : (4 : Int32) + nI (r2 % 13) = nI (4 + r2 % 13) := by rw [L4, q_add]
  have a4 : (1 : Int32) + nI (r4 % 60) = nI (1 + r4 % 60) := by rw [L1, q_add]
  unfold f_L_camera
  rw [z1', bnd_s, ck_t (by decide), ck7 c.cs, n1, a1, g1', bnd2_s, z2', bnd_s, ck_t (by decide), ck7 c1.cs, n2, a2, g2', bnd2_s, z3', bnd_s, ck_t (by decide), ck7 c2.cs, n3, g3', bnd2_s, z4', bnd_s, ck_t (by decide), ck7 c3.cs, n4, a4, g4', bnd2_s]
  exact q
