/-! THE LAW ANSWERS 1 -/
set_option maxRecDepth 100000 in
theorem law_c1 : (kd S00.2.2 = 7 ∧ nok 4 600000 7302249 S00.2.2 8) ∧ okc (newS S00) 7 S00.2.2 ∧ rok2 4 600000 7302249 119 4957 (newS S00).2.2 := by decide +kernel
set_option maxRecDepth 100000 in
theorem law_c2 : 124 = (newS S00).2.2 + 119 ∧ slT 124 = slT (newS S00).2.2 + 4957 := by decide +kernel
theorem law_one (g : GG) (hL : gl g ≤ 260) : f_L_law g S00 = some 1 := by
  obtain ⟨a1, a2, a3⟩ := law_c1
  have b1 := law_c2
  have e4 : S00.2.2 = 4 := rfl
  have e1 : f_X7_init (newS S00) S00.2.2 = some iS1 := i_1
  have n1 := i_n1
  have hK := Kc.start
  have z := fun j hj => @iW_0 j hj
  have hC : CM iS1 0 0 := ⟨iW, _, hK, by unfold tcw; rw [z 8 (by omega)]; rfl, by unfold fcw; rw [z 36 (by omega)]; rfl, by unfold tmw; rw [z 33 (by omega)]; rfl, fun i hi => by omega⟩
  clear hK
  generalize iS1 = T1 at *
  obtain ⟨T2, g2, w, h, k, c1, c2, c3, c4⟩ := l_camera g hL hC
  unfold f_L_law
  rw [ck_t a1, vlt_s, ck_t a2, ck_t a3, e1, bnd_s, n1, ck_t b1, ck_t rfl, e4, g2, bnd_s, ck7 k.cs, k_count0 k, bnd_s, if_pos (show nI (tcw w) = 3 by rw [c1]; rfl), ck7 k.cs, k_count6 k, bnd_s, if_pos (show nI 4 = (4 : Int32) from rfl)]
  unfold f_L_law_J37
  obtain ⟨S', ⟨w', st', h', k', l'⟩, q⟩ := wl4_run (F := f_L_law_B43 g 4 (fun (S_35 : St) (y2_34 : Int32) => (f_L_law_J414 g S_35 4 y2_34))) (kx := fun (S_35 : St) (y2_34 : Int32) => (f_L_law_J414 g S_35 4 y2_34)) (n := 26) (fun n S => ∃ w st h, Kc S w st h ∧ LI n w st h) (fun n S x kk hn hP => by
    obtain ⟨w, st, h, k, l⟩ := hP
    obtain ⟨S', x', p, e⟩ := l_step g hL hn k l x (fun (S_35 : St) (y2_34 : Int32) => (f_L_law_J414 g S_35 4 y2_34)) kk
    exact ⟨S', x', p, e⟩) (fun S x kk hP => by
    unfold f_L_law_B43
    rw [if_pos (show (26 : Int32) ≤ nI 26 by decide)]) 26 0 FU T2 0 (by omega) (by decide) ⟨w, 4, h, k, c1, by omega, c4, by omega, fun f hf => by omega⟩
  rw [show nI 0 = (0 : Int32) from rfl] at q
  rw [q]
  exact l_end k' l' g
