/-- the store at the start: the three static arrays -/
def S00 : St := (fun k j => if k = 1 then ([1, 4, 0, 1, 0, 0, 0, 0] : List Int32).getD j 0 else if k = 2 then ([10, 16, 9, 255, 255, 20, 20, 100] : List Int32).getD j 0 else if k = 3 then ([6, 12, 1, 40, 20, 0, 0, 50] : List Int32).getD j 0 else 0, fun _ _ => 0, 4)
set_option maxRecDepth 100000 in
theorem st_1 {b : Nat} {s : State} (h : (Jvm.Cond.and given_1 narrow_1).before #[Value.ref b] s = true) {A : Nat → Prop} (hA : ∀ a : Nat, a < s.heap.size → ¬ A a) : ∃ t : Nat, (Term.static "RowVotes" "LEAST_SETTINGS" "[I").eval #[Value.ref b] s none [] s = some (.ref t) ∧ va_T .int t 8 (fun j => .int (S00.1 1 j)) A s s.heap := by
  have hs := flat_of_before _ h
  refine va_Tof (by decide) (hs _ (by decide +kernel)) (va_eqt (z := 8) (hs _ (by decide +kernel))) (fun j hj => ?_) hA
  have hj8 : j = 0 ∨ j = 1 ∨ j = 2 ∨ j = 3 ∨ j = 4 ∨ j = 5 ∨ j = 6 ∨ j = 7 := by omega
  rcases hj8 with rfl | rfl | rfl | rfl | rfl | rfl | rfl | rfl
  · exact va_eqt (z := 1) (hs _ (by decide +kernel))
  · exact va_eqt (z := 4) (hs _ (by decide +kernel))
  · exact va_eqt (z := 0) (hs _ (by decide +kernel))
  · exact va_eqt (z := 1) (hs _ (by decide +kernel))
  · exact va_eqt (z := 0) (hs _ (by decide +kernel))
  · exact va_eqt (z := 0) (hs _ (by decide +kernel))
  · exact va_eqt (z := 0) (hs _ (by decide +kernel))
  · exact va_eqt (z := 0) (hs _ (by decide +kernel))
set_option maxRecDepth 100000 in
theorem st_2 {b : Nat} {s : State} (h : (Jvm.Cond.and given_1 narrow_1).before #[Value.ref b] s = true) {A : Nat → Prop} (hA : ∀ a : Nat, a < s.heap.size → ¬ A a) : ∃ t : Nat, (Term.static "RowVotes" "MOST_SETTINGS" "[I").eval #[Value.ref b] s none [] s = some (.ref t) ∧ va_T .int t 8 (fun j => .int (S00.1 2 j)) A s s.heap := by
  have hs := flat_of_before _ h
  refine va_Tof (by decide) (hs _ (by decide +kernel)) (va_eqt (z := 8) (hs _ (by decide +kernel))) (fun j hj => ?_) hA
  have hj8 : j = 0 ∨ j = 1 ∨ j = 2 ∨ j = 3 ∨ j = 4 ∨ j = 5 ∨ j = 6 ∨ j = 7 := by omega
  rcases hj8 with rfl | rfl | rfl | rfl | rfl | rfl | rfl | rfl
  · exact va_eqt (z := 10) (hs _ (by decide +kernel))
  · exact va_eqt (z := 16) (hs _ (by decide +kernel))
  · exact va_eqt (z := 9) (hs _ (by decide +kernel))
  · exact va_eqt (z := 255) (hs _ (by decide +kernel))
  · exact va_eqt (z := 255) (hs _ (by decide +kernel))
  · exact va_eqt (z := 20) (hs _ (by decide +kernel))
  · exact va_eqt (z := 20) (hs _ (by decide +kernel))
  · exact va_eqt (z := 100) (hs _ (by decide +kernel))
set_option maxRecDepth 100000 in
theorem st_3 {b : Nat} {s : State} (h : (Jvm.Cond.and given_1 narrow_1).before #[Value.ref b] s = true) {A : Nat → Prop} (hA : ∀ a : Nat, a < s.heap.size → ¬ A a) : ∃ t : Nat, (Term.static "RowVotes" "FIRST_SETTINGS" "[I").eval #[Value.ref b] s none [] s = some (.ref t) ∧ va_T .int t 8 (fun j => .int (S00.1 3 j)) A s s.heap := by
  have hs := flat_of_before _ h
  refine va_Tof (by decide) (hs _ (by decide +kernel)) (va_eqt (z := 8) (hs _ (by decide +kernel))) (fun j hj => ?_) hA
  have hj8 : j = 0 ∨ j = 1 ∨ j = 2 ∨ j = 3 ∨ j = 4 ∨ j = 5 ∨ j = 6 ∨ j = 7 := by omega
  rcases hj8 with rfl | rfl | rfl | rfl | rfl | rfl | rfl | rfl
  · exact va_eqt (z := 6) (hs _ (by decide +kernel))
  · exact va_eqt (z := 12) (hs _ (by decide +kernel))
  · exact va_eqt (z := 1) (hs _ (by decide +kernel))
  · exact va_eqt (z := 40) (hs _ (by decide +kernel))
  · exact va_eqt (z := 20) (hs _ (by decide +kernel))
  · exact va_eqt (z := 0) (hs _ (by decide +kernel))
  · exact va_eqt (z := 0) (hs _ (by decide +kernel))
  · exact va_eqt (z := 50) (hs _ (by decide +kernel))
theorem AK.ofT {s : State} {t n : Nat} {f f' : Nat → Value} {A : Nat → Prop} {H : Heap} (h : va_T .int t n f A s H) (hf : ∀ j, j < n → f j = f' j) : AK .int s t n f' H := by
  obtain ⟨cell, h1, h2, h3, h4, h5, h6, h7⟩ := h
  exact ⟨cell, h1, h2, h3, h4, h5, fun j hj => by rw [h6 j hj, hf j hj], fun C hC => by cases hC⟩
set_option maxHeartbeats 4000000 in
set_option maxRecDepth 100000 in
theorem start_of {p : Program} {e : Env} {s : State} {m : MethodId} {below : List Frame} {meth : Method} {c : Code} (l : Launch) {b L : Nat} {xs : Nat → Int32} (C0 : lw_At p s m meth c b L xs) (hf : ∀ g : GG, gl g = L → gx g = xs → f_L_law g S00 = some 1) : W p l e room_1 s m #[Value.ref b] below meth c s.heap [] 0 0 (lw_Z below #[Value.ref b] s) (entryFrame m ([Value.ref b] : List Value).toArray 11) := by
  obtain ⟨hx, hb, hr, hml, hown, hts, hX, hbl, hlocks, hgv⟩ := id C0
  have hA : ∀ a : Nat, a < s.heap.size → ¬ s.heap.size ≤ a := fun a h => Nat.not_le.mpr h
  obtain ⟨t1, e1, T1⟩ := st_1 hgv (A := fun q => s.heap.size ≤ q) hA
  obtain ⟨t2, e2, T2⟩ := st_2 hgv (A := fun q => s.heap.size ≤ q) hA
  obtain ⟨t3, e3, T3⟩ := st_3 hgv (A := fun q => s.heap.size ≤ q) hA
  obtain ⟨c0, iS0, hKn0⟩ := u_known (C := RX0) (T := TX0) (N := 3) (n := 3) (ws := lw_tbl) hts (fun w hw => (vw_lay (RX0, TX0, 3) (List.mem_of_getElem? (i := 0) rfl) w hw).1) (hts _ wi_X0)
  obtain ⟨c1, iS1, hKn1⟩ := u_known (C := RX1) (T := TX1) (N := 11) (n := 11) (ws := lw_tbl) hts (fun w hw => (vw_lay (RX1, TX1, 11) (List.mem_of_getElem? (i := 1) rfl) w hw).1) (hts _ wi_X1)
  obtain ⟨c2, iS2, hKn2⟩ := u_known (C := RX2) (T := TX2) (N := 4) (n := 4) (ws := lw_tbl) hts (fun w hw => (vw_lay (RX2, TX2, 4) (List.mem_of_getElem? (i := 2) rfl) w hw).1) (hts _ wi_X2)
  obtain ⟨c3, iS3, hKn3⟩ := u_known (C := RX3) (T := TX3) (N := 10) (n := 10) (ws := lw_tbl) hts (fun w hw => (vw_lay (RX3, TX3, 10) (List.mem_of_getElem? (i := 3) rfl) w hw).1) (hts _ wi_X3)
  obtain ⟨c4, iS4, hKn4⟩ := u_known (C := RX4) (T := TX4) (N := 10) (n := 10) (ws := lw_tbl) hts (fun w hw => (vw_lay (RX4, TX4, 10) (List.mem_of_getElem? (i := 4) rfl) w hw).1) (hts _ wi_X4)
  obtain ⟨c5, iS5, hKn5⟩ := u_known (C := RX5) (T := TX5) (N := 6) (n := 6) (ws := lw_tbl) hts (fun w hw => (vw_lay (RX5, TX5, 6) (List.mem_of_getElem? (i := 5) rfl) w hw).1) (hts _ wi_X5)
  obtain ⟨c6, iS6, hKn6⟩ := u_known (C := RX6) (T := TX6) (N := 4) (n := 4) (ws := lw_tbl) hts (fun w hw => (vw_lay (RX6, TX6, 4) (List.mem_of_getElem? (i := 6) rfl) w hw).1) (hts _ wi_X6)
  obtain ⟨c7, iS7, hKn7⟩ := u_known (C := RX7) (T := TX7) (N := 8) (n := 8) (ws := lw_tbl) hts (fun w hw => (vw_lay (RX7, TX7, 8) (List.mem_of_getElem? (i := 7) rfl) w hw).1) (hts _ wi_X7)
  obtain ⟨dC, dI, hKc⟩ : ∃ (dC : Nat → ClassId) (dI : Nat → Nat → Nat), ∀ (k : Nat) (q : vw_C), vwCl[k]? = some q → u_Kn s q.1 q.2.1 q.2.2 (dC k) (dI k) := by
    refine ⟨fun k => match k with | 0 => c0 | 1 => c1 | 2 => c2 | 3 => c3 | 4 => c4 | 5 => c5 | 6 => c6 | _ => c7, fun k => match k with | 0 => iS0 | 1 => iS1 | 2 => iS2 | 3 => iS3 | 4 => iS4 | 5 => iS5 | 6 => iS6 | _ => iS7, ?_⟩
    intro k q hq
    have hk9 := vw_get8 hq
    have hk : k = 0 ∨ k = 1 ∨ k = 2 ∨ k = 3 ∨ k = 4 ∨ k = 5 ∨ k = 6 ∨ k = 7 := by omega
    rcases hk with rfl | rfl | rfl | rfl | rfl | rfl | rfl | rfl <;> cases hq
    · exact hKn0
    · exact hKn1
    · exact hKn2
    · exact hKn3
    · exact hKn4
    · exact hKn5
    · exact hKn6
    · exact hKn7
  obtain ⟨g, hg⟩ : ∃ g : GG, g = (s.heap.size, (fun k => if k = 2 then t2 else if k = 3 then t3 else t1), (dC, dI), (b, L, xs)) := ⟨_, rfl⟩
  have g1 : g.1 = s.heap.size := by rw [hg]
  have gL : gl g = L := by rw [hg]; rfl
  have gX : gx g = xs := by rw [hg]; rfl
  have gB : g.2.2.2.1 = b := by rw [hg]
  have hAg : Ag g = fun q => s.heap.size ≤ q := by
    unfold Ag
    rw [g1]
  have z1 : va_Z RX7 (snm 1) "[I" (.ref t1) (Ag g) s s.heap := va_Zof (args := #[Value.ref b]) (hts _ (List.mem_of_getElem? (i := 283) (by decide +kernel))) (hts _ wz_RX7) e1 (by rw [hAg]; exact hA)
  have z2 : va_Z RX7 (snm 2) "[I" (.ref t2) (Ag g) s s.heap := va_Zof (args := #[Value.ref b]) (hts _ (List.mem_of_getElem? (i := 286) (by decide +kernel))) (hts _ wz_RX7) e2 (by rw [hAg]; exact hA)
  have z3 : va_Z RX7 (snm 3) "[I" (.ref t3) (Ag g) s s.heap := va_Zof (args := #[Value.ref b]) (hts _ (List.mem_of_getElem? (i := 44) (by decide +kernel))) (hts _ wz_RX7) e3 (by rw [hAg]; exact hA)
  have o0 : va_AO RX0 s := va_AO.of (hts _ (List.mem_of_getElem? (i := 42) (by decide +kernel)))
  have o3 : va_AO RX3 s := va_AO.of (hts _ (List.mem_of_getElem? (i := 140) (by decide +kernel)))
  have o5 : va_AO RX5 s := va_AO.of (hts _ (List.mem_of_getElem? (i := 40) (by decide +kernel)))
  have hK : KU g s := by
    refine ⟨⟨?_, fun k q h => by simp at h⟩, fun w hw hgw a => word_at (State.WarmedH.refl s) (good_of_word hgw) (hts w hw), fun w hw hn => ?_, fun k k1 k2 => ?_, o0, o3, o5, by rw [gL, gX, gB]; exact hX, by rw [gB, g1]; exact hbl, by rw [g1]; exact Nat.le_refl _⟩
    · rw [hg]; exact hKc
    · have h1 := hts w hw
      cases w <;> first | (cases hn; done) | exact va_Nw.of rfl h1
    · have hk : k = 1 ∨ k = 2 ∨ k = 3 := by omega
      rcases hk with rfl | rfl | rfl
      · rw [show g.2.1 1 = t1 by rw [hg]; rfl]; exact z1
      · rw [show g.2.1 2 = t2 by rw [hg]; rfl]; exact z2
      · rw [show g.2.1 3 = t3 by rw [hg]; rfl]; exact z3
  have l1 : t1 < s.heap.size := by obtain ⟨cell, h, -⟩ := T1; exact (Array.getElem?_eq_some_iff.mp h).1
  have l2 : t2 < s.heap.size := by obtain ⟨cell, h, -⟩ := T2; exact (Array.getElem?_eq_some_iff.mp h).1
  have l3 : t3 < s.heap.size := by obtain ⟨cell, h, -⟩ := T3; exact (Array.getElem?_eq_some_iff.mp h).1
  have hP : HP g s S00 s.heap := by
    refine ⟨Nat.le_refl 4, by rw [g1]; rfl, fun k hk => ?_, fun k k1 k2 => ?_⟩
    · rw [hg]
      show (if k = 2 then t2 else if k = 3 then t3 else t1) < s.heap.size
      split
      · exact l2
      · split
        · exact l3
        · exact l1
    · have hk : k = 1 ∨ k = 2 ∨ k = 3 := by
        have : k < 4 := k2
        omega
      rcases hk with rfl | rfl | rfl
      · refine ⟨fun q => absurd q (by decide), fun _ => ?_⟩
        have ea : ad g 1 = t1 := by rw [ad_lo (by omega), hg]; rfl
        show AK .int s (ad g 1) 8 (fv g S00 1) s.heap
        rw [ea]
        exact AK.ofT T1 (fun j _ => (fv_int (c := 10) rfl rfl).symm)
      · refine ⟨fun q => absurd q (by decide), fun _ => ?_⟩
        have ea : ad g 2 = t2 := by rw [ad_lo (by omega), hg]; rfl
        show AK .int s (ad g 2) 8 (fv g S00 2) s.heap
        rw [ea]
        exact AK.ofT T2 (fun j _ => (fv_int (c := 10) rfl rfl).symm)
      · refine ⟨fun q => absurd q (by decide), fun _ => ?_⟩
        have ea : ad g 3 = t3 := by rw [ad_lo (by omega), hg]; rfl
        show AK .int s (ad g 3) 8 (fv g S00 3) s.heap
        rw [ea]
        exact AK.ofT T3 (fun j _ => (fv_int (c := 10) rfl rfl).symm)
  have hl := lv_entry ([.ref b]) (n := 11) (Nat.le_of_ble_eq_true rfl)
  have CC : CX (p, l, e, room_1, s, m, #[Value.ref b], below, meth, c) g code RL ret 11 room_1 := ⟨hx, hb, hml, hown, hr, hlocks, hK, rfl, by rw [g1]; exact Nat.le_refl _⟩
  have hsv : sv g = .ref b := by rw [hg]; rfl
  have SS : SX (p, l, e, room_1, s, m, #[Value.ref b], below, meth, c) g := ⟨g1, by rw [hsv], rfl⟩
  have k := c_L_law SS CC S00 1 (hf g gL gX) s.heap [] _ hP va_S.rf ⟨by rw [hml, hsv]; exact hl, trivial⟩
  rw [lg_entry_eq]
  exact k
