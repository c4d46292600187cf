/-! THE LOOP OVER THE CALLS -/
theorem k_ret {S S2 : St} {v c : Int32} (h : (some (c, S) : Option (Int32 × St)) = some (v, S2)) (hn : S2.2.2 = 131) : okc S 8 124 := by
  have e := congrArg Prod.snd (Option.some.inj h)
  have e' : S = S2 := e
  rw [e']
  exact ⟨rfl, by rw [hn]; decide⟩
theorem k_set {S S2 : St} {v : Int32} {a0 a1 : Int32} (h : f_X8_set S 124 a0 a1 = some (v, S2)) (hn : S2.2.2 = 131) : okc S 8 124 := by
  unfold f_X8_set at h
  obtain ⟨r, -, h⟩ := bnd_some h
  by_cases c : r = 0
  · rw [if_pos c] at h
    exact k_ret h hn
  · rw [if_neg c] at h
    by_cases c2 : (2 : Int32) < a0
    · rw [if_pos c2] at h
      unfold f_X8_set_J29 at h
      exact (chk_some h).1
    · rw [if_neg c2] at h
      exact (chk_some h).1
theorem k_thing {S S2 : St} {v : Int32} {a0 a1 a2 a3 a4 a5 : Int32} (h : f_X8_thing S 124 a0 a1 a2 a3 a4 a5 = some (v, S2)) (hn : S2.2.2 = 131) : okc S 8 124 := by
  unfold f_X8_thing at h
  obtain ⟨r, -, h⟩ := bnd_some h
  by_cases c : r = (-1000000)
  · rw [if_pos c] at h
    exact (chk_some h).1
  · rw [if_neg c] at h
    exact k_ret h hn
theorem k_turn {S S2 : St} {v : Int32} {a0 a1 : Int32} (h : f_X8_turn S 124 a0 a1 = some (v, S2)) (hn : S2.2.2 = 131) : okc S 8 124 := by
  unfold f_X8_turn at h
  exact (chk_some h).1
theorem k_blind {S S2 : St} {v : Int32} {a0 a1 : Int32} (h : f_X8_blind S 124 a0 a1 = some (v, S2)) (hn : S2.2.2 = 131) : okc S 8 124 := by
  unfold f_X8_blind at h
  obtain ⟨r, -, h⟩ := bnd_some h
  by_cases c : r = 0
  · rw [if_pos c] at h
    exact k_ret h hn
  · rw [if_neg c] at h
    obtain ⟨r2, -, h⟩ := bnd_some h
    by_cases c2 : r2 = 0
    · rw [if_pos c2] at h
      exact k_ret h hn
    · rw [if_neg c2] at h
      exact (chk_some h).1
theorem k_shoot {S S2 : St} {v : Int32} (h : f_X8_shoot S 124 = some (v, S2)) (hn : S2.2.2 = 131) : okc S 8 124 := by
  unfold f_X8_shoot at h
  exact (chk_some h).1
theorem k_forget {S S2 : St} {v : Int32} {a0 : Int32} (h : f_X8_forget S 124 a0 = some (v, S2)) (hn : S2.2.2 = 131) : okc S 8 124 := by
  unfold f_X8_forget at h
  exact (chk_some h).1
theorem k_pass {S S2 : St} {v : Int32} {a0 : Int32} (h : f_X8_pass S 124 a0 = some (v, S2)) (hn : S2.2.2 = 131) : okc S 8 124 := by
  unfold f_X8_pass at h
  obtain ⟨r, -, h⟩ := bnd_some h
  by_cases c : r = 0
  · rw [if_pos c] at h
    exact k_ret h hn
  · rw [if_neg c] at h
    exact (chk_some h).1
theorem k_shift {S S2 : St} {v : Int32} {a0 a1 : Int32} (h : f_X8_shift S 124 a0 a1 = some (v, S2)) (hn : S2.2.2 = 131) : okc S 8 124 := by
  unfold f_X8_shift at h
  exact (chk_some h).1
theorem k_dissent {S S2 : St} {v : Int32} {a0 a1 : Int32} (h : f_X8_dissent S 124 a0 a1 = some (v, S2)) (hn : S2.2.2 = 131) : okc S 8 124 := by
  unfold f_X8_dissent at h
  exact (chk_some h).1
theorem k_speed {S S2 : St} {v : Int32} {a0 a1 : Int32} (h : f_X8_speed S 124 a0 a1 = some (v, S2)) (hn : S2.2.2 = 131) : okc S 8 124 := by
  unfold f_X8_speed at h
  exact (chk_some h).1
theorem k_slant {S S2 : St} {v : Int32} {a0 : Int32} (h : f_X8_slant S 124 a0 = some (v, S2)) (hn : S2.2.2 = 131) : okc S 8 124 := by
  unfold f_X8_slant at h
  exact (chk_some h).1
theorem k_slantSpeed {S S2 : St} {v : Int32} {a0 : Int32} (h : f_X8_slantSpeed S 124 a0 = some (v, S2)) (hn : S2.2.2 = 131) : okc S 8 124 := by
  unfold f_X8_slantSpeed at h
  exact (chk_some h).1
theorem k_weighed {S S2 : St} {v : Int32} {a0 a1 : Int32} (h : f_X8_weighed S 124 a0 a1 = some (v, S2)) (hn : S2.2.2 = 131) : okc S 8 124 := by
  unfold f_X8_weighed at h
  exact (chk_some h).1
theorem k_judge {S S2 : St} {v : Int32} {a0 a1 : Int32} (h : f_X8_judge S 124 a0 a1 = some (v, S2)) (hn : S2.2.2 = 131) : okc S 8 124 := by
  unfold f_X8_judge at h
  exact (chk_some h).1
theorem k_bestWait {S S2 : St} {v : Int32} {a0 a1 : Int32} (h : f_X8_bestWait S 124 a0 a1 = some (v, S2)) (hn : S2.2.2 = 131) : okc S 8 124 := by
  unfold f_X8_bestWait at h
  exact (chk_some h).1
theorem k_motions {S S2 : St} {v : Int32} {a0 a1 : Int32} (h : f_X8_motions S 124 a0 a1 = some (v, S2)) (hn : S2.2.2 = 131) : okc S 8 124 := by
  unfold f_X8_motions at h
  exact (chk_some h).1
theorem k_periods {S S2 : St} {v : Int32} (h : f_X8_periods S 124 = some (v, S2)) (hn : S2.2.2 = 131) : okc S 8 124 := by
  unfold f_X8_periods at h
  exact (chk_some h).1
theorem k_undo {S S2 : St} {v : Int32} (h : f_X8_undo S 124 = some (v, S2)) (hn : S2.2.2 = 131) : okc S 8 124 := by
  unfold f_X8_undo at h
  exact (chk_some h).1
theorem k_type {S S2 : St} {v : Int32} {a0 : Int32} (h : f_X8_type S 124 a0 = some (v, S2)) (hn : S2.2.2 = 131) : okc S 8 124 := by
  unfold f_X8_type at h
  obtain ⟨r, -, h⟩ := bnd_some h
  by_cases c : r = 0
  · rw [if_pos c] at h
    exact k_ret h hn
  · rw [if_neg c] at h
    exact (chk_some h).1
theorem k_clearText {S S2 : St} {v : Int32} (h : f_X8_clearText S 124 = some (v, S2)) (hn : S2.2.2 = 131) : okc S 8 124 := by
  unfold f_X8_clearText at h
  exact (chk_some h).1
theorem k_fault {S S2 : St} {v : Int32} {a0 : Int32} (h : f_X8_fault S 124 a0 = some (v, S2)) (hn : S2.2.2 = 131) : okc S 8 124 := by
  unfold f_X8_fault at h
  obtain ⟨r, -, h⟩ := bnd_some h
  by_cases c : r = 0
  · rw [if_pos c] at h
    exact k_ret h hn
  · rw [if_neg c] at h
    exact (chk_some h).1
theorem k_play {S S2 : St} {v : Int32} (h : f_X8_play S 124 = some (v, S2)) (hn : S2.2.2 = 131) : okc S 8 124 := by
  unfold f_X8_play at h
  exact (chk_some h).1
theorem INV.n {N : Nat} {S : St} (h : INV N S) : S.2.2 = 131 := by
  obtain ⟨st, len, i1, i2, -⟩ := h
  exact i2.1
set_option maxRecDepth 100000 in
set_option maxHeartbeats 4000000 in
theorem law_step {xs : Nat → Int32} {L i : Nat} {S : St} (hL : L ≤ 3584) (hi : 7 * i + 7 ≤ L) (h : INV i S) (kx : St → Option Int32) (kk : St → Int32 → Option Int32) : ∃ S', INV (i + 1) S' ∧ f_L_law_B18 xs L 4 124 kx kk S (nI (7 * i)) = kk S' (nI (7 * (i + 1))) := by
  have hs : CSh S := by
    obtain ⟨st, len, i1, i2, -⟩ := id h
    exact i1.1
  have hm : MSh S := by
    obtain ⟨st, len, i1, i2, -⟩ := id h
    exact i2
  have e7 : nI (7 * i) + 7 = nI (7 * (i + 1)) := by
    rw [show (7 : Int32) = nI 7 from rfl, q_add]
    congr 1
  have kq : ∀ d, d < 7 → ∀ {β : Type} (o : Option β), chk (0 ≤ (nI (7 * i) + nI d) ∧ (nI (7 * i) + nI d).toNatClampNeg < L) o = o := fun d hd {β} o => by
    refine ck_t ⟨?_, ?_⟩ o
    · rw [q_add, L0, q_le (by omega) (by omega)]
      omega
    · rw [q_add, q_cl (by omega)]
      omega
  have k1 : ∀ {β : Type} (o : Option β), chk (0 ≤ (nI (7 * i) + 1) ∧ (nI (7 * i) + 1).toNatClampNeg < L) o = o := fun o => kq 1 (by omega) o
  have k2 : ∀ {β : Type} (o : Option β), chk (0 ≤ (nI (7 * i) + 2) ∧ (nI (7 * i) + 2).toNatClampNeg < L) o = o := fun o => kq 2 (by omega) o
  have k3 : ∀ {β : Type} (o : Option β), chk (0 ≤ (nI (7 * i) + 3) ∧ (nI (7 * i) + 3).toNatClampNeg < L) o = o := fun o => kq 3 (by omega) o
  have k4 : ∀ {β : Type} (o : Option β), chk (0 ≤ (nI (7 * i) + 4) ∧ (nI (7 * i) + 4).toNatClampNeg < L) o = o := fun o => kq 4 (by omega) o
  have k5 : ∀ {β : Type} (o : Option β), chk (0 ≤ (nI (7 * i) + 5) ∧ (nI (7 * i) + 5).toNatClampNeg < L) o = o := fun o => kq 5 (by omega) o
  have k6 : ∀ {β : Type} (o : Option β), chk (0 ≤ (nI (7 * i) + 6) ∧ (nI (7 * i) + 6).toNatClampNeg < L) o = o := fun o => kq 6 (by omega) o
  have k0 : ∀ {β : Type} (o : Option β), chk (0 ≤ nI (7 * i) ∧ (nI (7 * i)).toNatClampNeg < L) o = o := fun o => ck_t ⟨by rw [L0, q_le (by omega) (by omega)]; omega, by rw [q_cl (by omega)]; omega⟩ o
  have hend : ¬ Int32.ofNat L - 7 < nI (7 * i) := by
    show ¬ nI L - nI 7 < nI (7 * i)
    rw [q_sub (by omega), q_lt (by omega) (by omega)]
    omega
  unfold f_L_law_B18
  rw [if_neg hend, k0]
  generalize (xs (nI (7 * i)).toNatClampNeg) &&& 31 = z
  by_cases c0 : z = 0
  · obtain ⟨v, S1, S2, h1, h2, h3⟩ := op_set h (xs (nI (7 * i) + 1).toNatClampNeg) (xs (nI (7 * i) + 2).toNatClampNeg)
    have h1' : f_X7_set S 4 (xs (nI (7 * i) + 1).toNatClampNeg) (xs (nI (7 * i) + 2).toNatClampNeg) = some (v, S1) := h1
    have h2' : f_X8_set S1 124 (xs (nI (7 * i) + 1).toNatClampNeg) (xs (nI (7 * i) + 2).toNatClampNeg) = some (v, S2) := h2
    have hk : okc S1 8 124 := k_set h2' h3.n
    rw [if_pos c0, k1, k2, ck7 hs, h1', bnd2_s, k1, k2, ck_t hk, h2', bnd2_s, if_pos rfl, e7]
    exact ⟨S2, h3, rfl⟩
  rw [if_neg c0]
  by_cases c1 : z = 1
  · obtain ⟨v, S1, S2, h1, h2, h3⟩ := op_thing h (xs (nI (7 * i) + 1).toNatClampNeg) (xs (nI (7 * i) + 2).toNatClampNeg) (xs (nI (7 * i) + 3).toNatClampNeg) (xs (nI (7 * i) + 4).toNatClampNeg) (xs (nI (7 * i) + 5).toNatClampNeg) (xs (nI (7 * i) + 6).toNatClampNeg)
    have h1' : f_X7_thing S 4 (xs (nI (7 * i) + 1).toNatClampNeg) (xs (nI (7 * i) + 2).toNatClampNeg) (xs (nI (7 * i) + 3).toNatClampNeg) (xs (nI (7 * i) + 4).toNatClampNeg) (xs (nI (7 * i) + 5).toNatClampNeg) (xs (nI (7 * i) + 6).toNatClampNeg) = some (v, S1) := h1
    have h2' : f_X8_thing S1 124 (xs (nI (7 * i) + 1).toNatClampNeg) (xs (nI (7 * i) + 2).toNatClampNeg) (xs (nI (7 * i) + 3).toNatClampNeg) (xs (nI (7 * i) + 4).toNatClampNeg) (xs (nI (7 * i) + 5).toNatClampNeg) (xs (nI (7 * i) + 6).toNatClampNeg) = some (v, S2) := h2
    have hk : okc S1 8 124 := k_thing h2' h3.n
    rw [if_pos c1, k1, k2, k3, k4, k5, k6, ck7 hs, h1', bnd2_s, k1, k2, k3, k4, k5, k6, ck_t hk, h2', bnd2_s, if_pos rfl, e7]
    exact ⟨S2, h3, rfl⟩
  rw [if_neg c1]
  by_cases c2 : z = 2
  · obtain ⟨v, S1, S2, h1, h2, h3⟩ := op_turn h (xs (nI (7 * i) + 1).toNatClampNeg) (xs (nI (7 * i) + 2).toNatClampNeg)
    have h1' : f_X7_turn S 4 (xs (nI (7 * i) + 1).toNatClampNeg) (xs (nI (7 * i) + 2).toNatClampNeg) = some (v, S1) := h1
    have h2' : f_X8_turn S1 124 (xs (nI (7 * i) + 1).toNatClampNeg) (xs (nI (7 * i) + 2).toNatClampNeg) = some (v, S2) := h2
    have hk : okc S1 8 124 := k_turn h2' h3.n
    rw [if_pos c2, k1, k2, ck7 hs, h1', bnd2_s, k1, k2, ck_t hk, h2', bnd2_s, if_pos rfl, e7]
    exact ⟨S2, h3, rfl⟩
  rw [if_neg c2]
  by_cases c3 : z = 3
  · obtain ⟨v, h1, h2⟩ := oq_thingOf h (xs (nI (7 * i) + 1).toNatClampNeg) (xs (nI (7 * i) + 2).toNatClampNeg)
    have h1' : f_X7_thingOf S 4 (xs (nI (7 * i) + 1).toNatClampNeg) (xs (nI (7 * i) + 2).toNatClampNeg) = some v := h1
    have h2' : f_X8_thingOf S 124 (xs (nI (7 * i) + 1).toNatClampNeg) (xs (nI (7 * i) + 2).toNatClampNeg) = some v := h2
    rw [if_pos c3, k1, k2, ck7 hs, h1', bnd_s, k1, k2, ck8 hm, h2', bnd_s, if_pos rfl, e7]
    exact ⟨S, h.mono (by omega), rfl⟩
  rw [if_neg c3]
  by_cases c4 : z = 4
  · obtain ⟨v, S1, S2, h1, h2, h3⟩ := op_blind h (xs (nI (7 * i) + 1).toNatClampNeg) (xs (nI (7 * i) + 2).toNatClampNeg)
    have h1' : f_X7_blind S 4 (xs (nI (7 * i) + 1).toNatClampNeg) (xs (nI (7 * i) + 2).toNatClampNeg) = some (v, S1) := h1
    have h2' : f_X8_blind S1 124 (xs (nI (7 * i) + 1).toNatClampNeg) (xs (nI (7 * i) + 2).toNatClampNeg) = some (v, S2) := h2
    have hk : okc S1 8 124 := k_blind h2' h3.n
    rw [if_pos c4, k1, k2, ck7 hs, h1', bnd2_s, k1, k2, ck_t hk, h2', bnd2_s, if_pos rfl, e7]
    exact ⟨S2, h3, rfl⟩
  rw [if_neg c4]
  by_cases c5 : z = 5
  · obtain ⟨v, S1, h1, h2, h3⟩ := om_shows h (xs (nI (7 * i) + 1).toNatClampNeg) (xs (nI (7 * i) + 2).toNatClampNeg) (xs (nI (7 * i) + 3).toNatClampNeg)
    have h1' : f_X7_shows S 4 (xs (nI (7 * i) + 1).toNatClampNeg) (xs (nI (7 * i) + 2).toNatClampNeg) (xs (nI (7 * i) + 3).toNatClampNeg) = some (v, S1) := h1
    have h2' : f_X8_shows S1 124 (xs (nI (7 * i) + 1).toNatClampNeg) (xs (nI (7 * i) + 2).toNatClampNeg) (xs (nI (7 * i) + 3).toNatClampNeg) = some v := h2
    have hk : okc S1 8 124 := ⟨rfl, by rw [h3.n]; decide⟩
    rw [if_pos c5, k1, k2, k3, ck7 hs, h1', bnd2_s, k1, k2, k3, ck_t hk, h2', bnd_s, if_pos rfl, e7]
    exact ⟨S1, h3, rfl⟩
  rw [if_neg c5]
  by_cases c6 : z = 6
  · obtain ⟨v, S1, S2, h1, h2, h3⟩ := op_shoot h
    have h1' : f_X7_shoot S 4 = some (v, S1) := h1
    have h2' : f_X8_shoot S1 124 = some (v, S2) := h2
    have hk : okc S1 8 124 := k_shoot h2' h3.n
    rw [if_pos c6, ck7 hs, h1', bnd2_s, ck_t hk, h2', bnd2_s, if_pos rfl, e7]
    exact ⟨S2, h3, rfl⟩
  rw [if_neg c6]
  by_cases c7 : z = 7
  · obtain ⟨v, S1, S2, h1, h2, h3⟩ := op_forget h (xs (nI (7 * i) + 1).toNatClampNeg)
    have h1' : f_X7_forget S 4 (xs (nI (7 * i) + 1).toNatClampNeg) = some (v, S1) := h1
    have h2' : f_X8_forget S1 124 (xs (nI (7 * i) + 1).toNatClampNeg) = some (v, S2) := h2
    have hk : okc S1 8 124 := k_forget h2' h3.n
    rw [if_pos c7, k1, ck7 hs, h1', bnd2_s, k1, ck_t hk, h2', bnd2_s, if_pos rfl, e7]
    exact ⟨S2, h3, rfl⟩
  rw [if_neg c7]
  by_cases c8 : z = 8
  · obtain ⟨v, h1, h2⟩ := oq_frameOf h (xs (nI (7 * i) + 1).toNatClampNeg) (xs (nI (7 * i) + 2).toNatClampNeg)
    have h1' : f_X7_frameOf S 4 (xs (nI (7 * i) + 1).toNatClampNeg) (xs (nI (7 * i) + 2).toNatClampNeg) = some v := h1
    have h2' : f_X8_frameOf S 124 (xs (nI (7 * i) + 1).toNatClampNeg) (xs (nI (7 * i) + 2).toNatClampNeg) = some v := h2
    rw [if_pos c8, k1, k2, ck7 hs, h1', bnd_s, k1, k2, ck8 hm, h2', bnd_s, if_pos rfl, e7]
    exact ⟨S, h.mono (by omega), rfl⟩
  rw [if_neg c8]
  by_cases c9 : z = 9
  · obtain ⟨v, h1, h2⟩ := oq_pixel h (xs (nI (7 * i) + 1).toNatClampNeg) (xs (nI (7 * i) + 2).toNatClampNeg) (xs (nI (7 * i) + 3).toNatClampNeg)
    have h1' : f_X7_pixel S 4 (xs (nI (7 * i) + 1).toNatClampNeg) (xs (nI (7 * i) + 2).toNatClampNeg) (xs (nI (7 * i) + 3).toNatClampNeg) = some v := h1
    have h2' : f_X8_pixel S 124 (xs (nI (7 * i) + 1).toNatClampNeg) (xs (nI (7 * i) + 2).toNatClampNeg) (xs (nI (7 * i) + 3).toNatClampNeg) = some v := h2
    rw [if_pos c9, k1, k2, k3, ck7 hs, h1', bnd_s, k1, k2, k3, ck8 hm, h2', bnd_s, if_pos rfl, e7]
    exact ⟨S, h.mono (by omega), rfl⟩
  rw [if_neg c9]
  by_cases c10 : z = 10
  · obtain ⟨v, h1, h2⟩ := oq_edges h (xs (nI (7 * i) + 1).toNatClampNeg) (xs (nI (7 * i) + 2).toNatClampNeg)
    have h1' : f_X7_edges S 4 (xs (nI (7 * i) + 1).toNatClampNeg) (xs (nI (7 * i) + 2).toNatClampNeg) = some v := h1
    have h2' : f_X8_edges S 124 (xs (nI (7 * i) + 1).toNatClampNeg) (xs (nI (7 * i) + 2).toNatClampNeg) = some v := h2
    rw [if_pos c10, k1, k2, ck7 hs, h1', bnd_s, k1, k2, ck8 hm, h2', bnd_s, if_pos rfl, e7]
    exact ⟨S, h.mono (by omega), rfl⟩
  rw [if_neg c10]
  by_cases c11 : z = 11
  · obtain ⟨v, S1, S2, h1, h2, h3⟩ := op_pass h (xs (nI (7 * i) + 1).toNatClampNeg)
    have h1' : f_X7_pass S 4 (xs (nI (7 * i) + 1).toNatClampNeg) = some (v, S1) := h1
    have h2' : f_X8_pass S1 124 (xs (nI (7 * i) + 1).toNatClampNeg) = some (v, S2) := h2
    have hk : okc S1 8 124 := k_pass h2' h3.n
    rw [if_pos c11, k1, ck7 hs, h1', bnd2_s, k1, ck_t hk, h2', bnd2_s, if_pos rfl, e7]
    exact ⟨S2, h3, rfl⟩
  rw [if_neg c11]
  by_cases c12 : z = 12
  · obtain ⟨v, S1, h1, h2, h3⟩ := om_vote h (xs (nI (7 * i) + 1).toNatClampNeg) (xs (nI (7 * i) + 2).toNatClampNeg) (xs (nI (7 * i) + 3).toNatClampNeg)
    have h1' : f_X7_vote S 4 (xs (nI (7 * i) + 1).toNatClampNeg) (xs (nI (7 * i) + 2).toNatClampNeg) (xs (nI (7 * i) + 3).toNatClampNeg) = some (v, S1) := h1
    have h2' : f_X8_vote S1 124 (xs (nI (7 * i) + 1).toNatClampNeg) (xs (nI (7 * i) + 2).toNatClampNeg) (xs (nI (7 * i) + 3).toNatClampNeg) = some v := h2
    have hk : okc S1 8 124 := ⟨rfl, by rw [h3.n]; decide⟩
    rw [if_pos c12, k1, k2, k3, ck7 hs, h1', bnd2_s, k1, k2, k3, ck_t hk, h2', bnd_s, if_pos rfl, e7]
    exact ⟨S1, h3, rfl⟩
  rw [if_neg c12]
  by_cases c13 : z = 13
  · obtain ⟨v, S1, S2, h1, h2, h3⟩ := op_shift h (xs (nI (7 * i) + 1).toNatClampNeg) (xs (nI (7 * i) + 2).toNatClampNeg)
    have h1' : f_X7_shift S 4 (xs (nI (7 * i) + 1).toNatClampNeg) (xs (nI (7 * i) + 2).toNatClampNeg) = some (v, S1) := h1
    have h2' : f_X8_shift S1 124 (xs (nI (7 * i) + 1).toNatClampNeg) (xs (nI (7 * i) + 2).toNatClampNeg) = some (v, S2) := h2
    have hk : okc S1 8 124 := k_shift h2' h3.n
    rw [if_pos c13, k1, k2, ck7 hs, h1', bnd2_s, k1, k2, ck_t hk, h2', bnd2_s, if_pos rfl, e7]
    exact ⟨S2, h3, rfl⟩
  rw [if_neg c13]
  by_cases c14 : z = 14
  · obtain ⟨v, S1, h1, h2, h3⟩ := om_voters h (xs (nI (7 * i) + 1).toNatClampNeg) (xs (nI (7 * i) + 2).toNatClampNeg) (xs (nI (7 * i) + 3).toNatClampNeg)
    have h1' : f_X7_voters S 4 (xs (nI (7 * i) + 1).toNatClampNeg) (xs (nI (7 * i) + 2).toNatClampNeg) (xs (nI (7 * i) + 3).toNatClampNeg) = some (v, S1) := h1
    have h2' : f_X8_voters S1 124 (xs (nI (7 * i) + 1).toNatClampNeg) (xs (nI (7 * i) + 2).toNatClampNeg) (xs (nI (7 * i) + 3).toNatClampNeg) = some v := h2
    have hk : okc S1 8 124 := ⟨rfl, by rw [h3.n]; decide⟩
    rw [if_pos c14, k1, k2, k3, ck7 hs, h1', bnd2_s, k1, k2, k3, ck_t hk, h2', bnd_s, if_pos rfl, e7]
    exact ⟨S1, h3, rfl⟩
  rw [if_neg c14]
  by_cases c15 : z = 15
  · obtain ⟨v, S1, S2, h1, h2, h3⟩ := op_dissent h (xs (nI (7 * i) + 1).toNatClampNeg) (xs (nI (7 * i) + 2).toNatClampNeg)
    have h1' : f_X7_dissent S 4 (xs (nI (7 * i) + 1).toNatClampNeg) (xs (nI (7 * i) + 2).toNatClampNeg) = some (v, S1) := h1
    have h2' : f_X8_dissent S1 124 (xs (nI (7 * i) + 1).toNatClampNeg) (xs (nI (7 * i) + 2).toNatClampNeg) = some (v, S2) := h2
    have hk : okc S1 8 124 := k_dissent h2' h3.n
    rw [if_pos c15, k1, k2, ck7 hs, h1', bnd2_s, k1, k2, ck_t hk, h2', bnd2_s, if_pos rfl, e7]
    exact ⟨S2, h3, rfl⟩
  rw [if_neg c15]
  by_cases c16 : z = 16
  · obtain ⟨v, S1, S2, h1, h2, h3⟩ := op_speed h (xs (nI (7 * i) + 1).toNatClampNeg) (xs (nI (7 * i) + 2).toNatClampNeg)
    have h1' : f_X7_speed S 4 (xs (nI (7 * i) + 1).toNatClampNeg) (xs (nI (7 * i) + 2).toNatClampNeg) = some (v, S1) := h1
    have h2' : f_X8_speed S1 124 (xs (nI (7 * i) + 1).toNatClampNeg) (xs (nI (7 * i) + 2).toNatClampNeg) = some (v, S2) := h2
    have hk : okc S1 8 124 := k_speed h2' h3.n
    rw [if_pos c16, k1, k2, ck7 hs, h1', bnd2_s, k1, k2, ck_t hk, h2', bnd2_s, if_pos rfl, e7]
    exact ⟨S2, h3, rfl⟩
  rw [if_neg c16]
  by_cases c17 : z = 17
  · obtain ⟨v, S1, S2, h1, h2, h3⟩ := op_slant h (xs (nI (7 * i) + 1).toNatClampNeg)
    have h1' : f_X7_slant S 4 (xs (nI (7 * i) + 1).toNatClampNeg) = some (v, S1) := h1
    have h2' : f_X8_slant S1 124 (xs (nI (7 * i) + 1).toNatClampNeg) = some (v, S2) := h2
    have hk : okc S1 8 124 := k_slant h2' h3.n
    rw [if_pos c17, k1, ck7 hs, h1', bnd2_s, k1, ck_t hk, h2', bnd2_s, if_pos rfl, e7]
    exact ⟨S2, h3, rfl⟩
  rw [if_neg c17]
  by_cases c18 : z = 18
  · obtain ⟨v, S1, S2, h1, h2, h3⟩ := op_slantSpeed h (xs (nI (7 * i) + 1).toNatClampNeg)
    have h1' : f_X7_slantSpeed S 4 (xs (nI (7 * i) + 1).toNatClampNeg) = some (v, S1) := h1
    have h2' : f_X8_slantSpeed S1 124 (xs (nI (7 * i) + 1).toNatClampNeg) = some (v, S2) := h2
    have hk : okc S1 8 124 := k_slantSpeed h2' h3.n
    rw [if_pos c18, k1, ck7 hs, h1', bnd2_s, k1, ck_t hk, h2', bnd2_s, if_pos rfl, e7]
    exact ⟨S2, h3, rfl⟩
  rw [if_neg c18]
  by_cases c19 : z = 19
  · obtain ⟨v, S1, S2, h1, h2, h3⟩ := op_weighed h (by omega) (xs (nI (7 * i) + 1).toNatClampNeg) (xs (nI (7 * i) + 2).toNatClampNeg)
    have h1' : f_X7_weighed S 4 (xs (nI (7 * i) + 1).toNatClampNeg) (xs (nI (7 * i) + 2).toNatClampNeg) = some (v, S1) := h1
    have h2' : f_X8_weighed S1 124 (xs (nI (7 * i) + 1).toNatClampNeg) (xs (nI (7 * i) + 2).toNatClampNeg) = some (v, S2) := h2
    have hk : okc S1 8 124 := k_weighed h2' h3.n
    rw [if_pos c19, k1, k2, ck7 hs, h1', bnd2_s, k1, k2, ck_t hk, h2', bnd2_s, if_pos rfl, e7]
    exact ⟨S2, h3, rfl⟩
  rw [if_neg c19]
  by_cases c20 : z = 20
  · obtain ⟨v, S1, S2, h1, h2, h3⟩ := op_judge h (by omega) (xs (nI (7 * i) + 1).toNatClampNeg) (xs (nI (7 * i) + 2).toNatClampNeg)
    have h1' : f_X7_judge S 4 (xs (nI (7 * i) + 1).toNatClampNeg) (xs (nI (7 * i) + 2).toNatClampNeg) = some (v, S1) := h1
    have h2' : f_X8_judge S1 124 (xs (nI (7 * i) + 1).toNatClampNeg) (xs (nI (7 * i) + 2).toNatClampNeg) = some (v, S2) := h2
    have hk : okc S1 8 124 := k_judge h2' h3.n
    rw [if_pos c20, k1, k2, ck7 hs, h1', bnd2_s, k1, k2, ck_t hk, h2', bnd2_s, if_pos rfl, e7]
    exact ⟨S2, h3, rfl⟩
  rw [if_neg c20]
  by_cases c21 : z = 21
  · obtain ⟨v, h1, h2⟩ := oq_rowOf h (xs (nI (7 * i) + 1).toNatClampNeg) (xs (nI (7 * i) + 2).toNatClampNeg)
    have h1' : f_X7_rowOf S 4 (xs (nI (7 * i) + 1).toNatClampNeg) (xs (nI (7 * i) + 2).toNatClampNeg) = some v := h1
    have h2' : f_X8_rowOf S 124 (xs (nI (7 * i) + 1).toNatClampNeg) (xs (nI (7 * i) + 2).toNatClampNeg) = some v := h2
    rw [if_pos c21, k1, k2, ck7 hs, h1', bnd_s, k1, k2, ck8 hm, h2', bnd_s, if_pos rfl, e7]
    exact ⟨S, h.mono (by omega), rfl⟩
  rw [if_neg c21]
  by_cases c22 : z = 22
  · obtain ⟨v, S1, S2, h1, h2, h3⟩ := op_bestWait h (xs (nI (7 * i) + 1).toNatClampNeg) (xs (nI (7 * i) + 2).toNatClampNeg)
    have h1' : f_X7_bestWait S 4 (xs (nI (7 * i) + 1).toNatClampNeg) (xs (nI (7 * i) + 2).toNatClampNeg) = some (v, S1) := h1
    have h2' : f_X8_bestWait S1 124 (xs (nI (7 * i) + 1).toNatClampNeg) (xs (nI (7 * i) + 2).toNatClampNeg) = some (v, S2) := h2
    have hk : okc S1 8 124 := k_bestWait h2' h3.n
    rw [if_pos c22, k1, k2, ck7 hs, h1', bnd2_s, k1, k2, ck_t hk, h2', bnd2_s, if_pos rfl, e7]
    exact ⟨S2, h3, rfl⟩
  rw [if_neg c22]
  by_cases c23 : z = 23
  · obtain ⟨v, S1, S2, h1, h2, h3⟩ := op_motions h (xs (nI (7 * i) + 1).toNatClampNeg) (xs (nI (7 * i) + 2).toNatClampNeg)
    have h1' : f_X7_motions S 4 (xs (nI (7 * i) + 1).toNatClampNeg) (xs (nI (7 * i) + 2).toNatClampNeg) = some (v, S1) := h1
    have h2' : f_X8_motions S1 124 (xs (nI (7 * i) + 1).toNatClampNeg) (xs (nI (7 * i) + 2).toNatClampNeg) = some (v, S2) := h2
    have hk : okc S1 8 124 := k_motions h2' h3.n
    rw [if_pos c23, k1, k2, ck7 hs, h1', bnd2_s, k1, k2, ck_t hk, h2', bnd2_s, if_pos rfl, e7]
    exact ⟨S2, h3, rfl⟩
  rw [if_neg c23]
  by_cases c24 : z = 24
  · obtain ⟨v, S1, S2, h1, h2, h3⟩ := op_periods h
    have h1' : f_X7_periods S 4 = some (v, S1) := h1
    have h2' : f_X8_periods S1 124 = some (v, S2) := h2
    have hk : okc S1 8 124 := k_periods h2' h3.n
    rw [if_pos c24, ck7 hs, h1', bnd2_s, ck_t hk, h2', bnd2_s, if_pos rfl, e7]
    exact ⟨S2, h3, rfl⟩
  rw [if_neg c24]
  by_cases c25 : z = 25
  · obtain ⟨v, S1, h1, h2, h3⟩ := om_fitting h (xs (nI (7 * i) + 1).toNatClampNeg)
    have h1' : f_X7_fitting S 4 (xs (nI (7 * i) + 1).toNatClampNeg) = some (v, S1) := h1
    have h2' : f_X8_fitting S1 124 (xs (nI (7 * i) + 1).toNatClampNeg) = some v := h2
    have hk : okc S1 8 124 := ⟨rfl, by rw [h3.n]; decide⟩
    rw [if_pos c25, k1, ck7 hs, h1', bnd2_s, k1, ck_t hk, h2', bnd_s, if_pos rfl, e7]
    exact ⟨S1, h3, rfl⟩
  rw [if_neg c25]
  by_cases c26 : z = 26
  · obtain ⟨v, h1, h2⟩ := oq_count h (xs (nI (7 * i) + 1).toNatClampNeg)
    have h1' : f_X7_count S 4 (xs (nI (7 * i) + 1).toNatClampNeg) = some v := h1
    have h2' : f_X8_count S 124 (xs (nI (7 * i) + 1).toNatClampNeg) = some v := h2
    rw [if_pos c26, k1, ck7 hs, h1', bnd_s, k1, ck8 hm, h2', bnd_s, if_pos rfl, e7]
    exact ⟨S, h.mono (by omega), rfl⟩
  rw [if_neg c26]
  by_cases c27 : z = 27
  · obtain ⟨v, S1, S2, h1, h2, h3⟩ := op_undo h
    have h1' : f_X7_undo S 4 = some (v, S1) := h1
    have h2' : f_X8_undo S1 124 = some (v, S2) := h2
    have hk : okc S1 8 124 := k_undo h2' h3.n
    rw [if_pos c27, ck7 hs, h1', bnd2_s, ck_t hk, h2', bnd2_s, if_pos rfl, e7]
    exact ⟨S2, h3, rfl⟩
  rw [if_neg c27]
  by_cases c28 : z = 28
  · obtain ⟨v, S1, S2, h1, h2, h3⟩ := op_type h (xs (nI (7 * i) + 1).toNatClampNeg)
    have h1' : f_X7_type S 4 (xs (nI (7 * i) + 1).toNatClampNeg) = some (v, S1) := h1
    have h2' : f_X8_type S1 124 (xs (nI (7 * i) + 1).toNatClampNeg) = some (v, S2) := h2
    have hk : okc S1 8 124 := k_type h2' h3.n
    rw [if_pos c28, k1, ck7 hs, h1', bnd2_s, k1, ck_t hk, h2', bnd2_s, if_pos rfl, e7]
    exact ⟨S2, h3, rfl⟩
  rw [if_neg c28]
  by_cases c29 : z = 29
  · obtain ⟨v, S1, S2, h1, h2, h3⟩ := op_clearText h
    have h1' : f_X7_clearText S 4 = some (v, S1) := h1
    have h2' : f_X8_clearText S1 124 = some (v, S2) := h2
    have hk : okc S1 8 124 := k_clearText h2' h3.n
    rw [if_pos c29, ck7 hs, h1', bnd2_s, ck_t hk, h2', bnd2_s, if_pos rfl, e7]
    exact ⟨S2, h3, rfl⟩
  rw [if_neg c29]
  by_cases c30 : z = 30
  · obtain ⟨v, S1, S2, h1, h2, h3⟩ := op_fault h (xs (nI (7 * i) + 1).toNatClampNeg)
    have h1' : f_X7_fault S 4 (xs (nI (7 * i) + 1).toNatClampNeg) = some (v, S1) := h1
    have h2' : f_X8_fault S1 124 (xs (nI (7 * i) + 1).toNatClampNeg) = some (v, S2) := h2
    have hk : okc S1 8 124 := k_fault h2' h3.n
    rw [if_pos c30, k1, ck7 hs, h1', bnd2_s, k1, ck_t hk, h2', bnd2_s, if_pos rfl, e7]
    exact ⟨S2, h3, rfl⟩
  rw [if_neg c30]
  by_cases c31 : z = 31
  · obtain ⟨v, S1, S2, h1, h2, h3⟩ := op_play h
    have h1' : f_X7_play S 4 = some (v, S1) := h1
    have h2' : f_X8_play S1 124 = some (v, S2) := h2
    have hk : okc S1 8 124 := k_play h2' h3.n
    rw [if_pos c31, ck7 hs, h1', bnd2_s, ck_t hk, h2', bnd2_s, if_pos rfl, e7]
    exact ⟨S2, h3, rfl⟩
  rw [if_neg c31]
  rw [e7]
  exact ⟨S, h.mono (by omega), rfl⟩
theorem law_loop {xs : Nat → Int32} {L : Nat} {S : St} (hL : L ≤ 3584) (h : INV 0 S) : wl2 (f_L_law_B18 xs L 4 124 (fun (S_117 : St) => (some 1))) FU S 0 = some 1 := by
  obtain ⟨S', -, g⟩ := wl2_seq (F := f_L_law_B18 xs L 4 124 (fun (S_117 : St) => (some 1))) (kx := fun (S_117 : St) => (some 1)) (n := L / 7) (fun i => nI (7 * i)) (fun i S' => INV i S') (fun i S1 kk hi hP => law_step hL (by omega) hP _ kk) (fun S1 kk hP => by
    unfold f_L_law_B18
    rw [if_pos]
    by_cases c : 7 ≤ L
    · show nI L - nI 7 < nI (7 * (L / 7))
      rw [q_sub c, q_lt (by omega) (by omega)]
      omega
    · show nI L - nI 7 < nI (7 * (L / 7))
      rw [iI_nat, iI_nat, iI_nat, iI_sub, iI_lt (by omega) (by omega) (by omega) (by omega)]
      omega) (L / 7) 0 FU S (by omega) (by show L / 7 < 1000000; omega) h
  exact g
