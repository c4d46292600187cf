/-! THE LAW'S LOOP -/
theorem wl4_run {α β : Type} {F : (α → Int32 → Int32 → Int32 → Option β) → α → Int32 → Int32 → Int32 → Option β} {kx : α → Int32 → Option β} {n : Nat} (P : Nat → α → Prop) (hin : ∀ i a x k, i < n → P i a → ∃ a' x', P (i + 1) a' ∧ F k a 1 x (nI i) = k a' 1 x' (nI (i + 1))) (hout : ∀ a x k, P n a → F k a 1 x (nI n) = kx a 1) : ∀ m i fuel a x, i + m = n → m < fuel → P i a → ∃ a', P n a' ∧ wl4 F fuel a 1 x (nI i) = kx a' 1
  | 0, i, 0, _, _, _, h, _ => by omega
  | 0, i, fuel + 1, a, x, e, _, hP => by
    have : i = n := by omega
    subst this
    exact ⟨a, hP, hout _ _ _ hP⟩
  | m + 1, i, 0, _, _, _, h, _ => by omega
  | m + 1, i, fuel + 1, a, x, e, hf, hP => by
    obtain ⟨a', x', p, q⟩ := hin i a x (wl4 F fuel) (by omega) hP
    obtain ⟨a2, p2, q2⟩ := wl4_run P hin hout m (i + 1) fuel a' x' (by omega) (by omega) p
    exact ⟨a2, p2, q.trans q2⟩
/-- what holds of the rows between the law's steps -/
def LI (n : Nat) (w : Wf) (st : Nat) (h : Nat → Wf) : Prop := tcw w = 3 ∧ 3 ≤ st ∧ (∀ i, i < st → tcw (h i) ≤ 3) ∧ tmw w ≤ 60 * n ∧ ∀ f, f < fcw w → ¬ w 33 < w (37 + 162 * f)
theorem hst_3 {st : Nat} (h : 3 ≤ st) (h4 : st ≤ 4) : hst st = 4 := by
  unfold hst
  by_cases c : st = 4
  · rw [if_pos c]
  · rw [if_neg c]
    omega
/-- a change that leaves time, things and frames -/
theorem LI.ch {n st : Nat} {w w' : Wf} {h : Nat → Wf} (l : LI n w st h) (h4 : st ≤ 4) (e8 : w' 8 = w 8) (e33 : w' 33 = w 33) (e36 : w' 36 = w 36) (ef : ∀ f, f < fcw w → w' (37 + 162 * f) = w (37 + 162 * f)) : LI (n + 1) w' (hst st) (hps st h w) := by
  obtain ⟨l1, l2, l3, l4, l5⟩ := l
  have t8 : tcw w' = tcw w := by
    unfold tcw
    rw [e8]
  have t33 : tmw w' = tmw w := by
    unfold tmw
    rw [e33]
  have t36 : fcw w' = fcw w := by
    unfold fcw
    rw [e36]
  refine ⟨by rw [t8, l1], by rw [hst_3 l2 h4]; omega, hps_tc (by omega) l3, by rw [t33]; omega, fun f hf => ?_⟩
  rw [t36] at hf
  rw [e33, ef f hf]
  exact l5 f hf
theorem LI.mono {n st : Nat} {w : Wf} {h : Nat → Wf} (l : LI n w st h) : LI (n + 1) w st h := ⟨l.1, l.2.1, l.2.2.1, by have := l.2.2.2.1; omega, l.2.2.2.2⟩
section KC
variable {S : St} {w : Wf} {st : Nat} {h : Nat → Wf}
theorem LI.shoot {n : Nat} (k : Kc S w st h) (l : LI n w st h) : LI (n + 1) (wsh w) (hst st) (hps st h w) := by
  obtain ⟨l1, l2, l3, l4, l5⟩ := l
  have f5 := k.rn.2.2.2.2.2.2.2.1.2.2
  obtain ⟨i1, i2, i3, i4, i5⟩ := wsh_is w
  refine ⟨by rw [i1, l1], by rw [hst_3 l2 k.st4]; omega, hps_tc (by omega) l3, by rw [i5]; omega, fun f hf => ?_⟩
  rw [wsh_fc w f5] at hf
  rw [wsh_lo w (by omega)]
  by_cases c : f = fpre (fcw w)
  · subst c
    rw [wsh_tm]
    exact Int32.lt_irrefl
  · have e : wsh w (37 + 162 * f) = wpre w (fcw w) (37 + 162 * f) := by
      unfold wsh tkf
      rw [if_neg (by omega), if_neg (by omega), if_neg (by omega), if_neg (by omega), if_neg (by omega)]
    rw [e]
    unfold wpre
    unfold fpre at hf c
    by_cases c5 : fcw w = 5
    · rw [if_pos c5] at hf c ⊢
      rw [if_neg (by omega), if_pos (by omega), show 37 + 162 * f + 162 = 37 + 162 * (f + 1) by omega]
      exact l5 (f + 1) (by omega)
    · rw [if_neg c5] at hf c ⊢
      exact l5 f (by omega)
theorem LI.pass {n d : Nat} (k : Kc S w st h) (l : LI n w st h) (hd : d ≤ 60) (hn : n < 26) : LI (n + 1) (upw w 33 (nI (tmw w + d))) (hst st) (hps st h w) := by
  obtain ⟨l1, l2, l3, l4, l5⟩ := l
  have w33 : w 33 = nI (tmw w) := k.ok.2.2.1.1
  have et : tmw (upw w 33 (nI (tmw w + d))) = tmw w + d := by
    show (upw w 33 (nI (tmw w + d)) 33).toNatClampNeg = _
    rw [upw_at, q_cl (by omega)]
  refine ⟨by rw [upw_tc (by omega), l1], by rw [hst_3 l2 k.st4]; omega, hps_tc (by omega) l3, by rw [et]; omega, fun f hf => ?_⟩
  rw [upw_fc (by omega)] at hf
  obtain ⟨t, e, -, ht⟩ := k.ok.2.2.2.2.2.1 f hf
  have := l5 f hf
  rw [w33, e, q_lt (by omega) (by omega)] at this
  rw [upw_at, upw_ne (by omega), e, q_lt (by omega) (by omega)]
  omega
/-- all frames hold -/
theorem l_all (k : Kc S w st h) (hT : ∀ f, f < fcw w → ¬ w 33 < w (37 + 162 * f)) (g : GG) (kx : St → Int32 → Option Int32) (kk : St → Int32 → Int32 → Int32 → Option Int32) (x3 x4 : Int32) : ∃ S', f_L_law_J378 g S 4 kx kk 1 x3 x4 = kk S' 1 x3 (x4 + 1) ∧ Kc S' w st h := by
  have f5 := k.rn.2.2.2.2.2.2.2.1.2.2
  unfold f_L_law_J378
  obtain ⟨S3, b, ⟨p1, p2⟩, q⟩ := wl3_inv (F := f_L_law_B381 g 4 x3 x4 (fun (S_12 : St) (y2_11 : Int32) => (kk S_12 y2_11 x3 (x4 + 1)))) (kx := fun (S_12 : St) (y2_11 : Int32) => (kk S_12 y2_11 x3 (x4 + 1))) (n := fcw w) (fun _ S' b => Kc S' w st h ∧ b = 1) (fun f S' b k2 hf hP => by
    obtain ⟨k3, rfl⟩ := hP
    obtain ⟨S4, g1, k4⟩ := l_frame k3 hf (hT f hf)
    refine ⟨S4, 1, ⟨k4, rfl⟩, ?_⟩
    unfold f_L_law_B381
    rw [ck7 k3.cs, k_count1 k3, bnd_s, if_neg (show ¬ nI (fcw w) ≤ nI f by rw [q_le (by omega) (by omega)]; omega), if_neg (show ¬ (1 : Int32) = 0 by decide), g1, bnd2_s, L1, q_add]) (fun S' b k2 hP => by
    obtain ⟨k3, rfl⟩ := hP
    unfold f_L_law_B381
    rw [ck7 k3.cs, k_count1 k3, bnd_s, if_pos (Int32.le_refl _)]) (fcw w) 0 FU S 1 (by omega) (by show fcw w < 1000000; omega) ⟨k, rfl⟩
  rw [show nI 0 = (0 : Int32) from rfl] at q
  exact ⟨S3, by rw [q, p2], p1⟩
theorem lim_b {i b : Nat} (h3 : 3 ≤ i) (h8 : i < 8) (h1 : 1 ≤ b) (h2 : b ≤ 20) : S00.1 1 i ≤ nI b ∧ nI b ≤ S00.1 2 i := by
  have : i = 3 ∨ i = 4 ∨ i = 5 ∨ i = 6 ∨ i = 7 := by omega
  rcases this with rfl | rfl | rfl | rfl | rfl
  · show nI 1 ≤ nI b ∧ nI b ≤ nI 255
    rw [q_le (by omega) (by omega), q_le (by omega) (by omega)]
    omega
  · show nI 0 ≤ nI b ∧ nI b ≤ nI 255
    rw [q_le (by omega) (by omega), q_le (by omega) (by omega)]
    omega
  · show nI 0 ≤ nI b ∧ nI b ≤ nI 20
    rw [q_le (by omega) (by omega), q_le (by omega) (by omega)]
    omega
  · show nI 0 ≤ nI b ∧ nI b ≤ nI 20
    rw [q_le (by omega) (by omega), q_le (by omega) (by omega)]
    omega
  · show nI 0 ≤ nI b ∧ nI b ≤ nI 100
    rw [q_le (by omega) (by omega), q_le (by omega) (by omega)]
    omega
/-- what a step of the law's loop comes to -/
def LStp (g : GG) (n : Nat) (S : St) (x3 : Int32) (kx : St → Int32 → Option Int32) (kk : St → Int32 → Int32 → Int32 → Option Int32) (o : Option Int32) : Prop := ∃ S' x3', (∃ w st h, Kc S' w st h ∧ LI (n + 1) w st h) ∧ o = kk S' 1 x3' (nI (n + 1))
theorem LStp.mk {g : GG} {n : Nat} {S0 : St} {x0 x3 : Int32} {kx : St → Int32 → Option Int32} {kk : St → Int32 → Int32 → Int32 → Option Int32} (k : Kc S w st h) (l : LI (n + 1) w st h) : LStp g n S0 x0 kx kk (f_L_law_J378 g S 4 kx kk 1 x3 (nI n)) := by
  obtain ⟨S', g1, k'⟩ := l_all k l.2.2.2.2 g kx kk x3 (nI n)
  exact ⟨S', x3, ⟨w, st, h, k', l⟩, by rw [g1, L1, q_add]⟩
theorem l_step (g : GG) (hL : gl g ≤ 260) {n : Nat} (hn : n < 26) (k : Kc S w st h) (l : LI n w st h) (x3 : Int32) (kx : St → Int32 → Option Int32) (kk : St → Int32 → Int32 → Int32 → Option Int32) : LStp g n S x3 kx kk (f_L_law_B43 g 4 kx kk S 1 x3 (nI n)) := by
  have hs := k.cs
  have l1 := l.1
  have s4 := k.st4
  have tm := l.2.2.2.1
  obtain ⟨c, hc, ec⟩ := e_Lcell g S hL (j := 7 + n) (by omega)
  have e7 : (7 : Int32) + nI n = nI (7 + n) := by rw [L7, q_add]
  have em : nI c - nI c / 16 * 16 = nI (c % 16) := q_mod (b := 16) hc (by omega) (by omega)
  have ed : nI c / 16 = nI (c / 16) := q_div (b := 16) hc (by omega)
  have hz : c / 16 < 2147483648 := by omega
  unfold f_L_law_B43
  rw [if_neg (show ¬ (26 : Int32) ≤ nI n by rw [show (26 : Int32) = nI 26 from rfl, q_le (by omega) (by omega)]; omega), if_neg (show ¬ (1 : Int32) = 0 by decide), e7, ec, bnd_s, ck_t (by decide), ck_t (by decide)]
  simp only [em]
  simp only [ed]
  generalize nI (c % 16) = m
  generalize c / 16 = z at hz
  have z3 : nI z - nI z / 3 * 3 = nI (z % 3) := q_mod (b := 3) hz (by omega) (by omega)
  have z4 : nI z / 4 = nI (z / 4) := q_div (b := 4) hz (by omega)
  have hq : z % 3 < tcw w := by
    rw [l1]
    exact Nat.mod_lt _ (by omega)
  by_cases c0 : m = 0
  · rw [if_pos c0, ck_t (by decide), ck_t (by decide), ck_t (by decide)]
    have z41 : nI (z / 4) - nI (z / 4) / 401 * 401 = nI (z / 4 % 401) := q_mod (b := 401) (by omega) (by omega) (by omega)
    have hb : z / 4 % 401 < 401 := Nat.mod_lt _ (by omega)
    simp only [z3, z4, z41]
    generalize z / 4 % 401 = b at hb
    have eb : nI b - 200 = iI ((b : Int) - 200) := by rw [iI_nat, show (200 : Int32) = iI 200 from rfl, iI_sub]
    obtain ⟨S2, g1, k2⟩ := l_turns k hq (b := iI ((b : Int) - 200)) (by
      rw [show (-200 : Int32) = iI (-200) from rfl, show (200 : Int32) = iI 200 from rfl, iI_le (by omega) (by omega) (by omega) (by omega), iI_le (by omega) (by omega) (by omega) (by omega)]
      omega)
    rw [eb, g1, bnd2_s]
    exact LStp.mk k2 (l.ch s4 (by unfold wtur; rw [if_neg (by omega), if_neg (by omega)]) (wtur_33 (by omega)) (by unfold wtur; rw [if_neg (by omega), if_neg (by omega)]) (fun f hf => by unfold wtur; rw [if_neg (by omega), if_neg (by omega)]))
  rw [if_neg c0]
  by_cases c1 : m = 1
  · rw [if_pos c1, ck_t (by decide), ck_t (by decide), ck_t (by decide)]
    have z41 : nI (z / 4) - nI (z / 4) / 21 * 21 = nI (z / 4 % 21) := q_mod (b := 21) (by omega) (by omega) (by omega)
    have hb : z / 4 % 21 < 21 := Nat.mod_lt _ (by omega)
    simp only [z3, z4, z41]
    generalize z / 4 % 21 = b at hb
    have eb : (10 : Int32) * (nI b - 10) = iI (10 * ((b : Int) - 10)) := by rw [iI_nat, show (10 : Int32) = iI 10 from rfl, iI_sub, iI_mul]
    obtain ⟨S2, g1, k2⟩ := l_turns k hq (b := iI (10 * ((b : Int) - 10))) (by
      rw [show (-200 : Int32) = iI (-200) from rfl, show (200 : Int32) = iI 200 from rfl, iI_le (by omega) (by omega) (by omega) (by omega), iI_le (by omega) (by omega) (by omega) (by omega)]
      omega)
    rw [eb, g1, bnd2_s]
    exact LStp.mk k2 (l.ch s4 (by unfold wtur; rw [if_neg (by omega), if_neg (by omega)]) (wtur_33 (by omega)) (by unfold wtur; rw [if_neg (by omega), if_neg (by omega)]) (fun f hf => by unfold wtur; rw [if_neg (by omega), if_neg (by omega)]))
  rw [if_neg c1]
  by_cases c2 : m = 2
  · rw [if_pos c2, ck_t (by decide)]
    have z10 : nI z - nI z / 10 * 10 = nI (z % 10) := q_mod (b := 10) hz (by omega) (by omega)
    simp only [z10]
    obtain ⟨S2, g1, k2⟩ := l_blinds k (r := z % 10) (Nat.mod_lt _ (by omega))
    rw [g1, bnd2_s]
    exact LStp.mk k2 (l.ch s4 (upw_ne (by omega)) (upw_ne (by omega)) (upw_ne (by omega)) (fun f hf => upw_ne (by omega)))
  rw [if_neg c2]
  by_cases c3 : m = 3
  · rw [if_pos c3, ck_t (by decide)]
    have z6 : nI z - nI z / 6 * 6 = nI (z % 6) := q_mod (b := 6) hz (by omega) (by omega)
    simp only [z6]
    rcases l_forgets k (i := z % 6) (Nat.mod_lt _ (by omega)) with ⟨-, S2, g1, k2⟩ | ⟨-, g1⟩
    · rw [g1, bnd2_s]
      have e4 := hst_3 l.2.1 s4
      refine LStp.mk k2 ⟨l1, by rw [e4]; omega, fun i hi => hps_tc (by omega) l.2.2.1 i (by omega), by omega, l.2.2.2.2⟩
    · rw [g1, bnd2_s]
      exact LStp.mk k l.mono
  rw [if_neg c3]
  by_cases c4 : m = 4
  · rw [if_pos c4, ck_t (by decide), ck_t (by decide), ck_t (by decide)]
    have z5 : nI z - nI z / 5 * 5 = nI (z % 5) := q_mod (b := 5) hz (by omega) (by omega)
    have z8 : nI z / 8 = nI (z / 8) := q_div (b := 8) hz (by omega)
    have z20 : nI (z / 8) - nI (z / 8) / 20 * 20 = nI (z / 8 % 20) := q_mod (b := 20) (by omega) (by omega) (by omega)
    have hb : z / 8 % 20 < 20 := Nat.mod_lt _ (by omega)
    have ha : z % 5 < 5 := Nat.mod_lt _ (by omega)
    simp only [z5, z8, z20]
    generalize z / 8 % 20 = b at hb
    generalize z % 5 = a at ha
    have e3 : (3 : Int32) + nI a = nI (3 + a) := by rw [L3, q_add]
    have e13 : (10 : Int32) + nI (3 + a) = nI (10 + (3 + a)) := by rw [L10, q_add]
    have eb : (1 : Int32) + nI b = nI (1 + b) := by rw [L1, q_add]
    obtain ⟨S2, g1, k2⟩ := k_set k (i := 3 + a) (b := nI (1 + b)) (by omega) (lim_b (by omega) (by omega) (by omega) (by omega)) (Or.inl (by omega))
    have s2 := k2.cs
    simp only [e3, e13, eb]
    rw [vlt_s, ck7 hs, k_countS k (show 3 + a < 8 by omega), bnd_s, ck7 hs, g1, bnd2_s, if_pos rfl, ck7 s2, k_countS k2 (show 3 + a < 8 by omega), bnd_s, if_pos (upw_at _ _ _)]
    exact LStp.mk k2 (l.ch s4 (upw_ne (by omega)) (upw_ne (by omega)) (upw_ne (by omega)) (fun f hf => upw_ne (by omega)))
  rw [if_neg c4]
  by_cases c5 : m = 5
  · rw [if_pos c5]
    by_cases cx : (1 : Int32) < x3
    · rw [if_pos cx]
      exact LStp.mk k l.mono
    · rw [if_neg cx, ck_t (by decide)]
      simp only [z3]
      obtain ⟨S2, g1, k2⟩ := l_fits k hq
      rw [g1, bnd2_s, if_neg (by decide)]
      exact LStp.mk k2 l.mono
  rw [if_neg c5]
  by_cases c6 : m = 6
  · rw [if_pos c6, ck7 hs, k_count1 k, bnd_s]
    have f5 := k.rn.2.2.2.2.2.2.2.1.2.2
    by_cases cf : fcw w = 0
    · rw [if_pos (show nI (fcw w) = 0 by rw [cf]; rfl)]
      exact LStp.mk k l.mono
    · rw [if_neg (show ¬ nI (fcw w) = 0 by rw [L0, q_eq (by omega) (by omega)]; exact cf), ck_t (by decide), ck7 hs]
      simp only [z3]
      have h3 : z % 3 < 3 := Nat.mod_lt _ (by omega)
      have g1 := k_setNo k (i := z % 3) (b := 4) h3 (by
        have : z % 3 = 0 ∨ z % 3 = 1 ∨ z % 3 = 2 := by omega
        rcases this with e | e | e <;> rw [e] <;> decide) cf
      rw [g1, bnd2_s, if_pos rfl]
      exact LStp.mk k l.mono
  rw [if_neg c6]
  have j33 : LStp g n S x3 kx kk (f_L_law_J333 g S 4 kx kk x3 (nI n) (nI z)) := by
    have z60 : nI z - nI z / 60 * 60 = nI (z % 60) := q_mod (b := 60) hz (by omega) (by omega)
    have hd : z % 60 < 60 := Nat.mod_lt _ (by omega)
    have w33 : w 33 = nI (tmw w) := k.ok.2.2.1.1
    unfold f_L_law_J333
    simp only [z60]
    generalize z % 60 = d at hd
    have eb : (1 : Int32) + nI d = nI (1 + d) := by rw [L1, q_add]
    obtain ⟨S2, g1, k2⟩ := k_pass k (d := 1 + d) (by omega) (by omega) (by omega)
    rw [ck7 hs, k_count2 k, bnd_s, ck_t (by decide), ck7 hs, eb, g1, bnd2_s, ck_t (by decide), if_pos (show nI (tmw w + (1 + d)) = w 33 + 1 + nI d by rw [w33, L1, q_add, q_add, Nat.add_assoc])]
    exact LStp.mk k2 (LI.pass k l (by omega) hn)
  by_cases c7 : m = 7
  · rw [if_pos c7]
    exact j33
  rw [if_neg c7]
  by_cases c8 : m = 8
  · rw [if_pos c8]
    exact j33
  rw [if_neg c8]
  by_cases c9 : m = 9
  · rw [if_pos c9]
    exact j33
  rw [if_neg c9]
  obtain ⟨S2, g1, k2⟩ := l_shoots k (by omega)
  rw [g1, bnd2_s]
  exact LStp.mk k2 (LI.shoot k l)
/-- the law's end -/
theorem l_end (k : Kc S w st h) (l : LI 26 w st h) (g : GG) : f_L_law_J414 g S 4 1 = some 1 := by
  obtain ⟨l1, l2, l3, l4, l5⟩ := l
  have s4 := k.st4
  obtain ⟨S2, g1, k2⟩ := k_undo k (by omega)
  have s2 := k2.cs
  have t3 := l3 (st - 1) (by omega)
  have es : nI st - 1 = nI (st - 1) := by rw [L1, q_sub (by omega)]
  have gt : f_X7_turn S2 4 3 0 = some (-10000001, S2) := k_turnNo k2 (by
    rintro ⟨-, z⟩
    rw [iI_nat, show (1 : Int32) = iI 1 from rfl, iI_sub, Int32.le_iff_toInt_le, iI_int (by omega) (by omega), show (3 : Int32).toInt = 3 from rfl] at z
    omega) 0
  unfold f_L_law_J414
  rw [ck7 k.cs, k_count6 k, bnd_s, if_neg (by decide), ck7 k.cs, g1, bnd2_s, es, if_pos rfl, ck7 s2, k_set8 k2, bnd2_s, if_pos rfl, ck7 s2, gt, bnd2_s, if_pos rfl, ck7 s2, k_blind10 k2, bnd2_s, if_pos rfl, ck7 s2, k_frame5 k2, bnd_s, if_pos rfl, ck7 s2, k_showsNo k2, bnd2_s, if_pos rfl, ck7 s2, k_count6 k2, bnd_s, if_pos rfl]
end KC
