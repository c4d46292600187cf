section KC
variable {S : St} {w : Wf} {st : Nat} {h : Nat → Wf}
/-! turn, thingOf, blind, pass, forget, undo, shoot -/
theorem k_turn (k : Kc S w st h) {q : Nat} {b : Int32} (hq : q < tcw w) (hb : -200 ≤ b ∧ b ≤ 200) : ∃ S2, f_X7_turn S 4 (nI q) b = some (w (9 + 6 * q + 3), S2) ∧ Kc S2 (wtur w q b) (hst st) (hps st h w) := by
  have hs := k.cs
  have hn := k.rn
  have e0 : S.2.1 4 0 = 5 := hs.2.1.1
  have t2 := hn.1.2.2.1
  have t4 := hn.1.2.1
  refine k.keep (fun S1 s1 r1 q1 => ?_) ⟨_, _, _, k.ok.tur hq hb⟩
  have e0' : S1.2.1 4 0 = 5 := s1.2.1.1
  have okq : ∀ (S' : St) (o : Option St), S'.2.2 = 124 → chk (okc S' 5 (5 + 6 + q)) o = o := fun S' o z => ck_t (okS z (sc5.thing (by omega)) (by omega)) o
  have okq2 : ∀ (S' : St) (o : Option (Int32 × St)), S'.2.2 = 124 → chk (okc S' 5 (5 + 6 + q)) o = o := fun S' o z => ck_t (okS z (sc5.thing (by omega)) (by omega)) o
  have x2 := q1.1.2.2.2 q hq 2 (by omega)
  have x3 := q1.1.2.2.2 q hq 3 (by omega)
  have x6 : S1.1 5 6 = w 33 := q1.2.2.2.2.1
  have hcs : f_X5_changeSpeed S1 (5 + 6 + q) b (w 33) = some (upI (upI S1 (5 + 6 + q) 2 (pl w q (w 33) - b * w 33)) (5 + 6 + q) 3 b) := by
    unfold f_X5_changeSpeed f_X5_positionAt
    have okp : ∀ (o : Option Int32), chk (okc S1 5 (5 + 6 + q)) o = o := fun o => ck_t (okS s1.n (sc5.thing (by omega)) (by omega)) o
    rw [okq S1 _ s1.n, okp, okp, bnd_s, okq S1 _ s1.n, vlt_s, okq _ _ (by rw [upI_n]; exact s1.n), vlt_s, x2, x3]
    rfl
  refine ⟨upI (upI S1 (5 + 6 + q) 2 (pl w q (w 33) - b * w 33)) (5 + 6 + q) 3 b, ?_, s1.rf rfl rfl, (Ch.up (A := AN) (Ch.up (A := AN) Ch.rf (by unfold AN; omega)) (by unfold AN; omega)), _, _, _, _, _, q1.th s1 sc5 hq ((Ex.rf.upa).upa) (fun j hj => ?_) (fun j hj hr => ?_)⟩
  · unfold f_X7_turn
    rw [ck7 hs, e0, ck5 hs, c_thingAt_t hs sc5 t2 t4 hq, bnd_s, if_neg (by omega), e_within, if_pos hb, bnd_s, if_neg (by decide), ck7 hs, r1, bnd_s, okq2 S1 _ s1.n, ck7 s1, e0', ck5 s1, okq2 S1 _ s1.n, x6, hcs, bnd_s, x3]
  · unfold wtur
    rw [upI_at, upI_at]
    by_cases c3 : j = 3
    · subst c3
      rw [if_pos ⟨rfl, rfl⟩, if_neg (by omega), if_pos rfl]
    · rw [if_neg (fun z => c3 z.2)]
      by_cases c2 : j = 2
      · subst c2
        rw [if_pos ⟨rfl, rfl⟩, if_pos rfl]
      · rw [if_neg (fun z => c2 z.2), if_neg (by omega), if_neg (by omega)]
        exact q1.1.2.2.2 q hq j hj
  · unfold wtur
    rw [if_neg (by omega), if_neg (by omega)]
theorem k_turnNo (k : Kc S w st h) {x : Int32} (hx : ¬ (0 ≤ x ∧ x ≤ nI (tcw w) - 1)) (b : Int32) : f_X7_turn S 4 x b = some (-10000001, S) := by
  have hs := k.cs
  have hn := k.rn
  have e0 : S.2.1 4 0 = 5 := hs.2.1.1
  unfold f_X7_turn
  rw [ck7 hs, e0, ck5 hs, c_thingAt_f hs sc5 hn.1.2.2.1 x hx hn.1.2.1, bnd_s, if_pos rfl]
theorem k_thingOf6 (k : Kc S w st h) {q : Nat} (hq : q < tcw w) : f_X7_thingOf S 4 (nI q) 6 = some (pl w q (w 33)) := by
  have hs := k.cs
  have hn := k.rn
  have e0 : S.2.1 4 0 = 5 := hs.2.1.1
  have t4 := hn.1.2.1
  have okq : ∀ {β : Type} (o : Option β), chk (okc S 5 (5 + 6 + q)) o = o := fun o => ck_t (okS hs.n (sc5.thing (by omega)) (by omega)) o
  have x2 := hn.1.2.2.2 q hq 2 (by omega)
  have x3 := hn.1.2.2.2 q hq 3 (by omega)
  unfold f_X7_thingOf
  rw [ck7 hs, e0, ck5 hs, c_thingAt_t hs sc5 hn.1.2.2.1 t4 hq, bnd_s, if_neg (by omega), e_within, if_pos (by decide), bnd_s, if_neg (by decide), if_pos rfl, ck7 hs, ck5 hs, okq]
  unfold f_X5_positionAt
  rw [okq, okq, bnd_s, x2, x3, hn.2.2.2.2.1]
  rfl
theorem k_thingOf2 (k : Kc S w st h) {q : Nat} (hq : q < tcw w) : f_X7_thingOf S 4 (nI q) 2 = some (w (9 + 6 * q + 2)) := by
  have hs := k.cs
  have hn := k.rn
  have e0 : S.2.1 4 0 = 5 := hs.2.1.1
  have t4 := hn.1.2.1
  have okq : ∀ {β : Type} (o : Option β), chk (okc S 5 (5 + 6 + q)) o = o := fun o => ck_t (okS hs.n (sc5.thing (by omega)) (by omega)) o
  have x2 := hn.1.2.2.2 q hq 2 (by omega)
  unfold f_X7_thingOf
  rw [ck7 hs, e0, ck5 hs, c_thingAt_t hs sc5 hn.1.2.2.1 t4 hq, bnd_s, if_neg (by omega), e_within, if_pos (by decide), bnd_s, if_neg (by decide), if_neg (by decide), okq]
  unfold f_X5_numberOf
  rw [if_neg (by decide), if_neg (by decide), if_pos (by decide), okq, bnd_s, x2]
theorem k_thingOf3 (k : Kc S w st h) {q : Nat} (hq : q < tcw w) : f_X7_thingOf S 4 (nI q) 3 = some (w (9 + 6 * q + 3)) := by
  have hs := k.cs
  have hn := k.rn
  have e0 : S.2.1 4 0 = 5 := hs.2.1.1
  have t4 := hn.1.2.1
  have okq : ∀ {β : Type} (o : Option β), chk (okc S 5 (5 + 6 + q)) o = o := fun o => ck_t (okS hs.n (sc5.thing (by omega)) (by omega)) o
  have x3 := hn.1.2.2.2 q hq 3 (by omega)
  unfold f_X7_thingOf
  rw [ck7 hs, e0, ck5 hs, c_thingAt_t hs sc5 hn.1.2.2.1 t4 hq, bnd_s, if_neg (by omega), e_within, if_pos (by decide), bnd_s, if_neg (by decide), if_neg (by decide), okq]
  unfold f_X5_numberOf
  rw [if_neg (by decide), if_neg (by decide), if_neg (by decide), if_pos (by decide), okq, bnd_s, x3]
/-! blind -/
theorem k_blindJ (k : Kc S w st h) {i n : Nat} (hi : i < 10) (hn1 : n ≤ 1) : f_X7_blind S 4 (nI i) (nI n) = f_X7_blind_J43 S 4 (nI i) (nI n) (if (blw w).testBit i = true then 1 else 0) := by
  have hs := k.cs
  have hn := k.rn
  have e0 : S.2.1 4 0 = 5 := hs.2.1.1
  obtain ⟨b7, b34, bb⟩ := hn.2.2.2.2.2.1
  have ha : (0 : Int32) ≤ nI i ∧ nI i ≤ 9 := by
    rw [L0, L9, q_le (by omega) (by omega), q_le (by omega) (by omega)]
    omega
  have hb : (0 : Int32) ≤ nI n ∧ nI n ≤ 1 := by
    rw [L0, L1, q_le (by omega) (by omega), q_le (by omega) (by omega)]
    omega
  unfold f_X7_blind
  rw [e_within, if_pos ha, bnd_s, if_neg (by decide), e_within, if_pos hb, bnd_s, if_neg (by decide), ck7 hs, e0, ck5 hs, b7, e_holds (by omega) (by omega), bnd_s]
  have hn01 : n = 0 ∨ n = 1 := by omega
  rcases hn01 with rfl | rfl
  · rw [if_neg (show ¬ nI 0 = (1 : Int32) by decide)]; rfl
  · rw [if_pos (show nI 1 = (1 : Int32) from rfl)]; rfl
theorem k_blindNo (k : Kc S w st h) {i n : Nat} (hi : i < 10) (hn1 : n ≤ 1) (hbit : (if (blw w).testBit i = true then (1 : Int32) else 0) = nI n) : f_X7_blind S 4 (nI i) (nI n) = some (-10000002, S) := by
  rw [k_blindJ k hi hn1]
  unfold f_X7_blind_J43
  rw [if_pos hbit]
theorem k_blind (k : Kc S w st h) {i n : Nat} (hi : i < 10) (hn1 : n ≤ 1) (hbit : ¬ (if (blw w).testBit i = true then (1 : Int32) else 0) = nI n) : ∃ S2, f_X7_blind S 4 (nI i) (nI n) = some (nI (pc (blw w ^^^ (1 <<< i)) 17), S2) ∧ Kc S2 (upw w 34 (nI (blw w ^^^ (1 <<< i)))) (hst st) (hps st h w) := by
  have hs := k.cs
  have hn := k.rn
  have hok := k.ok
  obtain ⟨b7, b34, bb⟩ := hn.2.2.2.2.2.1
  have hx : blw w ^^^ (1 <<< i) < 1024 := by
    refine Nat.xor_lt_two_pow (n := 10) bb ?_
    rw [Nat.one_shiftLeft]
    exact Nat.pow_lt_pow_right (by omega) (by omega)
  refine k.keep (fun S1 s1 r1 q1 => ?_) ⟨_, _, _, hok.cong (fun j _ _ _ h34 _ => if_neg h34)⟩
  have e0' : S1.2.1 4 0 = 5 := s1.2.1.1
  have b7' : S1.1 5 7 = nI (blw w) := q1.2.2.2.2.2.1.1
  refine ⟨upI S1 5 7 (nI (blw w ^^^ (1 <<< i))), ?_, s1.rf rfl rfl, Ch.up (A := AN) Ch.rf (by unfold AN; omega), _, _, _, _, _, q1.sc (S' := upI S1 5 7 (nI (blw w ^^^ (1 <<< i)))) (bl' := blw w ^^^ (1 <<< i)) (t := w 33) s1 sc5 rfl (fun x j => ?_) (fun j hj => ?_) hx⟩
  · rw [k_blindJ k hi hn1]
    unfold f_X7_blind_J43
    have e0'' : (upI S1 5 7 (nI (blw w ^^^ (1 <<< i)))).2.1 4 0 = 5 := e0'
    have s2 : CSh (upI S1 5 7 (nI (blw w ^^^ (1 <<< i)))) := s1.rf rfl rfl
    have hsh : (1 : Int32) <<< (nI i &&& 31) = nI (1 <<< i) := q_shl 1 (by omega)
    rw [if_neg hbit, ck7 hs, r1, bnd_s, ck7 s1, e0', ck5 s1, ck5 s1, vlt_s, b7', hsh, q_xor, ck7 s2, e0'', ck5 s2, upI_at, if_pos ⟨rfl, rfl⟩, e_bitCount (by omega), bnd_s]
  · rw [upI_at]
    by_cases c : x = 5 ∧ j = 7
    · rw [if_pos c, if_neg (by omega)]
    · rw [if_neg c]
      by_cases c2 : x = 5 ∧ j = 6
      · rw [if_pos c2, c2.1, c2.2]; exact q1.2.2.2.2.1
      · rw [if_neg c2]
  · show (if j = 34 then nI (blw w ^^^ (1 <<< i)) else w j) = _
    by_cases c : j = 34
    · rw [if_pos c, if_neg (by omega)]
    · rw [if_neg c]
      by_cases c2 : j = 33
      · rw [if_pos c2, c2]
      · rw [if_neg c2]
theorem k_blind10 (k : Kc S w st h) : f_X7_blind S 4 10 1 = some (-10000001, S) := by
  unfold f_X7_blind
  rw [e_within, if_neg (by decide), bnd_s, if_pos rfl]
theorem k_pass (k : Kc S w st h) {d : Nat} (h1 : 1 ≤ d) (h2 : d ≤ 200) (hb : tmw w + d ≤ 20000) : ∃ S2, f_X7_pass S 4 (nI d) = some (nI (tmw w + d), S2) ∧ Kc S2 (upw w 33 (nI (tmw w + d))) (hst st) (hps st h w) := by
  have hs := k.cs
  have hn := k.rn
  have hok := k.ok
  have e0 : S.2.1 4 0 = 5 := hs.2.1.1
  have w33 := hok.2.2.1.1
  have ha : (1 : Int32) ≤ nI d ∧ nI d ≤ 200 := by
    rw [L1, L200, q_le (by omega) (by omega), q_le (by omega) (by omega)]
    omega
  have t6 : S.1 5 6 = nI (tmw w) := hn.2.2.2.2.1.trans w33
  refine k.keep (fun S1 s1 r1 q1 => ?_) ⟨_, _, _, hok.later hb (fun _ _ => rfl)⟩
  have e0' : S1.2.1 4 0 = 5 := s1.2.1.1
  have t6' : S1.1 5 6 = nI (tmw w) := q1.2.2.2.2.1.trans w33
  refine ⟨upI S1 5 6 (nI (tmw w + d)), ?_, s1.rf rfl rfl, Ch.up (A := AN) Ch.rf (by unfold AN; omega), _, _, _, _, _, q1.sc (S' := upI S1 5 6 (nI (tmw w + d))) (bl' := blw w) (t := nI (tmw w + d)) s1 sc5 rfl (fun x j => ?_) (fun j hj => ?_) q1.2.2.2.2.2.1.2.2⟩
  · unfold f_X7_pass
    have e0'' : (upI S1 5 6 (nI (tmw w + d))).2.1 4 0 = 5 := e0'
    have s2 : CSh (upI S1 5 6 (nI (tmw w + d))) := s1.rf rfl rfl
    rw [e_within, if_pos ha, bnd_s, if_neg (by decide), ck7 hs, e0, ck5 hs, t6, q_add, if_pos (by rw [L20000, q_le (by omega) (by omega)]; exact hb), ck7 hs, r1, bnd_s, ck7 s1, e0', ck5 s1, ck5 s1, vlt_s, t6', q_add, ck7 s2, e0'', ck5 s2, upI_at, if_pos ⟨rfl, rfl⟩]
  · rw [upI_at]
    by_cases c : x = 5 ∧ j = 6
    · rw [if_pos c, if_pos c]
    · rw [if_neg c, if_neg c]
      by_cases c2 : x = 5 ∧ j = 7
      · rw [if_pos c2, c2.1, c2.2]; exact q1.2.2.2.2.2.1.1
      · rw [if_neg c2]
  · show (if j = 33 then nI (tmw w + d) else w j) = _
    by_cases c : j = 33
    · rw [if_pos c, if_pos c]
    · rw [if_neg c, if_neg c]
      by_cases c2 : j = 34
      · rw [if_pos c2, c2]; exact q1.2.2.2.2.2.1.2.1
      · rw [if_neg c2]
theorem k_forget (k : Kc S w st h) {i : Nat} (hi : i < fcw w) : ∃ S2, f_X7_forget S 4 (nI i) = some (nI (fcw w - 1), S2) ∧ Kc S2 (wdrop w i (fcw w)) (hst st) (hps st h w) := by
  have hs := k.cs
  have hn := k.rn
  have hok := k.ok
  have e0 : S.2.1 4 0 = 5 := hs.2.1.1
  obtain ⟨f4, w36, f5⟩ := hn.2.2.2.2.2.2.2.1
  have hFi := ((hs.sc sc5).2.2.2.1 i (by omega)).rg
  refine k.keep (fun S1 s1 r1 q1 => ?_) ⟨_, _, _, hok.drop hi (fun _ _ => rfl)⟩
  have e0' : S1.2.1 4 0 = 5 := s1.2.1.1
  obtain ⟨S2, g1, g2, g3, g4⟩ := e_dropFrame s1 sc5 (i := i) q1.2.2.2.2.2.2.2.1.1 f5 hi
  have s2 := s1.rota sc5 hi f5 g2 g4
  have e0'' : S2.2.1 4 0 = 5 := s2.2.1.1
  refine ⟨S2, ?_, s2, ⟨g2, fun x hx => ⟨?_, ?_⟩⟩, _, _, _, _, _, q1.drop s1 sc5 hi g2 g3 g4 (fun _ _ => rfl)⟩
  · unfold f_X7_forget
    rw [ck7 hs, e0, ck5 hs, c_frameAt_t hs sc5 f4 f5 hi, bnd_s, if_neg (by omega), ck7 hs, r1, bnd_s, ck7 s1, e0', ck5 s1, g1, bnd_s, ck7 s2, e0'', ck5 s2, g3, if_pos ⟨rfl, rfl⟩]
  · funext j
    rw [g3, if_neg (by unfold AN at hx; omega)]
  · funext j
    rw [g4, if_neg (by unfold AN at hx; omega)]
theorem k_forgetNo (k : Kc S w st h) {x : Int32} (hx : ¬ (0 ≤ x ∧ x ≤ nI (fcw w) - 1)) : f_X7_forget S 4 x = some (-10000001, S) := by
  have hs := k.cs
  have hn := k.rn
  have e0 : S.2.1 4 0 = 5 := hs.2.1.1
  obtain ⟨f4, w36, f5⟩ := hn.2.2.2.2.2.2.2.1
  unfold f_X7_forget
  rw [ck7 hs, e0, ck5 hs, c_frameAt_f hs sc5 f4 x hx f5, bnd_s, if_pos rfl]
theorem k_undo (k : Kc S w st h) (hz : st ≠ 0) : ∃ S2, f_X7_undo S 4 = some (nI (st - 1), S2) ∧ Kc S2 (h (st - 1)) (st - 1) h := by
  obtain ⟨⟨len, tx, ci⟩, hok, hh⟩ := k
  have hs := ci.1
  have e0 : S.2.1 4 0 = 5 := hs.2.1.1
  have e1 : S.2.1 4 1 = 25 := hs.2.1.2.1
  have ci0 := ci
  obtain ⟨h1, h2, h3, ⟨a1, a2, a3⟩, h5, h6, h7⟩ := ci
  have es : nI st - 1 = nI (st - 1) := by rw [L1, q_sub (by omega)]
  obtain ⟨hsc, hn5⟩ := h1.2.2.2.2.2.2.2.1 (st - 1) (by omega)
  have hb := hsc.rg
  obtain ⟨S1, g1, g2, g3⟩ := (a3 (st - 1) (by omega)).becomes hs sc5 hsc (Ne.symm hn5)
  have s1 := hs.ex g2
  have ecl : (nI (st - 1)).toNatClampNeg = st - 1 := q_cl (by omega)
  have hl4 : Int32.ofNat (ln 25) = nI 4 := rfl
  have c1 : Ch AN S S1 := g2.ch (fun x j q => Or.inl ⟨q.1, q.2⟩)
  have d7 : f_X7_undo S 4 = some (nI (st - 1), upI S1 4 2 (nI (st - 1))) := by
    unfold f_X7_undo
    have s2 : CSh (upI S1 4 2 (nI (st - 1))) := s1.rf rfl rfl
    simp only [e1, e0, a2, es, hl4, ecl]
    rw [ck7 hs, if_neg (by rw [L0, q_lt (by omega) (by omega)]; omega), ck7 hs, ck_t (show okc S 13 25 from okS hs.n rfl (by decide)), if_pos (by rw [q_lt (by omega) (by omega)]; omega), ck7 hs, ck7 hs, ck_t (show ina S 13 25 (nI (st - 1)) from ⟨okS hs.n rfl (by decide), by rw [L0, q_le (by omega) (by omega)]; omega, by rw [ecl]; show st - 1 < 4; omega⟩), ck5 hs, g1, bnd_s, ck7 s1, vlt_s, ck7 s2, upI_at, if_pos ⟨rfl, rfl⟩]
  have ci1 : CI S1 (h (st - 1)) st h len tx := CI.upd ci0 s1 c1 (fun x q => q) g3
  generalize hS2 : upI S1 4 2 (nI (st - 1)) = S2 at d7
  have x2 : Ex (fun x j => x = 4 ∧ j = 2) S1 S2 := by
    rw [← hS2]
    exact Ex.rf.upp ⟨rfl, rfl⟩
  have c2 : Ch (fun x => x = 4) S1 S2 := x2.ch (fun x j q => q.1)
  have ci2 : CI S2 (h (st - 1)) (st - 1) h len tx := by
    obtain ⟨p1, p2, p3, ⟨p4, p5, p6⟩, p7, p8, p9⟩ := ci1
    refine ⟨p1.ex x2, p2.ch c2 (by omega) (by omega), p3.ch p1 sc5 c2 (fun d hd => by omega), ⟨by omega, by rw [← hS2, upI_at, if_pos ⟨rfl, rfl⟩], fun i hi => ?_⟩, p7, by rw [c2.i (by omega)]; exact p8, fun j hj => by rw [c2.i (by omega)]; exact p9 j hj⟩
    rw [x2.r]
    have hsi := (p1.2.2.2.2.2.2.2.1 i (by omega)).1
    have := hsi.rg
    exact (p6 i (by omega)).ch p1 hsi c2 (fun d hd => by omega)
  exact ⟨S2, d7, ⟨len, tx, ci2⟩, hh (st - 1) (by omega), fun i hi => hh i (by omega)⟩
theorem k_shoot (k : Kc S w st h) : ∃ S2, f_X7_shoot S 4 = some (nI (fpre (fcw w) + 1), S2) ∧ Kc S2 (tkf (wpre w (fcw w)) (tcw w) (fpre (fcw w))) (hst st) (hps st h w) := by
  have hs := k.cs
  have hn := k.rn
  have hok := k.ok
  obtain ⟨f4, w36, f5⟩ := hn.2.2.2.2.2.2.2.1
  have t4 := hn.1.2.1
  have fp : fpre (fcw w) ≤ 4 := by
    unfold fpre
    split <;> omega
  have hR := hn.2.2.1.2.2
  have hC := hn.2.2.2.1.2.2
  refine k.keep (fun S1 s1 r1 q1 => ?_) ⟨_, _, _, hok.pre.tk (tkf_tk hR hC) fp⟩
  have e0' : S1.2.1 4 0 = 5 := s1.2.1.1
  have e7' : S1.2.1 4 7 = 43 := s1.2.1.2.2.2.2.2.2
  obtain ⟨S2, g1, g2, g3, g4⟩ := e_takeFrame s1 (a := 43) (w1 := wpre w (fcw w)) (w' := tkf (wpre w (fcw w)) (tcw w) (fpre (fcw w))) sc5 (Or.inr (Or.inr rfl)) q1 (hok.snap hR) (fun _ _ => rfl) (tkf_tk hR hC)
  have e0'' : S2.2.1 4 0 = 5 := g2.2.1.1
  refine ⟨S2, ?_, g2, g3.wk (fun x q => by unfold AN; omega), _, _, _, _, _, g4⟩
  unfold f_X7_shoot
  rw [ck7 hs, r1, bnd_s, ck7 s1, ck7 s1, e0', e7', ck5 s1, g1, bnd_s, ck7 g2, e0'', ck5 g2, g4.2.2.2.2.2.2.2.1.1]
  rfl
end KC
