/-! WHAT IS SHOWN; THE TEXT -/
def Om (N : Nat) (S : St) (f7 : St → Option (Int32 × St)) (f8 : St → Option Int32) : Prop := ∃ v S1, f7 S = some (v, S1) ∧ f8 S1 = some v ∧ INV (N + 1) S1
theorem Om.no {N : Nat} {S : St} {f7 : St → Option (Int32 × St)} {f8 : St → Option Int32} (h : INV N S) (v : Int32) (h7 : f7 S = some (v, S)) (h8 : f8 S = some v) : Om N S f7 f8 := ⟨v, S, h7, h8, h.mono (by omega)⟩
/-- only scratch of the class has changed -/
def SC : Nat → Prop := fun x => 28 ≤ x ∧ x < 44
theorem INV.scr {N : Nat} {S S' : St} (h : INV N S) (hc : Ch SC S S') (hr : S'.2.1 = S.2.1) : INV N S' := by
  obtain ⟨st, len, i1, i2, i3, i4, i5, i6, i7⟩ := h
  have c1 := i1.scr hc (fun x q => q) hr
  have n : ∀ x, 124 ≤ x → ¬ SC x := fun x hx => by unfold SC; omega
  have e125 : S'.1 125 = S.1 125 := (hc.2 125 (n _ (by omega))).1
  have e126 : S'.1 126 = S.1 126 := (hc.2 126 (n _ (by omega))).1
  have e128 : S'.1 128 = S.1 128 := (hc.2 128 (n _ (by omega))).1
  refine ⟨st, len, ?_, i2.ch hc (n _ (by omega)), by rw [hc.i (n _ (by omega))]; exact i3, by rw [hc.i (n _ (by omega))]; exact i4, by rw [e125]; exact i5, ?_, ?_⟩
  · rw [e125, e126, e128]
    exact c1
  · rw [e126]
    exact i6
  · rw [e128]
    exact i7
theorem Ex.sc {P : Nat → Nat → Prop} {S S' : St} (h : Ex P S S') (hP : ∀ x j, P x j → SC x) : Ch SC S S' := h.ch hP
theorem om_shows {N : Nat} {S : St} (h : INV N S) (a b t : Int32) : Om N S (fun S => f_X7_shows S 4 a b t) (fun S => f_X8_shows S 124 a b t) := by
  have h0 := h
  obtain ⟨st, len, i1, i2, i3, i4, i5, i6, i7⟩ := h
  have hs := i1.1
  have e0 : S.2.1 4 0 = 5 := hs.2.1.1
  have e7 : S.2.1 4 7 = 43 := hs.2.1.2.2.2.2.2.2
  obtain ⟨tc, fc, bl, R, C, hn⟩ := i1.2.2.1
  obtain ⟨tm, hok⟩ := i5.of hn.2.1 hn.1.2.1 hn.2.2.2.2.2.2.2.1.2.1 hn.2.2.2.2.2.2.2.1.2.2
  have hR := hn.2.2.1
  have hC := hn.2.2.2.1
  by_cases ha : 0 ≤ a ∧ a ≤ nI R - 1
  · by_cases hb : 0 ≤ b ∧ b ≤ nI C - 1
    · by_cases ht : 0 ≤ t ∧ t ≤ 20000
      · obtain ⟨r, rfl, hr⟩ := idx_ex (by omega) ha
        obtain ⟨c, rfl, hc⟩ := idx_ex (by omega) hb
        obtain ⟨n, rfl, -, hn2⟩ := q_ex (lo := 0) (hi := 20000) ht.1 ht.2 (by decide) (by decide)
        obtain ⟨S1, p1, p2, p3⟩ := e_paint hs (m := 0) (x := -1) (t := nI n) sc5 (a := 43) (Or.inr (Or.inr rfl)) (show r < 10 by omega) hn.1 (fun q hq _ => hok.bt (by omega) q hq) (by omega)
        have s1 := hs.ex p2
        have hne : ∀ d, d ≤ 19 → 5 + d ≠ 43 := fun d hd => by omega
        have hw1 := hn.1.ex p2 hne
        have e0' : S1.2.1 4 0 = 5 := s1.2.1.1
        have e7' : S1.2.1 4 7 = 43 := s1.2.1.2.2.2.2.2.2
        have hrg : Rg (raw (S.1 125) r c (nI n) tc) 0 255 := raw_rg hok.2.2.2.1.2.2.1 (fun q hq => by
          obtain ⟨a, b, wd, br, P, V, h1, h2, h3, h4, h5, h6⟩ := hok.2.2.2.2.1 q hq
          exact ⟨br, h6.1, by omega, h6.2⟩)
        have hx : ∀ q, q < tc → nI q ≠ (-1 : Int32) := fun q hq e => by
          have := congrArg Int32.toInt e
          rw [q_int (by have := hn.1.2.1; omega)] at this
          have e2 : (-1 : Int32).toInt = -1 := by decide
          omega
        have hcc := p2.sc (fun x j q => by unfold SC; omega)
        have e125 : S1.1 125 = S.1 125 := (hcc.2 125 (by unfold SC; omega)).1
        have i2' := i2.ch hcc (by unfold SC; omega)
        refine ⟨sh (S.1 125) tc r c (nI n), S1, ?_, ?_, (h0.scr hcc p2.r).mono (by omega)⟩
        · show f_X7_shows S 4 (nI r) (nI c) (nI n) = _
          unfold f_X7_shows
          have p1' : f_X3_paint S 5 (nI r) (nI n) (-1) 0 43 = some S1 := p1
          rw [ck7 hs, c_isPlace hs hn, if_pos ⟨ha, hb⟩, bnd_s, if_neg (by decide), e_within, if_pos ht, bnd_s, if_neg (by decide), ck7 hs, ck7 hs, e0, e7, ck5 hs, p1', bnd_s, ck7 s1, e7', c_numberIn s1.n (n := 16) rfl (by decide) rfl (by omega) (by omega), bnd_s, if_pos (by omega), ck7 s1, e0', ck5 s1, e_percentAt s1 sc5 hw1, bnd_s, e_dimmed, bnd_s, p3 c (by omega), rawx_raw hx, sh_dim hrg]
        · show f_X8_shows S1 124 (nI r) (nI c) (nI n) = _
          unfold f_X8_shows
          rw [ck8 i2', e_isRow i2', e125, hR.1, if_pos ha, bnd_s, if_neg (by decide), ck8 i2', e_isColumn i2', e125, hC.1, if_pos hb, bnd_s, if_neg (by decide), e_in, if_pos ht, bnd_s, if_neg (by decide), ck8 i2', i2'.2.1, e_shown i2'.1 (Or.inl rfl) (by rw [e125]; exact hn.2.1) hn.1.2.1, bnd_s, e125]
      · refine Om.no h0 (-10000001) ?_ ?_
        · show f_X7_shows S 4 a b t = _
          unfold f_X7_shows
          rw [ck7 hs, c_isPlace hs hn, if_pos ⟨ha, hb⟩, bnd_s, if_neg (by decide), e_within, if_neg ht, bnd_s, if_pos rfl]
        · show f_X8_shows S 124 a b t = _
          unfold f_X8_shows
          rw [ck8 i2, e_isRow i2, hR.1, if_pos ha, bnd_s, if_neg (by decide), ck8 i2, e_isColumn i2, hC.1, if_pos hb, bnd_s, if_neg (by decide), e_in, if_neg ht, bnd_s, if_pos rfl]
    · refine Om.no h0 (-10000001) ?_ ?_
      · show f_X7_shows S 4 a b t = _
        unfold f_X7_shows
        rw [ck7 hs, c_isPlace hs hn, if_neg (fun q => hb q.2), bnd_s, if_pos rfl]
      · show f_X8_shows S 124 a b t = _
        unfold f_X8_shows
        rw [ck8 i2, e_isRow i2, hR.1, if_pos ha, bnd_s, if_neg (by decide), ck8 i2, e_isColumn i2, hC.1, if_neg hb, bnd_s, if_pos rfl]
  · refine Om.no h0 (-10000001) ?_ ?_
    · show f_X7_shows S 4 a b t = _
      unfold f_X7_shows
      rw [ck7 hs, c_isPlace hs hn, if_neg (fun q => ha q.1), bnd_s, if_pos rfl]
    · show f_X8_shows S 124 a b t = _
      unfold f_X8_shows
      rw [ck8 i2, e_isRow i2, hR.1, if_neg ha, bnd_s, if_pos rfl]
/-! the text -/
theorem CI.txt {S S' : St} {w : Wf} {st len len' : Nat} {h : Nat → Wf} {tx tx' : Nat → Int32} (hi : CI S w st h len tx) (hc : Ch (fun x => x = 26 ∨ x = 27) S S') (hr : S'.2.1 = S.2.1) (h1 : len' ≤ 80) (h2 : S'.1 26 1 = nI len') (h3 : ∀ j, j < len' → S'.1 27 j = tx' j) : CI S' w st h len' tx' := by
  obtain ⟨p1, p2, p3, ⟨a1, a2, a3⟩, p5, p6, p7⟩ := hi
  refine ⟨p1.rf hc.1 hr, p2.ch hc (by omega) (by omega), p3.ch p1 sc5 hc (fun d hd => by omega), ⟨a1, by rw [hc.i (by omega)]; exact a2, fun i hi => ?_⟩, h1, h2, h3⟩
  rw [hr]
  obtain ⟨hsc, -⟩ := p1.2.2.2.2.2.2.2.1 i (by omega)
  exact (a3 i hi).ch p1 hsc hc (fun d hd => by
    have := hsc.no hd
    omega)
theorem INV.txt {N : Nat} {S S1 S2 : St} {len' st len : Nat} {tx' : Nat → Int32} (i1 : CI S (S.1 125) st (fun i j => S.1 126 (867 * i + j)) len (S.1 128)) (i2 : MSh S) (i3 : S.1 124 2 = nI st) (i5 : OKw N (S.1 125)) (i6 : ∀ i, i < st → OKw N (fun j => S.1 126 (867 * i + j))) (hc : Ch (fun x => x = 26 ∨ x = 27) S S1) (hr : S1.2.1 = S.2.1) (h1 : len' ≤ 80) (h2 : S1.1 26 1 = nI len') (h3 : ∀ j, j < len' → S1.1 27 j = tx' j) (he : Ex (fun x j => x = 128 ∨ (x = 124 ∧ j = 5)) S1 S2) (h4 : S2.1 124 5 = nI len') (h5 : ∀ j, j < len' → S2.1 128 j = tx' j) (h6 : ∀ j, j < len' → Rg (tx' j) 32 126) : INV (N + 1) S2 := by
  have c1 := i1.txt hc hr h1 h2 h3
  have c2 : CI S2 (S.1 125) st (fun i j => S.1 126 (867 * i + j)) len' tx' := c1.ch (A := fun x => 124 ≤ x) (he.ch (fun x j q => by show 124 ≤ x; omega)) (fun x hx => by omega)
  have z : ∀ x j, x ≠ 26 → x ≠ 27 → ¬ (x = 128 ∨ (x = 124 ∧ j = 5)) → S2.1 x j = S.1 x j := fun x j n1 n2 n3 => by rw [he.2 x j n3, hc.i (by omega)]
  exact INV.mk c2 ((i2.ch hc (by omega)).ex he) (fun j hj => z _ _ (by omega) (by omega) (by omega)) (by rw [z _ _ (by omega) (by omega) (by omega)]; exact i3) (fun i hi j hj => z _ _ (by omega) (by omega) (by omega)) h4 h5 (i5.mono (by omega)) (fun i hi => (i6 i hi).mono (by omega)) h6
theorem op_clearText {N : Nat} {S : St} (h : INV N S) : Op N S (fun S => f_X7_clearText S 4) (fun S => f_X8_clearText S 124) := by
  obtain ⟨st, len, i1, i2, i3, i4, i5, i6, i7⟩ := h
  have hs := i1.1
  have e3 : S.2.1 4 3 = 26 := hs.2.1.2.2.1
  have hc : Ch (fun x => x = 26 ∨ x = 27) S (upI S 26 1 0) := Ch.up (A := fun x => x = 26 ∨ x = 27) Ch.rf (Or.inl rfl)
  have m1 := i2.ch hc (by omega)
  refine ⟨nI len, upI S 26 1 0, upI (upI S 26 1 0) 124 5 0, ?_, ?_, INV.txt (len' := 0) (tx' := fun _ => 0) i1 i2 i3 i5 i6 hc rfl (by omega) rfl (fun j hj => by omega) (Ex.rf.upp (Or.inr ⟨rfl, rfl⟩)) rfl (fun j hj => by omega) (fun j hj => by omega)⟩
  · show f_X7_clearText S 4 = _
    unfold f_X7_clearText
    rw [ck7 hs, e3, ck26 hs, ck7 hs, ck26 hs, vlt_s, i1.2.2.2.2.2.1]
  · show f_X8_clearText (upI S 26 1 0) 124 = _
    unfold f_X8_clearText
    rw [ck8 m1, ck8 m1, vlt_s, upI_at, if_neg (by omega), i4]
theorem chr_all : ∀ n, n < 127 → ((nI n).toUInt32 % 65536).toInt32 = nI n ∧ isC (nI n) := by decide +kernel
theorem op_type {N : Nat} {S : St} (h : INV N S) (a : Int32) : Op N S (fun S => f_X7_type S 4 a) (fun S => f_X8_type S 124 a) := by
  have h0 := h
  obtain ⟨st, len, i1, i2, i3, i4, i5, i6, i7⟩ := h
  have hs := i1.1
  have e3 : S.2.1 4 3 = 26 := hs.2.1.2.2.1
  have e27 : S.2.1 26 0 = 27 := hs.2.2.1.1
  have hl : len ≤ 80 := i1.2.2.2.2.1
  have h26 : S.1 26 1 = nI len := i1.2.2.2.2.2.1
  have hl80 : Int32.ofNat (ln 27) = nI 80 := rfl
  by_cases ha : 32 ≤ a ∧ a ≤ 126
  · obtain ⟨n, rfl, hn1, hn2⟩ := q_ex (lo := 32) (hi := 126) ha.1 ha.2 (by decide) (by decide)
    obtain ⟨c1, c2⟩ := chr_all n (by omega)
    have o26 : ∀ {β : Type} (o : Option β), chk (okc S 4 26) o = o := fun o => ck26 hs o
    by_cases h80 : len < 80
    · have ecl : (nI len).toNatClampNeg = len := q_cl (by omega)
      have hA : f_X4_append S 26 (nI n) = some (1, upI (upI S 27 len (nI n)) 26 1 (nI (len + 1))) := by
        unfold f_X4_append
        simp only [h26, e27, hl80, ecl]
        have s1 : CSh (upI S 27 len (nI n)) := hs.rf rfl rfl
        rw [o26, if_neg (by rw [L0, q_lt (by omega) (by omega)]; omega), o26, o26, ck_t (show okc S 11 27 from okS hs.n rfl (by decide)), if_pos (by rw [q_lt (by omega) (by omega)]; omega), o26, o26, ck_t c2, ck_t (show inw S 11 27 (nI len) from ⟨⟨okS hs.n rfl (by decide), by rw [L0, q_le (by omega) (by omega)]; omega, by rw [ecl]; exact h80⟩, by decide⟩), vlt_s, ck26 s1, ck26 s1, vlt_s, upI_at, if_neg (by omega), h26, L1, q_add]
      have hc : Ch (fun x => x = 26 ∨ x = 27) S (upI (upI S 27 len (nI n)) 26 1 (nI (len + 1))) := Ch.up (A := fun x => x = 26 ∨ x = 27) (Ch.up (A := fun x => x = 26 ∨ x = 27) Ch.rf (Or.inr rfl)) (Or.inl rfl)
      generalize hS1 : upI (upI S 27 len (nI n)) 26 1 (nI (len + 1)) = S1 at hA hc
      have s1 : CSh S1 := by rw [← hS1]; exact hs.rf rfl rfl
      have r1 : S1.2.1 = S.2.1 := by rw [← hS1]; rfl
      have v26 : S1.1 26 1 = nI (len + 1) := by rw [← hS1, upI_at, if_pos ⟨rfl, rfl⟩]
      have v27 : ∀ j, j < len + 1 → S1.1 27 j = if j = len then nI n else S.1 128 j := fun j hj => by
        rw [← hS1, upI_at, if_neg (by omega), upI_at]
        by_cases c : j = len
        · rw [if_pos ⟨rfl, c⟩, if_pos c]
        · rw [if_neg (fun q => c q.2), if_neg c]
          exact i1.2.2.2.2.2.2 j (by omega)
      have e3' : S1.2.1 4 3 = 26 := s1.2.1.2.2.1
      have m1 := i2.ch hc (by omega)
      have g5 : S1.1 124 5 = nI len := by rw [hc.i (by omega)]; exact i4
      refine ⟨nI (len + 1), S1, upI (upI S1 128 len (nI n)) 124 5 (nI (len + 1)), ?_, ?_, INV.txt (len' := len + 1) (tx' := fun j => if j = len then nI n else S.1 128 j) i1 i2 i3 i5 i6 hc r1 (by omega) v26 v27 ((Ex.rf.upp (Or.inl rfl)).upp (Or.inr ⟨rfl, rfl⟩)) rfl (fun j hj => ?_) (fun j hj => ?_)⟩
      · show f_X7_type S 4 (nI n) = _
        unfold f_X7_type
        rw [e_within, if_pos ha, bnd_s, if_neg (by decide), ck7 hs, e3, ck26 hs, c1, hA, bnd2_s, if_neg (by decide), ck7 s1, e3', ck26 s1, v26]
      · show f_X8_type S1 124 (nI n) = _
        unfold f_X8_type
        have m2 : MSh (upI S1 128 len (nI n)) := m1
        have m3 : MSh (upI (upI S1 128 len (nI n)) 124 5 (nI (len + 1))) := m1
        rw [e_in, if_pos ha, bnd_s, if_neg (by decide), ck8 m1, g5, if_neg (by rw [L80, q_eq (by omega) (by omega)]; omega), ck8 m1, ck8 m1, m1.2.2.2.2.1, cwA m1.1 ar128 h80, ecl, vlt_s, ck8 m2, ck8 m2, vlt_s, upI_at, if_neg (by omega), g5, L1, q_add, ck8 m3, upI_at, if_pos ⟨rfl, rfl⟩]
      · rw [upI_at, if_neg (by omega), upI_at]
        by_cases c : j = len
        · rw [if_pos ⟨rfl, c⟩, if_pos c]
        · rw [if_neg (fun q => c q.2), if_neg c, hc.i (by omega)]
      · by_cases c : j = len
        · show Rg (if j = len then nI n else S.1 128 j) 32 126
          rw [if_pos c]
          exact ⟨n, rfl, hn1, hn2⟩
        · show Rg (if j = len then nI n else S.1 128 j) 32 126
          rw [if_neg c]
          exact i7 j (by omega)
    · have l80 : len = 80 := by omega
      subst l80
      refine Op.no h0 (-10000003) ?_ ?_
      · show f_X7_type S 4 (nI n) = _
        unfold f_X7_type
        have hA : f_X4_append S 26 (nI n) = some (0, S) := by
          unfold f_X4_append
          simp only [h26, e27, hl80]
          rw [o26, if_neg (by decide), o26, o26, ck_t (show okc S 11 27 from okS hs.n rfl (by decide)), if_neg (by decide)]
        rw [e_within, if_pos ha, bnd_s, if_neg (by decide), ck7 hs, e3, ck26 hs, c1, hA, bnd2_s, if_pos rfl]
      · show f_X8_type S 124 (nI n) = _
        unfold f_X8_type
        rw [e_in, if_pos ha, bnd_s, if_neg (by decide), ck8 i2, i4, if_pos (by decide)]
  · refine Op.no h0 (-10000001) ?_ ?_
    · show f_X7_type S 4 a = _
      unfold f_X7_type
      rw [e_within, if_neg ha, bnd_s, if_pos rfl]
    · show f_X8_type S 124 a = _
      unfold f_X8_type
      rw [e_in, if_neg ha, bnd_s, if_pos rfl]
