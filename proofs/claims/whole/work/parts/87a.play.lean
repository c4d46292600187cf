/-! PLAY -/
theorem exm_ge (ch : Tx) (len : Nat) : ∀ k p tc tm bl n, n ≤ (exm ch len k p tc tm bl n).2.2.2
  | 0, p, tc, tm, bl, n => Nat.le_refl _
  | k + 1, p, tc, tm, bl, n => by
    rw [exm_s]
    split
    · exact Nat.le_refl _
    · split
      · exact Nat.le_refl _
      · split
        · exact Nat.le_refl _
        · split
          · have := exm_ge ch len k (fin ch p).1 (nxT (ch p) tc) (nxM (ch p) (vl ch p 0).toNatClampNeg tm) (nxB (ch p) (vl ch p 0).toNatClampNeg bl) (n + 1)
            omega
          · exact Nat.le_refl _
theorem l_playC {N : Nat} {tx : Nat → Int32} {len R C : Nat} (ht : TxO tx len) (kx : St → Option (Int32 × St)) : ∀ k fuel (S : St) p tc fc tm bl i w, k < fuel → p < 10000 → i + k ≤ 1000 → CSh S → TC S tx len → RN S 5 w tc fc bl R C → OKn N w tc fc tm → S.1 26 3 = nI (exm (chN tx len) len k p tc tm bl i).2.2.2 → ∃ S', wl3 (f_X7_play_B40 4 28 kx) fuel S (nI p) (nI i) = kx S' ∧ CSh S' ∧ Ch AN S S' ∧ RNe S' 5 (exw (chN tx len) len R C k p tc fc tm bl w) ∧ OKw N (exw (chN tx len) len R C k p tc fc tm bl w) := by
  have e3 : ∀ S1 : St, CSh S1 → S1.2.1 4 3 = 26 := fun S1 q => q.2.1.2.2.1
  have e0 : ∀ S1 : St, CSh S1 → S1.2.1 4 0 = 5 := fun S1 q => q.2.1.1
  have e7 : ∀ S1 : St, CSh S1 → S1.2.1 4 7 = 43 := fun S1 q => q.2.1.2.2.2.2.2.2
  have l80 := ht.1
  have out : ∀ fuel (S : St) p i, 0 < fuel → CSh S → S.1 26 3 = nI i → wl3 (f_X7_play_B40 4 28 kx) fuel S (nI p) (nI i) = kx S := by
    intro fuel S p i hf hs h3
    cases fuel with
    | zero => omega
    | succ fuel =>
      show f_X7_play_B40 4 28 kx (wl3 (f_X7_play_B40 4 28 kx) fuel) S (nI p) (nI i) = kx S
      generalize wl3 (f_X7_play_B40 4 28 kx) fuel = kk
      unfold f_X7_play_B40
      rw [ck7 hs, e3 S hs, ck26 hs, h3, if_pos (Int32.le_refl _)]
  intro k
  induction k with
  | zero =>
    intro fuel S p tc fc tm bl i w hf hp hik hs hc hn hok h3
    exact ⟨S, out fuel S p i hf hs h3, hs, Ch.rf, ⟨tc, fc, bl, R, C, hn⟩, ⟨tc, fc, tm, hok⟩⟩
  | succ k ih =>
    intro fuel S p tc fc tm bl i w hf hp hik hs hc hn hok h3
    rw [exm_s] at h3
    rw [exw_s]
    by_cases c : len ≤ p
    · rw [if_pos c] at h3
      rw [if_pos c]
      exact ⟨S, out fuel S p i (by omega) hs h3, hs, Ch.rf, ⟨tc, fc, bl, R, C, hn⟩, ⟨tc, fc, tm, hok⟩⟩
    · rw [if_neg c] at h3
      rw [if_neg c]
      cases hfi : (fin (chN tx len) p).2 with
      | true =>
        rw [if_pos hfi] at h3
        rw [if_pos rfl]
        exact ⟨S, out fuel S p i (by omega) hs h3, hs, Ch.rf, ⟨tc, fc, bl, R, C, hn⟩, ⟨tc, fc, tm, hok⟩⟩
      | false =>
        rw [if_neg (by rw [hfi]; exact Bool.false_ne_true)] at h3
        rw [if_neg Bool.false_ne_true]
        cases hw : wrF (chN tx len p) (vl (chN tx len) p) with
        | some x =>
          rw [if_pos (by rw [hw]; rfl)] at h3
          rw [if_pos (show (some x).isSome = true from rfl)]
          exact ⟨S, out fuel S p i (by omega) hs h3, hs, Ch.rf, ⟨tc, fc, bl, R, C, hn⟩, ⟨tc, fc, tm, hok⟩⟩
        | none =>
          rw [if_neg (by rw [hw]; decide)] at h3
          rw [if_neg (show ¬ (none : Option Nat).isSome = true from by decide)]
          cases hcn : canF (chN tx len p) (vl (chN tx len) p 0).toNatClampNeg tc tm bl with
          | false =>
            rw [if_neg (by rw [hcn]; exact Bool.false_ne_true)] at h3
            rw [if_neg Bool.false_ne_true]
            exact ⟨S, out fuel S p i (by omega) hs h3, hs, Ch.rf, ⟨tc, fc, bl, R, C, hn⟩, ⟨tc, fc, tm, hok⟩⟩
          | true =>
            rw [if_pos hcn] at h3
            rw [if_pos rfl]
            cases fuel with
            | zero => omega
            | succ fuel =>
              have hge := exm_ge (chN tx len) len k (fin (chN tx len) p).1 (nxT (chN tx len p) tc) (nxM (chN tx len p) (vl (chN tx len) p 0).toNatClampNeg tm) (nxB (chN tx len p) (vl (chN tx len) p 0).toNatClampNeg bl) (i + 1)
              have hle := (exm_n (chN tx len) len k (fin (chN tx len) p).1 (nxT (chN tx len p) tc) (nxM (chN tx len p) (vl (chN tx len) p 0).toNatClampNeg tm) (nxB (chN tx len p) (vl (chN tx len) p 0).toNatClampNeg bl) (i + 1)).1
              have hfl := fin_le (chN tx len) p
              show ∃ S', f_X7_play_B40 4 28 kx (wl3 (f_X7_play_B40 4 28 kx) fuel) S (nI p) (nI i) = kx S' ∧ _
              generalize hK : wl3 (f_X7_play_B40 4 28 kx) fuel = kk
              unfold f_X7_play_B40
              obtain ⟨S1, r1, r2, r3, r4, r5, r6⟩ := c_read hs ht hc (p := p) (by omega)
              have s1 := hs.ex r2
              have hch1 : Ch AN S S1 := r2.ch (fun x j q => by unfold PO at q; unfold AN; omega)
              have hn1 : RN S1 5 w tc fc bl R C := hn.ch hs sc5 (r2.ch (A := fun x => x = 28 ∨ x = 29) (fun x j q => q)) (fun d hd => by omega)
              obtain ⟨S2, t1, t2, t3, t4, t5⟩ := c_perform s1 hn1 hok r3 (fin_ok hfi).1 (r6 hfi) hw hcn
              have hch2 : Ch AN S1 S2 := t3.wk (fun x q => by unfold PX at q; unfold AN; omega)
              have h28 : S2.1 28 2 = nI (fin (chN tx len) p).1 := by rw [t3.i (by unfold PX; omega)]; exact r4
              have h26 : ∀ j, S2.1 26 j = S.1 26 j := fun j => by rw [t3.i (by unfold PX; omega), r2.2 _ _ (by unfold PO; omega)]
              have h27 : ∀ j, S2.1 27 j = S.1 27 j := fun j => by rw [t3.i (by unfold PX; omega), r2.2 _ _ (by unfold PO; omega)]
              obtain ⟨S3, z1, z2, z3, z4, z5⟩ := ih fuel S2 (fin (chN tx len) p).1 (nxT (chN tx len p) tc) (nxF (chN tx len p) fc) (nxM (chN tx len p) (vl (chN tx len) p 0).toNatClampNeg tm) (nxB (chN tx len p) (vl (chN tx len) p 0).toNatClampNeg bl) (i + 1) (dwx (chN tx len p) (vl (chN tx len) p) R C tc fc tm bl w) (by omega) (by omega) (by omega) t2 ⟨by rw [h26]; exact hc.1, fun j hj => by rw [h27]; exact hc.2 j hj⟩ t4 t5 (by rw [h26]; exact h3)
              rw [ck7 hs, e3 S hs, ck26 hs, h3, if_neg (by rw [q_le (by omega) (by omega)]; omega), ck7 hs, ck28 hs, r1, bnd_s, ck7 s1, ck7 s1, e0 S1 s1, e7 S1 s1, ck28 s1, t1, bnd_s, ck28 t2, h28, L1, q_add, ← hK, z1]
              exact ⟨S3, rfl, z2, (hch1.tr hch2).tr z3, z4, z5⟩
/-- the same where the model does much before it keeps the state -/
theorem Op.keepT {N : Nat} {S : St} {f7 f8 : St → Option (Int32 × St)} (h : INV N S) (w' : Wf) (v : Int32) (c : ∀ S1, CSh S1 → f_X7_recordState S 4 = some S1 → Ch AR S S1 → ∃ S2, f7 S = some (v, S2) ∧ CSh S2 ∧ Ch AN S1 S2 ∧ RNe S2 5 w') (m : ∀ S1, MSh S1 → Ch (fun x => 4 ≤ x ∧ x < 124) S S1 → ∃ Sm, Ex PM S1 Sm ∧ ∀ S2, f_X8_notes Sm 124 = some S2 → MSh S2 → Ex PN Sm S2 → ∃ S3, f8 S1 = some (v, S3) ∧ Ex (fun x j => x = 125 ∨ x = 127 ∨ x = 129 ∨ x = 130 ∨ (x = 124 ∧ 7 ≤ j)) S2 S3 ∧ ∀ j, j < 867 → S3.1 125 j = w' j) (ho : OKw (N + 1) w') : Op N S f7 f8 := by
  obtain ⟨st, len, i1, i2, i3, i4, i5, i6, i7⟩ := h
  obtain ⟨S1, r1, r2, r3⟩ := e_recordState i1
  obtain ⟨S2, c1, c2, c3, c4⟩ := c S1 r2.1 r1 r3
  have ci2 := r2.upd c2 c3 (fun x q => q) c4
  have cc : Ch (fun x => 4 ≤ x ∧ x < 124) S S2 := (r3.wk (fun x q => by unfold AR at q; omega)).tr (c3.wk (fun x q => by unfold AN at q; omega))
  have m2 := i2.ch cc (by omega)
  have e125 : S2.1 125 = S.1 125 := (cc.2 125 (by omega)).1
  have e126 : S2.1 126 = S.1 126 := (cc.2 126 (by omega)).1
  obtain ⟨Sm, xm, mm⟩ := m S2 m2 cc
  have m2' := m2.ex xm
  have zm : ∀ x j, x ≠ 127 → x ≠ 129 → x ≠ 130 → (x = 124 → j < 7) → Sm.1 x j = S2.1 x j := fun x j h1 h2 h3 h4 => xm.2 x j (by unfold PM; omega)
  have e125' : Sm.1 125 = S.1 125 := by
    rw [← e125]
    funext j
    exact zm 125 j (by omega) (by omega) (by omega) (by omega)
  have e126' : Sm.1 126 = S.1 126 := by
    rw [← e126]
    funext j
    exact zm 126 j (by omega) (by omega) (by omega) (by omega)
  obtain ⟨S3, n1, n2, n3, n4⟩ := e_notes m2' (st := st) (by rw [zm 124 2 (by omega) (by omega) (by omega) (by omega), cc.i (by omega)]; exact i3) i1.2.2.2.1.1
  have m3 := m2'.ex n2
  obtain ⟨S4, k1, k2, k3⟩ := mm S3 n1 m3 n2
  refine ⟨v, S2, S4, c1, k1, ?_⟩
  have c24 : Ch (fun x => 124 ≤ x) S2 S4 := ((xm.ch (fun x j q => by unfold PM at q; show 124 ≤ x; omega)).tr (n2.ch (fun x j q => by unfold PN at q; show 124 ≤ x; omega))).tr (k2.ch (fun x j q => by show 124 ≤ x; omega))
  refine INV.mk (ci2.ch c24 (fun x hx => by omega)) (m3.ex k2) k3 ?_ (fun i hi j hj => ?_) ?_ (fun j hj => ?_) ho (fun i hi => ?_) (fun j hj => i7 j hj)
  · rw [k2.2 124 2 (by omega)]; exact n3
  · rw [k2.2 126 _ (by omega), n4 i hi j hj, e125', e126']
  · rw [k2.2 124 5 (by omega), n2.2 124 5 (by unfold PN; omega), zm 124 5 (by omega) (by omega) (by omega) (by omega), cc.i (by omega)]; exact i4
  · rw [k2.2 128 _ (by omega), n2.2 128 _ (by unfold PN; omega), zm 128 _ (by omega) (by omega) (by omega) (by omega), cc.i (by omega)]
  · unfold hst at hi
    unfold hps
    by_cases hs : st = 4
    · rw [if_pos hs] at hi
      simp only [if_pos hs]
      by_cases c : i < 3
      · rw [if_pos c]
        exact (i6 (i + 1) (by omega)).mono (by omega)
      · rw [if_neg c]
        exact i5.mono (by omega)
    · rw [if_neg hs] at hi
      simp only [if_neg hs]
      by_cases c : i = st
      · rw [if_pos c]
        exact i5.mono (by omega)
      · rw [if_neg c]
        exact (i6 i (by omega)).mono (by omega)
theorem op_play {N : Nat} {S : St} (h : INV N S) : Op N S (fun S => f_X7_play S 4) (fun S => f_X8_play S 124) := by
  obtain ⟨tx, len, R, C, tc, fc, tm, bl, S1, ht, hn, hok, hc, hm8, hr, g1, g2, g3, hI, s1, m1, e125⟩ := text_run h
  obtain ⟨st, len', i1, i2, -⟩ := id h
  have hs := i1.1
  have e3 : ∀ S1 : St, CSh S1 → S1.2.1 4 3 = 26 := fun S1 q => q.2.1.2.2.1
  have e0 : S.2.1 4 0 = 5 := hs.2.1.1
  have hn1 : RN S1 5 (S.1 125) tc fc bl R C := hn.ch hs sc5 (g2.ch (A := fun x => x = 26 ∨ x = 28 ∨ x = 29) (fun x j q => by unfold PE at q; omega)) (fun d hd => by omega)
  have hc1 : TC S1 tx len := hc.ex g2 (by unfold PE; omega) (fun j => by unfold PE; omega)
  have hm1 : TM S1 tx len := hm8.ex g2 (by unfold PE; omega) (fun j => by unfold PE; omega)
  have hle := exm_le (chN tx len) len 80 0 tc tm bl 0
  obtain ⟨x4, x5, x6, x3⟩ := g3
  have h7 : f_X7_play S 4 = (if S1.1 26 5 = 0 then (chk (okc S1 7 4) (bnd (f_X7_recordState S1 4) fun S_2 => (chk (okc S_2 7 4) (chk (okc S_2 4 (S_2.2.1 4 3)) (wl3 (f_X7_play_B40 4 (S_2.2.1 (S_2.2.1 4 3) 2) (fun (S_5 : St) => (chk (okc S_5 7 4) (chk (okc S_5 4 (S_5.2.1 4 3)) (some (S_5.1 (S_5.2.1 4 3) 3, S_5)))))) FU S_2 0 0))))) else some (-10000002, S1)) := by
    unfold f_X7_play
    rw [ck7 hs, ck7 hs, e3 S hs, e0, ck26 hs, g1, bnd_s, ck7 s1, e3 S1 s1, ck26 s1]
  by_cases c0 : (exm (chN tx len) len 80 0 tc tm bl 0).2.1 = 0
  · have main : Op N S1 (fun _ => f_X7_play S 4) (fun S' => f_X8_play S' 124) := by
      have hokw : OKw (N + 1) (exw (chN tx len) len R C 80 0 tc fc tm bl (S.1 125)) := by
        obtain ⟨S', -, -, -, -, q⟩ := l_playC (N := N) ht (fun _ => none) 80 FU S1 0 tc fc tm bl 0 (S.1 125) (by decide) (by omega) (by omega) s1 hc1 hn1 hok x3
        exact q.mono (by omega)
      refine Op.keepT hI (exw (chN tx len) len R C 80 0 tc fc tm bl (S.1 125)) (nI (exm (chN tx len) len 80 0 tc tm bl 0).2.2.2) (fun Sa sa ra ca => ?_) (fun Sb mb cb => ?_) hokw
      · have hna : RN Sa 5 (S.1 125) tc fc bl R C := hn1.ch s1 sc5 ca (fun d hd => by unfold AR; omega)
        have h26 : ∀ j, Sa.1 26 j = S1.1 26 j := fun j => ca.i (by unfold AR; omega) j
        have h27 : ∀ j, Sa.1 27 j = S1.1 27 j := fun j => ca.i (by unfold AR; omega) j
        have e2 : Sa.2.1 26 2 = 28 := sa.2.2.1.2.1
        obtain ⟨S2, z1, z2, z3, z4, z5⟩ := l_playC (N := N) ht (fun (S_5 : St) => (chk (okc S_5 7 4) (chk (okc S_5 4 (S_5.2.1 4 3)) (some (S_5.1 (S_5.2.1 4 3) 3, S_5))))) 80 FU Sa 0 tc fc tm bl 0 (S.1 125) (by decide) (by omega) (by omega) sa ⟨by rw [h26]; exact hc1.1, fun j hj => by rw [h27]; exact hc1.2 j hj⟩ hna hok (by rw [h26]; exact x3)
        rw [show nI 0 = (0 : Int32) from rfl] at z1
        have h263 : S2.1 26 3 = nI (exm (chN tx len) len 80 0 tc tm bl 0).2.2.2 := by rw [z3.i (by unfold AN; omega), h26]; exact x3
        refine ⟨S2, ?_, z2, z3, z4⟩
        show f_X7_play S 4 = _
        rw [h7, if_pos (by rw [x5, c0]; rfl), ck7 s1, ra, bnd_s, ck7 sa, e3 Sa sa, ck26 sa, e2, z1, ck7 z2, e3 S2 z2, ck26 z2, h263]
      · have e125b : Sb.1 125 = S.1 125 := by
          rw [← e125]
          exact (cb.2 125 (by omega)).1
        have hmb : TM Sb tx len := ⟨by rw [cb.i (by omega)]; exact hm1.1, fun j hj => by rw [cb.i (by omega)]; exact hm1.2 j hj⟩
        obtain ⟨Sm, d1, d2, d3, d4⟩ := e_done mb ht hmb (by rw [e125b]; exact hr)
        have mm := mb.ex d2
        rw [e125b] at d4
        refine ⟨Sm, d2.wk (fun x j q => by unfold PY at q; unfold PM; omega), fun Sn n1 mn xn => ?_⟩
        obtain ⟨Sf, f1, f2, f3⟩ := e_copies mn.1 (o1 := 0) (o2 := 0) ar127 ar125 (by omega) (by omega) (by omega)
        have f1' : f_X8_copies Sn 127 0 125 0 = some Sf := f1
        refine ⟨Sf, ?_, f2.wk (fun x j q => Or.inl q), fun j hj => ?_⟩
        · show f_X8_play Sb 124 = _
          unfold f_X8_play
          rw [ck8 mb, d1, bnd2_s, ck8 mm, if_pos (by rw [d3.1, c0]; rfl), ck8 mm, n1, bnd_s, ck8 mn, ck8 mn, mn.e3, mn.2.1, f1', bnd_s]
        · rw [f3, if_pos (by omega), show 0 + (j - 0) = j by omega, xn.2 127 j (by unfold PN; omega)]
          exact d4 j hj
    obtain ⟨v, Sa, Sb, z1, z2, z3⟩ := main
    exact ⟨v, Sa, Sb, z1, z2, z3⟩
  · obtain ⟨S2, d1, d2, d3, -⟩ := e_done m1 ht hm1 (by rw [e125]; exact hr)
    have m2 := m1.ex d2
    have hI2 : INV (N + 1) S2 := (hI.msc (d2.wk (fun x j q => by unfold PY at q; unfold PM; omega))).mono (by omega)
    refine ⟨-10000002, S1, S2, ?_, ?_, hI2⟩
    · show f_X7_play S 4 = _
      rw [h7, if_neg (by rw [x5, L0, q_eq (by omega) (by omega)]; exact c0)]
    · show f_X8_play S1 124 = _
      unfold f_X8_play
      rw [ck8 m1, d1, bnd2_s, ck8 m2, if_neg (by rw [d3.1, L0, q_eq (by omega) (by omega)]; exact c0)]
