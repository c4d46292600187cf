def encB (b : Nat) : Int32 := if b = 0 then -10000004 else nI b
theorem l_bestC {N : Nat} {S : St} (hs : CSh S) {tc fc bl R C tm f fb : Nat} {w : Wf} (hn : RN S 5 w tc fc bl R C) (hok : OKn N w tc fc tm) (h31 : ∀ x, x < 10 → S.1 31 x = nI (if x < R then edf w C f x fb else 0)) (b : Int32) (kx : St → Int32 → Int32 → Option (Int32 × St)) : ∃ S', wl4 (f_X7_bestWait_B47 4 b kx) FU S (-10000004) 0 1 = kx S' (encB (bw (TB w tc C R f fb bl) 40).1) (nI (bw (TB w tc C R f fb bl) 40).2) ∧ CSh S' ∧ Ex PB S S' := by
  have hTl : ∀ n i, TB w tc C R f fb bl n i < 1000000 := fun n i => TB_lt i
  obtain ⟨S', x, y, ⟨p0, p1, rfl, rfl⟩, g⟩ := wl4_inv (F := f_X7_bestWait_B47 4 b kx) (kx := kx) (n := 41) (fun i S' x y => 1 ≤ i ∧ Ex PB S S' ∧ x = encB (bw (TB w tc C R f fb bl) (i - 1)).1 ∧ y = nI (bw (TB w tc C R f fb bl) (i - 1)).2) (fun i S1 x y kk hi hP => by
    obtain ⟨p0, p1, rfl, rfl⟩ := hP
    unfold f_X7_bestWait_B47
    have s1 := hs.ex p1
    have hn1 : RN S1 5 w tc fc bl R C := hn.ch hs sc5 (p1.ch (A := fun x => 32 ≤ x ∧ x < 44) (fun x j q => by unfold PB at q; omega)) (fun d hd => by omega)
    obtain ⟨Sa, Sb, Sc, t1, t2, t3, sa, sb, sc, t4, t5⟩ := c_trial s1 hn1 hok (t := i) (by omega) (f := f) (fb := fb) (fun x hx => by rw [p1.2 31 x (by unfold PB; omega)]; exact h31 x hx)
    obtain ⟨o, o1, o2⟩ := e_told sc t5 TB_lt
    have om := e_mostVotes sc t5 TB_lt
    have e0 : ∀ S1 : St, CSh S1 → S1.2.1 4 0 = 5 := fun S1 q => q.2.1.1
    have e4 : ∀ S1 : St, CSh S1 → S1.2.1 4 4 = 30 := fun S1 q => q.2.1.2.2.2.1
    have e6 : ∀ S1 : St, CSh S1 → S1.2.1 4 6 = 41 := fun S1 q => q.2.1.2.2.2.2.2.1
    have e7 : ∀ S1 : St, CSh S1 → S1.2.1 4 7 = 43 := fun S1 q => q.2.1.2.2.2.2.2.2
    rw [if_neg (by rw [L40, q_lt (by omega) (by omega)]; omega), ck7 s1, ck7 s1, ck7 s1, e0 S1 s1, e6 S1 s1, e7 S1 s1, ck5 s1, ck7 s1, ck5 s1, t1, bnd_s, ck7 sa, ck7 sa, ck7 sa, e4 Sa sa, e0 Sa sa, e6 Sa sa, ck30 sa, t2, bnd_s, ck7 sb, e4 Sb sb, ck30 sb, t3, bnd_s, ck7 sc, e4 Sc sc, ck30 sc, o1, bnd_s, L1, q_add]
    have ei : i - 1 + 1 = i := by omega
    have hbl := bw_lt hTl (i - 1)
    cases o with
    | none =>
      have hz : tof (TB w tc C R f fb bl (i - 1 + 1)) = none := by
        rw [ei]
        exact tof_eq o2
      have hb2 := bw_none (T := TB w tc C R f fb bl) hz
      rw [ei] at hb2
      rw [if_pos (show encC none = (-10000004 : Int32) from rfl)]
      refine ⟨Sc, _, _, ⟨by omega, p1.tr t4, rfl, rfl⟩, ?_⟩
      rw [show i + 1 - 1 = i by omega, hb2]
    | some k =>
      have hz : tof (TB w tc C R f fb bl (i - 1 + 1)) = some k := by
        rw [ei]
        exact tof_eq o2
      have hb2 := bw_some (T := TB w tc C R f fb bl) hz
      rw [ei] at hb2
      have hk := o2.rng
      have hmx : mxn (TB w tc C R f fb bl i) 17 = TB w tc C R f fb bl i (k + 8).toNat := o2.mx
      have hl := hTl i (k + 8).toNat
      rw [if_neg (show ¬ encC (some k) = (-10000004 : Int32) from encC_no (by omega)), ck7 sc, ck30 sc, om, bnd_s, hmx]
      by_cases c : TB w tc C R f fb bl i (k + 8).toNat ≤ (bw (TB w tc C R f fb bl) (i - 1)).2
      · rw [if_pos c] at hb2
        rw [if_pos (by rw [q_le (by omega) (by omega)]; exact c)]
        refine ⟨Sc, _, _, ⟨by omega, p1.tr t4, rfl, rfl⟩, ?_⟩
        rw [show i + 1 - 1 = i by omega, hb2]
      · rw [if_neg c] at hb2
        rw [if_neg (by rw [q_le (by omega) (by omega)]; exact c), ck7 sc, ck30 sc, bnd_s]
        refine ⟨Sc, _, _, ⟨by omega, p1.tr t4, rfl, rfl⟩, ?_⟩
        rw [show i + 1 - 1 = i by omega, hb2]
        unfold encB
        rw [if_neg (by omega)]) (fun S1 x y kk hP => by
    unfold f_X7_bestWait_B47
    rw [if_pos (by rw [L40, q_lt (by omega) (by omega)]; omega)]) 40 1 FU S (-10000004) 0 rfl (by decide) ⟨Nat.le_refl _, Ex.rf, rfl, rfl⟩
  exact ⟨S', g, hs.ex p1, p1⟩
theorem l_bestIn {S : St} (hm : MSh S) {tc C R f fb bl t : Nat} (hf : f < 5) (hR : S.1 125 0 = nI R) (hR10 : R ≤ 10) (hC : S.1 125 1 = nI C) (hC4 : 4 ≤ C) (hC16 : C ≤ 16) (htc : S.1 125 8 = nI tc) (h4 : tc ≤ 4) (hbl : S.1 125 34 = nI bl) (hb : bl < 1024) (h3 : Rg (S.1 125 3) 1 255) (h1 : fv1 (S.1 125) f 1 = nI fb) (b1 : fb < 1024) (h0 : ∀ i, i < 17 → S.1 129 i = nI 0) (a2 a3 a4 : Int32) (kx : St → Option (Int32 × St)) : ∃ S', wl2 (f_X8_bestWait_B42 124 (nI f) a2 a3 a4 (nI t) kx) FU S 0 = kx S' ∧ Ex (fun x _ => x = 129) S S' ∧ ∀ i, i < 17 → S'.1 129 i = nI (TB (S.1 125) tc C R f fb bl t i) := by
  obtain ⟨S', ⟨p1, p2⟩, g⟩ := wl2_inv (F := f_X8_bestWait_B42 124 (nI f) a2 a3 a4 (nI t) kx) (kx := kx) (n := R) (fun r S' => Ex (fun x _ => x = 129) S S' ∧ ∀ i, i < 17 → S'.1 129 i = nI (tly (VB (S.1 125) tc C R f fb bl t) (fun _ => 1) i r)) (fun r S1 kk hr hP => by
    obtain ⟨p1, p2⟩ := hP
    unfold f_X8_bestWait_B42
    have m1 := hm.ex p1
    have e125 : S1.1 125 = S.1 125 := by
      funext j
      exact p1.2 125 j (by omega)
    have k0 : ∀ {β : Type} (o : Option β), chk (ina S1 10 125 0) o = o := fun o => ckl m1.1 (Or.inl rfl) 0 L0 (by decide) o
    have k2 : ∀ {β : Type} (o : Option β), chk (ina S1 10 125 2) o = o := fun o => ckl m1.1 (Or.inl rfl) 2 L2 (by decide) o
    have k33 : ∀ {β : Type} (o : Option β), chk (ina S1 10 125 33) o = o := fun o => ckl m1.1 (Or.inl rfl) 33 L33 (by decide) o
    have hea := e_edgesAt m1 (tc := tc) (C := C) (r := r) (bl := bl) (by omega) (by rw [e125]; exact hC) hC4 hC16 (by rw [e125]; exact htc) h4 (by rw [e125]; exact hbl) hb (by rw [e125]; exact h3) (S.1 125 33 + nI t + nI r * S.1 125 2)
    have hei := e_edgesIn m1 (f := f) (r := r) (C := C) (fb := fb) hf (by omega) (by rw [e125]; exact hC) (by omega) hC16 (by rw [e125]; exact h1) b1
    rw [e125] at hea hei
    simp only [C0, C2, C33, m1.2.1, e125]
    rw [ck8 m1, k0, hR, if_neg (by rw [q_le (by omega) (by omega)]; omega), ck8 m1, k33, ck8 m1, k2, ck8 m1, hea, bnd_s, ck8 m1, hei, bnd_s, e_voteBy (edf_em hC16) (edt_em hC16), bnd_s, ck8 m1]
    have ev : vt (edf (S.1 125) C f r fb) (edt (S.1 125) tc C r bl (S.1 125 33 + nI t + nI r * S.1 125 2)) = VB (S.1 125) tc C R f fb bl t r := by
      unfold VB
      rw [if_pos hr]
    rw [ev]
    obtain ⟨S2, q1, q2, q3⟩ := e_counts m1 (o := VB (S.1 125) tc C R f fb bl t r) (g := 1) p2 (fun k hk => VB_rng r k hk)
    rw [show (1 : Int32) = nI 1 from rfl, q1, bnd_s, q_add]
    exact ⟨S2, ⟨p1.tr q2, fun i hi => q3 i hi⟩, rfl⟩) (fun S1 kk hP => by
    unfold f_X8_bestWait_B42
    have m1 := hm.ex hP.1
    have e0 : S1.1 125 0 = nI R := by rw [hP.1.2 125 0 (by omega)]; exact hR
    have k0 : ∀ {β : Type} (o : Option β), chk (ina S1 10 125 0) o = o := fun o => ckl m1.1 (Or.inl rfl) 0 L0 (by decide) o
    simp only [C0, m1.2.1]
    rw [ck8 m1, k0, e0, if_pos (Int32.le_refl _)]) R 0 FU S (by omega) (by show R < 1000000; omega) ⟨Ex.rf, fun i hi => h0 i hi⟩
  refine ⟨S', g, p1, fun i hi => ?_⟩
  rw [p2 i hi]
  unfold TB
  congr 1
  exact (tly_cut hR10 (fun x h1 h2 => by
    unfold VB
    rw [if_neg (by omega)])).symm
theorem l_bestM {S : St} (hm : MSh S) {tc C R f fb bl : Nat} (hf : f < 5) (hR : S.1 125 0 = nI R) (hR10 : R ≤ 10) (hC : S.1 125 1 = nI C) (hC4 : 4 ≤ C) (hC16 : C ≤ 16) (htc : S.1 125 8 = nI tc) (h4 : tc ≤ 4) (hbl : S.1 125 34 = nI bl) (hb : bl < 1024) (h3 : Rg (S.1 125 3) 1 255) (h1 : fv1 (S.1 125) f 1 = nI fb) (b1 : fb < 1024) (b : Int32) (kx : St → Int32 → Int32 → Option (Int32 × St)) : ∃ S', wl4 (f_X8_bestWait_B28 124 (nI f) b kx) FU S 0 0 1 = kx S' (nI (bw (TB (S.1 125) tc C R f fb bl) 40).1) (nI (bw (TB (S.1 125) tc C R f fb bl) 40).2) ∧ Ex (fun x _ => x = 129) S S' := by
  have hTl : ∀ n i, TB (S.1 125) tc C R f fb bl n i < 1000000 := fun n i => TB_lt i
  obtain ⟨S', x, y, ⟨p0, p1, rfl, rfl⟩, g⟩ := wl4_inv (F := f_X8_bestWait_B28 124 (nI f) b kx) (kx := kx) (n := 41) (fun i S' x y => 1 ≤ i ∧ Ex (fun x _ => x = 129) S S' ∧ x = nI (bw (TB (S.1 125) tc C R f fb bl) (i - 1)).1 ∧ y = nI (bw (TB (S.1 125) tc C R f fb bl) (i - 1)).2) (fun i S1 x y kk hi hP => by
    obtain ⟨p0, p1, rfl, rfl⟩ := hP
    unfold f_X8_bestWait_B28
    have m1 := hm.ex p1
    obtain ⟨S2, q1, q2, q3⟩ := e_noVotes m1
    have m2 := m1.ex q2
    have e125 : S2.1 125 = S.1 125 := by
      funext j
      rw [q2.2 125 j (by omega), p1.2 125 j (by omega)]
    rw [if_neg (by rw [L41, q_le (by omega) (by omega)]; omega), ck8 m1, q1, bnd_s]
    obtain ⟨S3, g1, g2, g3⟩ := l_bestIn m2 (tc := tc) (C := C) (R := R) (f := f) (fb := fb) (bl := bl) (t := i) hf (by rw [e125]; exact hR) hR10 (by rw [e125]; exact hC) hC4 hC16 (by rw [e125]; exact htc) h4 (by rw [e125]; exact hbl) hb (by rw [e125]; exact h3) (by rw [e125]; exact h1) b1 q3 b (nI (bw (TB (S.1 125) tc C R f fb bl) (i - 1)).1) (nI (bw (TB (S.1 125) tc C R f fb bl) (i - 1)).2) (fun (S_8 : St) => (chk (okc S_8 8 124) (bnd (f_X8_mostVoted S_8 124) fun r9 => (if r9 = (-1000000) then (kk S_8 (nI (bw (TB (S.1 125) tc C R f fb bl) (i - 1)).1) (nI (bw (TB (S.1 125) tc C R f fb bl) (i - 1)).2) (nI i + 1)) else (chk (okc S_8 8 124) (chk (ina S_8 10 (S_8.2.1 124 6) (r9 + 8)) (if (S_8.1 (S_8.2.1 124 6) (r9 + 8).toNatClampNeg) ≤ (nI (bw (TB (S.1 125) tc C R f fb bl) (i - 1)).2) then (kk S_8 (nI (bw (TB (S.1 125) tc C R f fb bl) (i - 1)).1) (nI (bw (TB (S.1 125) tc C R f fb bl) (i - 1)).2) (nI i + 1)) else (chk (okc S_8 8 124) (chk (ina S_8 10 (S_8.2.1 124 6) (r9 + 8)) (vlt (S_8.1 (S_8.2.1 124 6) (r9 + 8).toNatClampNeg) fun v10 => (kk S_8 (nI i) v10 (nI i + 1))))))))))))
    rw [e125] at g3
    have m3 := m2.ex g2
    obtain ⟨o, o1, o2⟩ := e_mostVoted m3 g3 TB_lt
    rw [g1, ck8 m3, o1, bnd_s, L1, q_add]
    have ei : i - 1 + 1 = i := by omega
    have hbl := bw_lt hTl (i - 1)
    have fin : Ex (fun x _ => x = 129) S S3 := (p1.tr q2).tr g2
    cases o with
    | none =>
      have hz : tof (TB (S.1 125) tc C R f fb bl (i - 1 + 1)) = none := by
        rw [ei]
        exact tof_eq o2
      have hb2 := bw_none (T := TB (S.1 125) tc C R f fb bl) hz
      rw [ei] at hb2
      rw [if_pos (show encM none = (-1000000 : Int32) from rfl)]
      refine ⟨S3, _, _, ⟨by omega, fin, rfl, rfl⟩, ?_⟩
      rw [show i + 1 - 1 = i by omega, hb2]
    | some k =>
      have hz : tof (TB (S.1 125) tc C R f fb bl (i - 1 + 1)) = some k := by
        rw [ei]
        exact tof_eq o2
      have hb2 := bw_some (T := TB (S.1 125) tc C R f fb bl) hz
      rw [ei] at hb2
      have hk := o2.rng
      have hl := hTl i (k + 8).toNat
      have hi17 : (k + 8).toNat < 17 := by omega
      have e8 : encM (some k) + 8 = nI (k + 8).toNat := i8 (by omega)
      have ecl2 : (nI (k + 8).toNat).toNatClampNeg = (k + 8).toNat := q_cl (by omega)
      rw [if_neg (show ¬ encM (some k) = (-1000000 : Int32) from encM_no (by omega)), ck8 m3]
      simp only [e8, ecl2, m3.e6]
      rw [ck129 m3 hi17, g3 _ hi17]
      by_cases c : TB (S.1 125) tc C R f fb bl i (k + 8).toNat ≤ (bw (TB (S.1 125) tc C R f fb bl) (i - 1)).2
      · rw [if_pos c] at hb2
        rw [if_pos (by rw [q_le (by omega) (by omega)]; exact c)]
        refine ⟨S3, _, _, ⟨by omega, fin, rfl, rfl⟩, ?_⟩
        rw [show i + 1 - 1 = i by omega, hb2]
      · rw [if_neg c] at hb2
        rw [if_neg (by rw [q_le (by omega) (by omega)]; exact c), ck8 m3, ck129 m3 hi17, vlt_s]
        refine ⟨S3, _, _, ⟨by omega, fin, rfl, rfl⟩, ?_⟩
        rw [show i + 1 - 1 = i by omega, hb2]) (fun S1 x y kk hP => by
    unfold f_X8_bestWait_B28
    rw [if_pos (by rw [L41, q_le (by omega) (by omega)]; omega)]) 40 1 FU S 0 0 rfl (by decide) ⟨Nat.le_refl _, Ex.rf, rfl, rfl⟩
  exact ⟨S', g, p1⟩
theorem op_bestWait {N : Nat} {S : St} (h : INV N S) (a b : Int32) : Op N S (fun S => f_X7_bestWait S 4 a b) (fun S => f_X8_bestWait S 124 a b) := by
  have h0 := h
  obtain ⟨st, len, i1, i2, i3, i4, i5, i6, i7⟩ := h
  have hs := i1.1
  obtain ⟨tc, fc, bl, R, C, hn⟩ := i1.2.2.1
  obtain ⟨tm, hok⟩ := i5.of hn.2.1 hn.1.2.1 hn.2.2.2.2.2.2.2.1.2.1 hn.2.2.2.2.2.2.2.1.2.2
  obtain ⟨f4, w36, f5⟩ := hn.2.2.2.2.2.2.2.1
  have hR := hn.2.2.1
  have hC := hn.2.2.2.1
  have e0 : S.2.1 4 0 = 5 := hs.2.1.1
  have e4 : S.2.1 4 4 = 30 := hs.2.1.2.2.2.1
  have e30 : S.2.1 30 0 = 31 := hs.2.2.2.1.1
  by_cases ha : 0 ≤ a ∧ a ≤ nI fc - 1
  · by_cases hb : 0 ≤ b ∧ b ≤ 1
    · obtain ⟨f, rfl, hf⟩ := idx_ex (by omega) ha
      have hg := ((hs.sc sc5).2.2.2.1 f (by omega)).rg
      obtain ⟨fb, g1, g2, g3, g4, -⟩ := c_edges hs sc5 hn hok.2.2.2.1.2.1 hf (show 0 < R by omega)
      obtain ⟨S1, q1, q2, q3⟩ := e_readEdges hs (F := S.2.1 (5 + 3) f) (A := 31) (E := fun r => edf (S.1 125) C f r fb) hn.1 hR.1 hR.2.2 (by omega) ar31 (by omega) (fun Sx sx hx r hr => by
        have hnx : RN Sx 5 (S.1 125) tc fc bl R C := hn.ch hs sc5 (hx.ch (A := fun x => x = 31) (fun x j q => q)) (fun d hd => by omega)
        obtain ⟨fb', c1, c2, -, -, c5⟩ := c_edges sx sc5 hnx hok.2.2.2.1.2.1 hf hr
        have : fb' = fb := by rw [← q_eq (by omega) (by omega), ← c2, g2]
        subst this
        rw [hx.r] at c5
        exact c5)
      have s1 := hs.ex q2
      have hn1 : RN S1 5 (S.1 125) tc fc bl R C := hn.ch hs sc5 (q2.ch (A := fun x => x = 31) (fun x j q => q)) (fun d hd => by omega)
      obtain ⟨S2, k1, k2, k3⟩ := l_bestC s1 hn1 hok q3 b (fun (S_12 : St) (y4_10 : Int32) (y5_11 : Int32) => (if b = 1 then (if y4_10 = (-10000004) then (some (y4_10, S_12)) else (some (y5_11, S_12))) else (some (y4_10, S_12))))
      have hsc : Ch SC S S2 := (q2.sc (fun x j q => by unfold SC; omega)).tr (k3.sc (fun x j q => by unfold PB at q; unfold SC; omega))
      have e125 : S2.1 125 = S.1 125 := (hsc.2 125 (by unfold SC; omega)).1
      have hI := h0.scr hsc (k3.r.trans q2.r)
      have m2 : MSh S2 := i2.ch hsc (by unfold SC; omega)
      obtain ⟨S3, l1, l2⟩ := l_bestM m2 (tc := tc) (C := C) (R := R) (f := f) (fb := fb) (bl := bl) (by omega) (by rw [e125]; exact hR.1) hR.2.2 (by rw [e125]; exact hC.1) hC.2.1 hC.2.2 (by rw [e125]; exact hn.2.1) hn.1.2.1 (by rw [e125]; exact hn.2.2.2.2.2.1.2.1) hn.2.2.2.2.2.1.2.2 (by rw [e125]; exact hok.2.2.2.1.2.1) (by rw [e125]; exact g2) g1 b (fun (S_13 : St) (y3_11 : Int32) (y4_12 : Int32) => (if y3_11 = 0 then (some ((-10000004), S_13)) else (if b = 0 then (some (y3_11, S_13)) else (some (y4_12, S_13)))))
      rw [e125] at l1
      have hTl : ∀ n i, TB (S.1 125) tc C R f fb bl n i < 1000000 := fun n i => TB_lt i
      have hbw := bw_lt hTl 40
      generalize bw (TB (S.1 125) tc C R f fb bl) 40 = B at k1 l1 hbw
      refine ⟨if B.1 = 0 then -10000004 else if b = 0 then nI B.1 else nI B.2, S2, S3, ?_, ?_, (hI.msc (l2.wk (fun x j q => Or.inr (Or.inl q)))).mono (by omega)⟩
      · show f_X7_bestWait S 4 (nI f) b = _
        unfold f_X7_bestWait f_X6_readFirst
        rw [ck7 hs, e0, ck5 hs, c_frameAt_t hs sc5 f4 f5 hf, bnd_s, if_neg (by omega), e_within, if_pos hb, bnd_s, if_neg (by decide), ck7 hs, ck7 hs, e4, ck30 hs, ck30 hs, ck30 hs, e30, q1, bnd_s, bnd_s, k1]
        unfold encB
        by_cases c : B.1 = 0
        · rw [if_pos c, if_pos c]
          by_cases c1 : b = 1
          · rw [if_pos c1, if_pos rfl]
          · rw [if_neg c1]
        · rw [if_neg c, if_neg c]
          have hne : ¬ nI B.1 = (-10000004 : Int32) := fun e => by
            have := congrArg Int32.toInt e
            rw [q_int (by omega)] at this
            have e2 : (-10000004 : Int32).toInt = -10000004 := by decide
            omega
          by_cases c1 : b = 1
          · rw [if_pos c1, if_neg hne, if_neg (by rw [c1]; decide)]
          · rw [if_neg c1]
            have : b = 0 := by
              obtain ⟨n, rfl, hn1, hn2⟩ := q_ex (lo := 0) (hi := 1) hb.1 hb.2 (by decide) (by decide)
              have hn0 : n = 0 ∨ n = 1 := by omega
              rcases hn0 with rfl | rfl
              · rfl
              · exact absurd rfl c1
            rw [if_pos this]
      · show f_X8_bestWait S2 124 (nI f) b = _
        unfold f_X8_bestWait
        have hin : f_X8_in b 0 1 = some 1 := e_in_t hb
        rw [ck8 m2, e_isFrame m2, e125, w36, if_pos ha, bnd_s, if_neg (by decide), hin, bnd_s, if_neg (by decide), l1]
        by_cases c : B.1 = 0
        · rw [if_pos c, c, if_pos (show nI 0 = (0 : Int32) from rfl)]
        · rw [if_neg c, if_neg (by rw [L0, q_eq (by omega) (by omega)]; exact c)]
          by_cases c1 : b = 0
          · rw [if_pos c1, if_pos c1]
          · rw [if_neg c1, if_neg c1]
    · have hg : ∀ f, f < fc → S.2.1 (5 + 3) f ≠ 0 := fun f hf => by
        have := ((hs.sc sc5).2.2.2.1 f (by omega)).rg
        omega
      refine Op.no h0 (-10000001) ?_ ?_
      · show f_X7_bestWait S 4 a b = _
        unfold f_X7_bestWait
        obtain ⟨f, rfl, hf⟩ := idx_ex (by omega) ha
        rw [ck7 hs, e0, ck5 hs, c_frameAt_t hs sc5 f4 f5 hf, bnd_s, if_neg (hg f hf), e_within, if_neg hb, bnd_s, if_pos rfl]
      · show f_X8_bestWait S 124 a b = _
        unfold f_X8_bestWait
        have hin : f_X8_in b 0 1 = some 0 := e_in_f hb
        rw [ck8 i2, e_isFrame i2, w36, if_pos ha, bnd_s, if_neg (by decide), hin, bnd_s, if_pos rfl]
  · refine Op.no h0 (-10000001) ?_ ?_
    · show f_X7_bestWait S 4 a b = _
      unfold f_X7_bestWait
      rw [ck7 hs, e0, ck5 hs, c_frameAt_f hs sc5 f4 a ha f5, bnd_s, if_pos rfl]
    · show f_X8_bestWait S 124 a b = _
      unfold f_X8_bestWait
      rw [ck8 i2, e_isFrame i2, w36, if_neg ha, bnd_s, if_pos rfl]
