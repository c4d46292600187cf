/-! BEST WAIT -/
theorem wl4_inv {α α2 α3 β : Type} {F : (α → α2 → α3 → Int32 → Option β) → α → α2 → α3 → Int32 → Option β} {kx : α → α2 → α3 → Option β} {n : Nat} (P : Nat → α → α2 → α3 → Prop) (hin : ∀ i a b c k, i < n → P i a b c → ∃ a' b' c', P (i + 1) a' b' c' ∧ F k a b c (nI i) = k a' b' c' (nI (i + 1))) (hout : ∀ a b c k, P n a b c → F k a b c (nI n) = kx a b c) : ∀ m i fuel a b c, i + m = n → m < fuel → P i a b c → ∃ a' b' c', P n a' b' c' ∧ wl4 F fuel a b c (nI i) = kx a' b' c'
  | 0, i, 0, _, _, _, _, h, _ => by omega
  | 0, i, fuel + 1, a, b, c, e, _, hP => by
    have : i = n := by omega
    subst this
    exact ⟨a, b, c, hP, hout _ _ _ _ hP⟩
  | m + 1, i, 0, _, _, _, _, h, _ => by omega
  | m + 1, i, fuel + 1, a, b, c, e, h, hP => by
    obtain ⟨a', b', c', h1, h2⟩ := hin i a b c (wl4 F fuel) (by omega) hP
    obtain ⟨a2, b2, c2, h3, h4⟩ := wl4_inv P hin hout m (i + 1) fuel a' b' c' (by omega) (by omega) h1
    exact ⟨a2, b2, c2, h3, h2.trans h4⟩
noncomputable def tof (T : Nat → Nat) : Option Int := Classical.epsilon (fun o => Tld T o)
theorem tof_eq {T : Nat → Nat} {o : Option Int} (h : Tld T o) : tof T = o := (Classical.epsilon_spec (p := fun o => Tld T o) ⟨o, h⟩).uniq h
theorem Tld.mx {T : Nat → Nat} {k : Int} (h : Tld T (some k)) : mxn T 17 = T (k + 8).toNat := by
  obtain ⟨i, h1, h2, h3, h4⟩ := h
  have e : (k + 8).toNat = i := by omega
  rw [e]
  have a := mxn_le T 17 i h1
  rcases mxn_at T 17 with z | ⟨j, z1, z2⟩
  · omega
  · by_cases c : j = i
    · rw [← z2, c]
    · have := h4 j z1 c
      omega
/-- the edges that a row would have at a time -/
def edt (w : Wf) (tc C x bl : Nat) (t : Int32) : Nat := if bl.testBit x = true then 0 else edm (w 3) C (fun c => sh w tc x c t)
theorem edt_em {w : Wf} {tc C x bl : Nat} {t : Int32} (h : C ≤ 16) : Em (edt w tc C x bl t) := by
  unfold edt
  split
  · exact ⟨by decide, by decide⟩
  · exact edm_em h
def VB (w : Wf) (tc C R f fb bl t x : Nat) : Option Int := if x < R then vt (edf w C f x fb) (edt w tc C x bl (w 33 + nI t + nI x * w 2)) else none
theorem VB_rng {w : Wf} {tc C R f fb bl t : Nat} : ∀ x k, VB w tc C R f fb bl t x = some k → k.natAbs < 9 := fun x k hk => by
  unfold VB at hk
  by_cases c : x < R
  · rw [if_pos c] at hk
    exact vt_rng _ _ hk
  · rw [if_neg c] at hk
    cases hk
def TB (w : Wf) (tc C R f fb bl t i : Nat) : Nat := tly (VB w tc C R f fb bl t) (fun _ => 1) i 10
theorem TB_lt {w : Wf} {tc C R f fb bl t : Nat} : ∀ i, TB w tc C R f fb bl t i < 1000000 := fun i => one_le i
/-- the best wait of the first n, and its votes -/
noncomputable def bw (T : Nat → Nat → Nat) : Nat → Nat × Nat
  | 0 => (0, 0)
  | n + 1 => match tof (T (n + 1)) with
    | none => bw T n
    | some k => if T (n + 1) (k + 8).toNat ≤ (bw T n).2 then bw T n else (n + 1, T (n + 1) (k + 8).toNat)
theorem bw_none {T : Nat → Nat → Nat} {n : Nat} (h : tof (T (n + 1)) = none) : bw T (n + 1) = bw T n := by
  show (match tof (T (n + 1)) with
    | none => bw T n
    | some k => if T (n + 1) (k + 8).toNat ≤ (bw T n).2 then bw T n else (n + 1, T (n + 1) (k + 8).toNat)) = _
  rw [h]
theorem bw_some {T : Nat → Nat → Nat} {n : Nat} {k : Int} (h : tof (T (n + 1)) = some k) : bw T (n + 1) = if T (n + 1) (k + 8).toNat ≤ (bw T n).2 then bw T n else (n + 1, T (n + 1) (k + 8).toNat) := by
  show (match tof (T (n + 1)) with
    | none => bw T n
    | some k => if T (n + 1) (k + 8).toNat ≤ (bw T n).2 then bw T n else (n + 1, T (n + 1) (k + 8).toNat)) = _
  rw [h]
theorem bw_lt {T : Nat → Nat → Nat} (hT : ∀ n i, T n i < 1000000) : ∀ n, (bw T n).1 ≤ n ∧ (bw T n).2 < 1000000
  | 0 => ⟨Nat.le_refl _, (show (0 : Nat) < 1000000 by decide)⟩
  | n + 1 => by
    obtain ⟨a, b⟩ := bw_lt hT n
    cases h : tof (T (n + 1)) with
    | none =>
      rw [bw_none h]
      exact ⟨by omega, b⟩
    | some k =>
      rw [bw_some h]
      by_cases c : T (n + 1) (k + 8).toNat ≤ (bw T n).2
      · rw [if_pos c]
        exact ⟨by omega, b⟩
      · rw [if_neg c]
        exact ⟨Nat.le_refl _, hT _ _⟩
theorem fr41 {S : St} (hs : CSh S) : Fr S 41 := ⟨rfl, by decide, by decide, hs.2.2.2.2.2.1, rfl, rfl, by decide, by decide, by decide⟩
def PB : Nat → Nat → Prop := fun x _ => x = 32 ∨ x = 33 ∨ x = 34 ∨ x = 41 ∨ x = 42 ∨ x = 43
/-- the class tries one number of ticks -/
theorem c_trial {N : Nat} {S : St} (hs : CSh S) {tc fc bl R C tm f fb t : Nat} {w : Wf} (hn : RN S 5 w tc fc bl R C) (hok : OKn N w tc fc tm) (ht : t ≤ 100) (h31 : ∀ x, x < 10 → S.1 31 x = nI (if x < R then edf w C f x fb else 0)) : ∃ S1 S2 S3, f_X3_photograph S 5 41 (S.1 5 6 + nI t) 43 = some S1 ∧ f_X6_readSecond S1 30 5 41 = some S2 ∧ f_X6_voteOnShift S2 30 = some S3 ∧ CSh S1 ∧ CSh S2 ∧ CSh S3 ∧ Ex PB S S3 ∧ ∀ i, i < 17 → S3.1 34 i = nI (TB w tc C R f fb bl t i) := by
  have hR := hn.2.2.1
  have hC := hn.2.2.2.1
  obtain ⟨hb1, hb2, hb3⟩ := hn.2.2.2.2.2.1
  have e6 : S.1 5 6 = w 33 := hn.2.2.2.2.1
  obtain ⟨d, d1, -, d2⟩ := hok.2.2.2.1.1
  have tm2 := hok.2.2.1.2
  obtain ⟨S1, p1, p2, p3, p4, p5⟩ := e_photograph hs (t0 := S.1 5 6 + nI t) sc5 (fr41 hs) (a := 43) (Or.inr (Or.inr rfl)) hn.1 hR.1 hR.2.2 hb1 hb3 hok.2.2.2.1.2.2.1 (fun q hq => by
    obtain ⟨a, b, wd, br, P, V, h1, h2, h3, h4, h5, h6⟩ := hok.2.2.2.2.1 q hq
    exact ⟨br, h6.1, by omega, h6.2⟩) (fun r hr => by
    rw [e6, hok.2.2.1.1, d1, q_add, q_mul, q_add]
    have : r * d ≤ 9 * 9 := Nat.mul_le_mul (by omega) d2
    exact hok.bt (by omega))
  have s1 := hs.ex p2
  have r1 := p2.r
  have hn1 : RN S1 5 w tc fc bl R C := hn.ch hs sc5 (p2.ch (A := fun x => x = 41 ∨ x = 42 ∨ x = 43) (fun x j q => by unfold PF at q; omega)) (fun d hd => by omega)
  obtain ⟨S2, q1, q2, q3⟩ := e_readEdges s1 (F := 41) (A := 32) (E := fun r => edt w tc C r bl (w 33 + nI t + nI r * w 2)) hn1.1 hR.1 hR.2.2 (by omega) ar32 (by omega) (fun Sx sx hx r hr => by
    have hnx : RN Sx 5 w tc fc bl R C := hn1.ch s1 sc5 (hx.ch (A := fun x => x = 32) (fun x j q => q)) (fun d hd => by omega)
    have em : Sx.1 41 1 = nI (bl &&& (1 <<< R - 1)) := by rw [hx.2 41 1 (by omega)]; exact p4
    have hm : bl &&& (1 <<< R - 1) < 1024 := Nat.lt_of_le_of_lt Nat.and_le_left hb3
    rw [c_edgesIn sx sc5 (fr41 sx) hnx.1 hC.1 (by omega) hC.2.2 hok.2.2.2.1.2.1 (show r < 10 by omega) em hm, mask_low hr]
    unfold edt
    by_cases hb : bl.testBit r = true
    · rw [if_pos hb, if_pos hb]
    · rw [if_neg hb, if_neg hb]
      have hb' : bl.testBit r = false := by simpa using hb
      congr 2
      unfold edm
      refine mk_ext (fun c hc => ?_)
      have e : ∀ d, d < C → Sx.1 (41 + 1) (16 * r + d) = sh w tc r d (w 33 + nI t + nI r * w 2) := fun d hd => by
        rw [hx.2 _ _ (by omega), p5 r hr hb' d (by omega), e6]
      show (decide (1 ≤ c) && dfr (w 3) (Sx.1 (41 + 1) (16 * r + c)) (Sx.1 (41 + 1) (16 * r + (c - 1)))) = (decide (1 ≤ c) && dfr (w 3) (sh w tc r c (w 33 + nI t + nI r * w 2)) (sh w tc r (c - 1) (w 33 + nI t + nI r * w 2)))
      rw [e c hc, e (c - 1) (by omega)])
  have s2 := s1.ex q2
  have em0 : Em 0 := ⟨by decide, by decide⟩
  obtain ⟨S3, t1, t2, t3, t4⟩ := e_voteOnShift s2 (E1 := fun x => if x < R then edf w C f x fb else 0) (E2 := fun x => if x < R then edt w tc C x bl (w 33 + nI t + nI x * w 2) else 0) (fun x hx => by rw [q2.2 31 x (by omega), p2.2 31 x (by unfold PF; omega)]; exact h31 x hx) (fun x hx => q3 x hx) (fun x => by
    show Em (if x < R then edf w C f x fb else 0)
    split
    · exact edf_em hC.2.2
    · exact em0) (fun x => by
    show Em (if x < R then edt w tc C x bl (w 33 + nI t + nI x * w 2) else 0)
    split
    · exact edt_em hC.2.2
    · exact em0)
  have e31 : S1.2.1 30 1 = 32 := s1.2.2.2.1.2.1
  refine ⟨S1, S2, S3, p1, ?_, t1, s1, s2, s2.ex t2, ((p2.wk (fun x j q => by unfold PF at q; unfold PB; omega)).tr (q2.wk (fun x j q => by unfold PB; omega))).tr (t2.wk (fun x j q => by unfold PB; omega)), fun i hi => ?_⟩
  · unfold f_X6_readSecond
    rw [ck30 s1, ck30 s1, e31, q1, bnd_s]
  · rw [t4 i hi]
    unfold TB
    congr 1
    refine tly_ext (fun x _ => ⟨?_, fun _ => rfl⟩)
    show vt (if x < R then edf w C f x fb else 0) (if x < R then edt w tc C x bl (w 33 + nI t + nI x * w 2) else 0) = VB w tc C R f fb bl t x
    unfold VB
    by_cases c : x < R
    · rw [if_pos c, if_pos c, if_pos c]
    · rw [if_neg c, if_neg c, if_neg c]
      exact vt_00
/-- the model's edges at a time -/
theorem e_edgesAt {S : St} (hm : MSh S) {tc C r bl : Nat} (hr : r < 10) (hC : S.1 125 1 = nI C) (hC4 : 4 ≤ C) (hC16 : C ≤ 16) (htc : S.1 125 8 = nI tc) (h4 : tc ≤ 4) (hbl : S.1 125 34 = nI bl) (hb : bl < 1024) (h3 : Rg (S.1 125 3) 1 255) (t : Int32) : f_X8_edgesAt S 124 (nI r) t = some (nI (edt (S.1 125) tc C r bl t)) := by
  unfold f_X8_edgesAt
  have k1 : ∀ {β : Type} (o : Option β), chk (ina S 10 125 1) o = o := fun o => ckl hm.1 (Or.inl rfl) 1 L1 (by decide) o
  have k3 : ∀ {β : Type} (o : Option β), chk (ina S 10 125 3) o = o := fun o => ckl hm.1 (Or.inl rfl) 3 L3 (by decide) o
  have k34 : ∀ {β : Type} (o : Option β), chk (ina S 10 125 34) o = o := fun o => ckl hm.1 (Or.inl rfl) 34 L34 (by decide) o
  have hh : f_X8_has (nI bl) (nI r) = some (if bl.testBit r = true then 1 else 0) := e_has (by omega) (by omega)
  obtain ⟨n, en, n1, n2⟩ := h3
  by_cases hbit : bl.testBit r = true
  · show wl2 (f_X8_edgesAt_B5 S 124 (nI r) t (fun y3_5 => some y3_5)) (999999 + 1) 0 1 = _
    show f_X8_edgesAt_B5 S 124 (nI r) t (fun y3_5 => some y3_5) (wl2 (f_X8_edgesAt_B5 S 124 (nI r) t (fun y3_5 => some y3_5)) 999999) 0 1 = _
    unfold f_X8_edgesAt_B5
    simp only [C1, C34, hm.2.1]
    rw [ck8 hm, k1, hC, if_neg (by rw [L1, q_le (by omega) (by omega)]; omega), ck8 hm, k34, hbl, hh, if_pos hbit, bnd_s, if_neg (by decide)]
    unfold edt
    rw [if_pos hbit]
    rfl
  · unfold edt
    rw [if_neg hbit]
    unfold edm
    refine wl2_eq (kx := fun y => some y) (n := C) (fun i => nI (mk (fun c => decide (1 ≤ c) && dfr (S.1 125 3) (sh (S.1 125) tc r c t) (sh (S.1 125) tc r (c - 1) t)) i)) 1 (by simp [mk]; rfl) rfl (by omega) (by omega) (fun c kk h1 hc => ?_) (fun kk => ?_)
    · unfold f_X8_edgesAt_B5
      obtain ⟨v, g1, g2⟩ := abs_dfr (x := sh (S.1 125) tc r c t) (y := sh (S.1 125) tc r (c - 1) t) n1 (show n < 1000 by omega)
      have g1' : f_X8_size (sh (S.1 125) tc r c t - sh (S.1 125) tc r (c - 1) t) = some v := g1
      simp only [C1, C3, C34, hm.2.1]
      rw [ck8 hm, k1, hC, if_neg (by rw [q_le (by omega) (by omega)]; omega), ck8 hm, k34, hbl, hh, if_neg hbit, bnd_s, if_pos rfl, ck8 hm, e_shown hm.1 (Or.inl rfl) htc h4, bnd_s, ck8 hm, L1, q_sub h1, e_shown hm.1 (Or.inl rfl) htc h4, bnd_s, g1', bnd_s, ck8 hm, k3, mk_succ, en, q_add]
      by_cases hv : v < nI n
      · rw [if_pos hv, if_neg (by rw [g2.1 hv]; simp), Nat.or_zero, L0, q_or, Nat.or_zero]
      · have hv2 : dfr (nI n) (sh (S.1 125) tc r c t) (sh (S.1 125) tc r (c - 1) t) = true := by
          cases hz : dfr (nI n) (sh (S.1 125) tc r c t) (sh (S.1 125) tc r (c - 1) t) with
          | true => rfl
          | false => exact absurd (g2.2 hz) hv
        rw [if_neg hv, if_pos (by rw [hv2]; simp [h1]), q_shl 1 (by omega), q_or]
    · unfold f_X8_edgesAt_B5
      simp only [C1, hm.2.1]
      rw [ck8 hm, k1, hC, if_pos (Int32.le_refl _)]
