/-- the run over the text: place, reason, cause, orders -/
def exm (ch : Tx) (len : Nat) : Nat → Nat → Nat → Nat → Nat → Nat → Nat × Nat × Nat × Nat
  | 0, p, _, _, _, n => (p, 0, 0, n)
  | k + 1, p, tc, tm, bl, n => if len ≤ p then (p, 0, 0, n) else if (fin ch p).2 = true then (p, 1, (fin ch p).1 - p, n) else if (wrF (ch p) (vl ch p)).isSome = true then (p, 2, (wrF (ch p) (vl ch p)).getD 0, n) else if canF (ch p) (vl ch p 0).toNatClampNeg tc tm bl = true then exm ch len k (fin ch p).1 (nxT (ch p) tc) (nxM (ch p) (vl ch p 0).toNatClampNeg tm) (nxB (ch p) (vl ch p 0).toNatClampNeg bl) (n + 1) else (p, 3, 0, n)
theorem exm_s (ch : Tx) (len k p tc tm bl n : Nat) : exm ch len (k + 1) p tc tm bl n = if len ≤ p then (p, 0, 0, n) else if (fin ch p).2 = true then (p, 1, (fin ch p).1 - p, n) else if (wrF (ch p) (vl ch p)).isSome = true then (p, 2, (wrF (ch p) (vl ch p)).getD 0, n) else if canF (ch p) (vl ch p 0).toNatClampNeg tc tm bl = true then exm ch len k (fin ch p).1 (nxT (ch p) tc) (nxM (ch p) (vl ch p 0).toNatClampNeg tm) (nxB (ch p) (vl ch p 0).toNatClampNeg bl) (n + 1) else (p, 3, 0, n) := rfl
theorem exm_le (ch : Tx) (len : Nat) : ∀ k p tc tm bl n, (exm ch len k p tc tm bl n).2.1 ≤ 3
  | 0, p, tc, tm, bl, n => Nat.zero_le _
  | k + 1, p, tc, tm, bl, n => by
    rw [exm_s]
    split
    · exact Nat.zero_le _
    · split
      · show 1 ≤ 3
        omega
      · split
        · show 2 ≤ 3
          omega
        · split
          · exact exm_le ch len k _ _ _ _ _
          · exact Nat.le_refl _
theorem exm_n (ch : Tx) (len : Nat) : ∀ k p tc tm bl n, (exm ch len k p tc tm bl n).2.2.2 ≤ n + k ∧ (exm ch len k p tc tm bl n).1 ≤ p + 44 * k
  | 0, p, tc, tm, bl, n => ⟨Nat.le_refl _, Nat.le_refl _⟩
  | k + 1, p, tc, tm, bl, n => by
    rw [exm_s]
    split
    · constructor
      · show n ≤ _
        omega
      · show p ≤ _
        omega
    · split
      · constructor
        · show n ≤ _
          omega
        · show p ≤ _
          omega
      · split
        · constructor
          · show n ≤ _
            omega
          · show p ≤ _
            omega
        · split
          · have h1 := exm_n ch len k (fin ch p).1 (nxT (ch p) tc) (nxM (ch p) (vl ch p 0).toNatClampNeg tm) (nxB (ch p) (vl ch p 0).toNatClampNeg bl) (n + 1)
            have h2 := fin_le ch p
            omega
          · constructor
            · show n ≤ _
              omega
            · show p ≤ _
              omega
/-- what the class holds behind a run -/
def EX (S : St) (e : Nat × Nat × Nat × Nat) : Prop := S.1 26 4 = nI e.1 ∧ S.1 26 5 = nI e.2.1 ∧ (e.2.1 = 1 ∨ e.2.1 = 2 → S.1 26 6 = nI e.2.2.1) ∧ S.1 26 3 = nI e.2.2.2
def PE : Nat → Nat → Prop := fun x j => (x = 26 ∧ 3 ≤ j) ∨ x = 28 ∨ x = 29
theorem c_exOrder {S : St} (hs : CSh S) {tx : Nat → Int32} {len p tc tm bl : Nat} (ht : TxO tx len) (hod : OD (chN tx len) p S) (h4 : S.1 26 4 = nI p) (h5 : S.1 26 5 = 0) (ht3 : T3 tc tm bl) (hh : TH S tc tm bl) : ∃ S', f_X4_examineOrder S 26 = some S' ∧ Ex (fun x j => x = 26 ∧ 5 ≤ j) S S' ∧ ((fin (chN tx len) p).2 = true → S'.1 26 5 = 1 ∧ S'.1 26 6 = nI ((fin (chN tx len) p).1 - p)) ∧ ((fin (chN tx len) p).2 = false → ∀ x, wrF (chN tx len p) (vl (chN tx len) p) = some x → S'.1 26 5 = 2 ∧ S'.1 26 6 = nI x) ∧ ((fin (chN tx len) p).2 = false → wrF (chN tx len p) (vl (chN tx len) p) = none → canF (chN tx len p) (vl (chN tx len) p 0).toNatClampNeg tc tm bl = false → S'.1 26 5 = 3) ∧ ((fin (chN tx len) p).2 = false → wrF (chN tx len p) (vl (chN tx len) p) = none → canF (chN tx len p) (vl (chN tx len) p 0).toNatClampNeg tc tm bl = true → S'.1 26 5 = 0 ∧ TH S' (nxT (chN tx len p) tc) (nxM (chN tx len p) (vl (chN tx len) p 0).toNatClampNeg tm) (nxB (chN tx len p) (vl (chN tx len) p 0).toNatClampNeg bl)) := by
  obtain ⟨o1, o2, o3, o4⟩ := hod
  have e2 : ∀ S1 : St, CSh S1 → S1.2.1 26 2 = 28 := fun S1 q => q.2.2.1.2.1
  have hfl := fin_le (chN tx len) p
  have hle := chN_le ht p
  unfold f_X4_examineOrder
  rw [ck26 hs, e2 S hs, ck28 hs, o3]
  cases hf : (fin (chN tx len) p).2 with
  | true =>
    rw [if_neg (by rw [bI_0]; decide), ck26 hs, vlt_s]
    have x1 : Ex (fun x j => x = 26 ∧ 5 ≤ j) S (upI S 26 5 1) := Ex.up ⟨rfl, by omega⟩
    have s1 := hs.ex x1
    have a1 : (upI S 26 5 1).1 28 2 = nI (fin (chN tx len) p).1 := by rw [upI_at, if_neg (by omega)]; exact o2
    have a2 : (upI S 26 5 1).1 26 4 = nI p := by rw [upI_at, if_neg (by omega)]; exact h4
    rw [ck26 s1, e2 _ s1, ck28 s1, ck26 s1, ck26 s1, vlt_s, a1, a2, q_sub hfl.1]
    refine ⟨_, rfl, x1.upp ⟨rfl, by omega⟩, fun _ => ⟨?_, ?_⟩, (fun h => by cases h), (fun h => by cases h), (fun h => by cases h)⟩
    · rw [upI_at, if_neg (by omega), upI_at, if_pos ⟨rfl, rfl⟩]
    · rw [upI_at, if_pos ⟨rfl, rfl⟩]
  | false =>
    have hko := (fin_ok hf).1
    have o4' := o4 hf
    have hwn := c_wrongNumber hs o1 hko o4'
    rw [if_pos (by rw [bI_0]), ck26 hs, ck28 hs, hwn, bnd_s]
    cases hw : wrF (chN tx len p) (vl (chN tx len) p) with
    | some x =>
      have hx := wrF_lt hw
      have x1 : Ex (fun x j => x = 26 ∧ 5 ≤ j) S (upI S 26 5 2) := Ex.up ⟨rfl, by omega⟩
      have s1 := hs.ex x1
      have hwn2 := c_wrongNumber s1 (c := chN tx len p) (v := vl (chN tx len) p) (by rw [upI_at, if_neg (by omega)]; exact o1) hko (fun k hk => by rw [upI_at, if_neg (by omega)]; exact o4' k hk)
      rw [hw] at hwn2
      rw [if_neg (show ¬ enc7 (some x) < 0 from by
        show ¬ nI x < 0
        rw [L0, q_lt (by omega) (by omega)]
        omega), ck26 hs, vlt_s, ck26 s1, e2 _ s1, ck28 s1, hwn2, bnd_s, ck26 s1, vlt_s]
      refine ⟨_, rfl, x1.upp ⟨rfl, by omega⟩, (fun h => by cases h), fun _ y hy => ?_, (fun _ h => by cases h), (fun _ h => by cases h)⟩
      have := Option.some.inj hy
      subst this
      constructor
      · rw [upI_at, if_neg (by omega), upI_at, if_pos ⟨rfl, rfl⟩]
      · rw [upI_at, if_pos ⟨rfl, rfl⟩]
        rfl
    | none =>
      obtain ⟨S2, k1, k2, k3⟩ := c_possible hs o1 hko o4' hw ht3 hh
      have s2 := hs.ex k2
      rw [if_pos (show enc7 none < 0 from by decide), ck26 hs, k1, bnd2_s]
      cases hc : canF (chN tx len p) (vl (chN tx len) p 0).toNatClampNeg tc tm bl with
      | true =>
        rw [if_neg (by decide)]
        refine ⟨S2, rfl, k2.wk (fun x j q => by unfold PP at q; omega), (fun h => by cases h), (fun _ x h => by cases h), (fun _ _ h => by cases h), fun _ _ _ => ⟨?_, k3 hc⟩⟩
        rw [k2.2 _ _ (by unfold PP; omega)]
        exact h5
      | false =>
        rw [if_pos (show bI false = 0 from rfl), ck26 s2, vlt_s]
        refine ⟨_, rfl, (k2.wk (fun x j q => by unfold PP at q; omega)).upp ⟨rfl, by omega⟩, (fun h => by cases h), (fun _ x h => by cases h), fun _ _ _ => ?_, (fun _ _ h => by cases h)⟩
        rw [upI_at, if_pos ⟨rfl, rfl⟩]
theorem l_exOut {S : St} (hs : CSh S) {r : Nat} (h5 : S.1 26 5 = nI r) (h1 : 1 ≤ r) (h2 : r ≤ 3) (kx : St → Option St) (i : Nat) : ∀ fuel, 0 < fuel → wl2 (f_X4_examine_B41 26 kx) fuel S (nI i) = kx S
  | 0, h => by omega
  | fuel + 1, _ => by
    show f_X4_examine_B41 26 kx (wl2 (f_X4_examine_B41 26 kx) fuel) S (nI i) = kx S
    generalize wl2 (f_X4_examine_B41 26 kx) fuel = kk
    unfold f_X4_examine_B41
    by_cases c : (80 : Int32) ≤ nI i
    · rw [if_pos c]
    · rw [if_neg c, ck26 hs, ck26 hs]
      by_cases c2 : S.1 26 1 ≤ S.1 26 4
      · rw [if_pos c2]
      · rw [if_neg c2, ck26 hs, if_neg (by rw [h5, L0, q_eq (by omega) (by omega)]; omega)]
theorem l_exam {tx : Nat → Int32} {len : Nat} (ht : TxO tx len) (kx : St → Option St) : ∀ k i fuel (S : St) p tc tm bl n, i + k = 80 → k < fuel → CSh S → TC S tx len → S.1 26 4 = nI p → S.1 26 5 = 0 → S.1 26 3 = nI n → T3 tc tm bl → TH S tc tm bl → p < 10000 → ∃ S', wl2 (f_X4_examine_B41 26 kx) fuel S (nI i) = kx S' ∧ Ex PE S S' ∧ EX S' (exm (chN tx len) len k p tc tm bl n)
  | _, _, 0, _, _, _, _, _, _, _, h, _, _, _, _, _, _, _, _ => by omega
  | 0, i, fuel + 1, S, p, tc, tm, bl, n, e, _, hs, hc, h4, h5, h3, _, _, _ => by
    refine ⟨S, ?_, Ex.rf, h4, h5, (fun h => by rcases h with h | h <;> cases h), h3⟩
    have hi : i = 80 := by omega
    subst hi
    show f_X4_examine_B41 26 kx (wl2 (f_X4_examine_B41 26 kx) fuel) S (nI 80) = kx S
    generalize wl2 (f_X4_examine_B41 26 kx) fuel = kk
    unfold f_X4_examine_B41
    rw [if_pos (by decide)]
  | k + 1, i, fuel + 1, S, p, tc, tm, bl, n, e, hf, hs, hc, h4, h5, h3, ht3, hh, hp => by
    have l80 := ht.1
    have e2 : ∀ S1 : St, CSh S1 → S1.2.1 26 2 = 28 := fun S1 q => q.2.2.1.2.1
    show ∃ S', f_X4_examine_B41 26 kx (wl2 (f_X4_examine_B41 26 kx) fuel) S (nI i) = kx S' ∧ _
    generalize hK : wl2 (f_X4_examine_B41 26 kx) fuel = kk
    unfold f_X4_examine_B41
    rw [if_neg (by rw [L80, q_le (by omega) (by omega)]; omega), ck26 hs, ck26 hs, hc.1, h4, exm_s]
    by_cases c : len ≤ p
    · rw [if_pos (by rw [q_le (by omega) (by omega)]; exact c), if_pos c]
      exact ⟨S, rfl, Ex.rf, h4, h5, (fun h => by rcases h with h | h <;> cases h), h3⟩
    · rw [if_neg (by rw [q_le (by omega) (by omega)]; exact c), if_neg c, ck26 hs, if_pos h5, ck26 hs, ck26 hs, e2 S hs, ck28 hs]
      obtain ⟨S1, r1, r2, r3⟩ := c_read hs ht hc (p := p) (by omega)
      have s1 := hs.ex r2
      have po : ∀ j, S1.1 26 j = S.1 26 j := fun j => r2.2 _ _ (by unfold PO; omega)
      obtain ⟨S2, t1, t2, t3, t4, t5, t6⟩ := c_exOrder s1 ht r3 (by rw [po]; exact h4) (by rw [po]; exact h5) ht3 (show TH S1 tc tm bl from ⟨by rw [po]; exact hh.1, by rw [po]; exact hh.2.1, by rw [po]; exact hh.2.2⟩)
      have s2 := s1.ex t2
      have x02 : Ex PE S S2 := (r2.wk (fun x j q => by unfold PO at q; unfold PE; omega)).tr (t2.wk (fun x j q => by unfold PE; omega))
      have k4 : S2.1 26 4 = nI p := by rw [t2.2 _ _ (by omega), po]; exact h4
      have k3 : S2.1 26 3 = nI n := by rw [t2.2 _ _ (by omega), po]; exact h3
      rw [r1, bnd_s, ck26 s1, t1, bnd_s, ck26 s2]
      have out : ∀ r : Nat, S2.1 26 5 = nI r → 1 ≤ r → r ≤ 3 → (if (S2.1 26 5) = 0 then (chk (okc S2 4 26) (chk (okc S2 2 (S2.2.1 26 2)) (chk (okc S2 4 26) (vlt (upI S2 26 4 (S2.1 (S2.2.1 26 2) 2)) fun S_9 => (chk (okc S_9 4 26) (chk (okc S_9 4 26) (vlt (upI S_9 26 3 ((S_9.1 26 3) + 1)) fun S_10 => (kk S_10 (nI i + 1))))))))) else (kk S2 (nI i + 1))) = kx S2 := by
        intro r h h1 h2
        rw [if_neg (by rw [h, L0, q_eq (by omega) (by omega)]; omega), L1, q_add, ← hK]
        exact l_exOut s2 h h1 h2 kx (i + 1) fuel (by omega)
      cases hfi : (fin (chN tx len) p).2 with
      | true =>
        obtain ⟨u1, u2⟩ := t3 hfi
        rw [out 1 u1 (by omega) (by omega), if_pos rfl]
        exact ⟨S2, rfl, x02, k4, u1, fun _ => u2, k3⟩
      | false =>
        rw [if_neg Bool.false_ne_true]
        cases hw : wrF (chN tx len p) (vl (chN tx len) p) with
        | some x =>
          obtain ⟨u1, u2⟩ := t4 hfi x hw
          rw [out 2 u1 (by omega) (by omega), if_pos (show (some x).isSome = true from rfl)]
          exact ⟨S2, rfl, x02, k4, u1, fun _ => u2, k3⟩
        | none =>
          rw [if_neg (show ¬ (none : Option Nat).isSome = true from by decide)]
          cases hcn : canF (chN tx len p) (vl (chN tx len) p 0).toNatClampNeg tc tm bl with
          | false =>
            have u1 := t5 hfi hw hcn
            rw [out 3 u1 (by omega) (by omega), if_neg Bool.false_ne_true]
            exact ⟨S2, rfl, x02, k4, u1, (fun h => by rcases h with h | h <;> cases h), k3⟩
          | true =>
            obtain ⟨u1, u2, u3, u4⟩ := t6 hfi hw hcn
            have hod2 : S2.1 28 2 = nI (fin (chN tx len) p).1 := by rw [t2.2 _ _ (by omega)]; exact r3.2.1
            have hfl := fin_le (chN tx len) p
            rw [if_pos u1, if_pos rfl, ck26 s2, e2 S2 s2, ck28 s2, ck26 s2, vlt_s, hod2]
            have x3 : Ex (fun x j => x = 26 ∧ j = 4) S2 (upI S2 26 4 (nI (fin (chN tx len) p).1)) := Ex.up ⟨rfl, rfl⟩
            have s3 := s2.ex x3
            rw [ck26 s3, ck26 s3, vlt_s]
            have g3 : (upI S2 26 4 (nI (fin (chN tx len) p).1)).1 26 3 = nI n := by rw [upI_at, if_neg (by omega)]; exact k3
            rw [g3, L1, q_add, q_add]
            generalize hS4 : upI (upI S2 26 4 (nI (fin (chN tx len) p).1)) 26 3 (nI (n + 1)) = S4
            have x4 : Ex (fun x j => x = 26 ∧ (j = 3 ∨ j = 4)) S2 S4 := by
              rw [← hS4]
              exact (x3.wk (fun x j q => by omega)).upp ⟨rfl, Or.inl rfl⟩
            have x04 : Ex PE S S4 := x02.tr (x4.wk (fun x j q => by unfold PE; omega))
            obtain ⟨S5, v1, v2, v3⟩ := l_exam ht kx k (i + 1) fuel S4 (fin (chN tx len) p).1 (nxT (chN tx len p) tc) (nxM (chN tx len p) (vl (chN tx len) p 0).toNatClampNeg tm) (nxB (chN tx len p) (vl (chN tx len) p 0).toNatClampNeg bl) (n + 1) (by omega) (by omega) (s2.ex x4) (hc.ex x04 (by unfold PE; omega) (fun j => by unfold PE; omega)) (by
              rw [← hS4, upI_at, if_neg (by omega), upI_at, if_pos ⟨rfl, rfl⟩]) (by
              rw [← hS4, upI_at, if_neg (by omega), upI_at, if_neg (by omega)]
              exact u1) (by rw [← hS4, upI_at, if_pos ⟨rfl, rfl⟩]) (nx_ok hw (fin_ok hfi).1 hcn ht3) (show TH S4 _ _ _ from ⟨by rw [x4.2 _ _ (by omega)]; exact u2, by rw [x4.2 _ _ (by omega)]; exact u3, by rw [x4.2 _ _ (by omega)]; exact u4⟩) (by omega)
            rw [← hK]
            exact ⟨S5, v1, x04.tr v2, v3⟩
theorem c_examine {S : St} (hs : CSh S) {tx : Nat → Int32} {len tc tm bl : Nat} (ht : TxO tx len) (hc : TC S tx len) (ht3 : T3 tc tm bl) (h2 : S.1 5 2 = nI tc) (h6 : S.1 5 6 = nI tm) (h7 : S.1 5 7 = nI bl) : ∃ S', f_X4_examine S 26 5 = some S' ∧ Ex PE S S' ∧ EX S' (exm (chN tx len) len 80 0 tc tm bl 0) := by
  unfold f_X4_examine
  have kup : ∀ {S1 : St}, CSh S1 → ∀ {j : Nat} {v : Int32}, CSh (upI S1 26 j v) := fun h => h.ex (Ex.rf.upa (a := 26))
  rw [ck5 hs, ck26 hs, vlt_s]
  generalize hS1 : upI S 26 7 (S.1 5 2) = S1
  have s1 : CSh S1 := by rw [← hS1]; exact kup hs
  rw [ck5 s1, ck26 s1, vlt_s]
  generalize hS2 : upI S1 26 8 (S1.1 5 6) = S2
  have s2 : CSh S2 := by rw [← hS2]; exact kup s1
  rw [ck5 s2, ck26 s2, vlt_s]
  generalize hS3 : upI S2 26 9 (S2.1 5 7) = S3
  have s3 : CSh S3 := by rw [← hS3]; exact kup s2
  rw [ck26 s3, vlt_s]
  generalize hS4 : upI S3 26 3 0 = S4
  have s4 : CSh S4 := by rw [← hS4]; exact kup s3
  rw [ck26 s4, vlt_s]
  generalize hS5 : upI S4 26 4 0 = S5
  have s5 : CSh S5 := by rw [← hS5]; exact kup s4
  rw [ck26 s5, vlt_s]
  generalize hS6 : upI S5 26 5 0 = S6
  have s6 : CSh S6 := by rw [← hS6]; exact kup s5
  have a1 : ∀ x j, S1.1 x j = if x = 26 ∧ j = 7 then nI tc else S.1 x j := fun x j => by rw [← hS1, upI_at, h2]
  have a2 : ∀ x j, S2.1 x j = if x = 26 ∧ j = 8 then nI tm else S1.1 x j := fun x j => by
    have e : S1.1 5 6 = nI tm := by rw [a1 5 6, if_neg (by omega), h6]
    rw [← hS2, upI_at, e]
  have a3 : ∀ x j, S3.1 x j = if x = 26 ∧ j = 9 then nI bl else S2.1 x j := fun x j => by
    have e : S2.1 5 7 = nI bl := by rw [a2 5 7, if_neg (by omega), a1 5 7, if_neg (by omega), h7]
    rw [← hS3, upI_at, e]
  have a6 : ∀ x j, S6.1 x j = if x = 26 ∧ (j = 3 ∨ j = 4 ∨ j = 5) then 0 else S3.1 x j := fun x j => by
    rw [← hS6, upI_at, ← hS5, upI_at, ← hS4, upI_at]
    by_cases c5 : x = 26 ∧ j = 5
    · rw [if_pos c5, if_pos (by omega)]
    · rw [if_neg c5]
      by_cases c4 : x = 26 ∧ j = 4
      · rw [if_pos c4, if_pos (by omega)]
      · rw [if_neg c4]
        by_cases c3 : x = 26 ∧ j = 3
        · rw [if_pos c3, if_pos (by omega)]
        · rw [if_neg c3, if_neg (by omega)]
  have x6 : Ex PE S S6 := ⟨by rw [← hS6, ← hS5, ← hS4, ← hS3, ← hS2, ← hS1]; rfl, fun x j hn => by
    rw [a6, if_neg (by unfold PE at hn; omega), a3, if_neg (by unfold PE at hn; omega), a2, if_neg (by unfold PE at hn; omega), a1, if_neg (by unfold PE at hn; omega)]⟩
  obtain ⟨S', g1, g2, g3⟩ := l_exam ht (fun (S_11 : St) => (some S_11)) 80 0 FU S6 0 tc tm bl 0 rfl (by decide) s6 (hc.ex x6 (by unfold PE; omega) (fun j => by unfold PE; omega)) (by rw [a6, if_pos (by omega)]; rfl) (by rw [a6, if_pos (by omega)]) (by rw [a6, if_pos (by omega)]; rfl) ht3 (show TH S6 tc tm bl from ⟨by rw [a6, if_neg (by omega), a3, if_neg (by omega), a2, if_neg (by omega), a1, if_pos ⟨rfl, rfl⟩], by rw [a6, if_neg (by omega), a3, if_neg (by omega), a2, if_pos ⟨rfl, rfl⟩], by rw [a6, if_neg (by omega), a3, if_pos ⟨rfl, rfl⟩]⟩) (by omega)
  rw [show nI 0 = (0 : Int32) from rfl] at g1
  exact ⟨S', g1, x6.tr g2, g3⟩
