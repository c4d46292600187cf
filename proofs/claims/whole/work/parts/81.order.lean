/-! AN ORDER, READ by the class -/
theorem sg1_f (ch : Tx) (c e : Nat) : sg1 ch c (e, false) = if ch e = c then (e + 1, false) else (e, true) := if_neg Bool.false_ne_true
theorem nm1_f (ch : Tx) (e : Nat) : nm1 ch (e, false) = (nE ch e, nB ch e) := if_neg Bool.false_ne_true
theorem pr_f {s : Nat × Bool} (h : s.2 = false) : s = (s.1, false) := by rw [← h]
/-- what object 28 holds of an order of which i numbers are read -/
def OH (ch : Tx) (p i : Nat) (S : St) : Prop := S.1 28 2 = nI (sq ch p i).1 ∧ S.1 28 3 = bI (sq ch p i).2 ∧ S.1 28 0 = nI (ch p) ∧ ((sq ch p i).2 = false → ∀ k, k < i → S.1 29 k = vl ch p k)
theorem l_ordC {S : St} (hs : CSh S) {tx : Nat → Int32} {len p n : Nat} (ht : TxO tx len) (hc : TC S tx len) (hp : p < 200) (hn : n ≤ 6) (h0 : OH (chN tx len) p 0 S) (kx : St → Option St) : ∃ S', wl2 (f_X2_read_B51 28 26 (nI n) kx) FU S 0 = kx S' ∧ Ex PO S S' ∧ OH (chN tx len) p n S' := by
  obtain ⟨S', ⟨p1, p2⟩, g⟩ := wl2_esc (F := f_X2_read_B51 28 26 (nI n) kx) (kx := kx) (n := n) (fun i S' => Ex PO S S' ∧ OH (chN tx len) p i S') (fun i S1 kk hi hP => by
    obtain ⟨p1, p2, p3, p4, p5⟩ := hP
    unfold f_X2_read_B51
    have s1 := hs.ex p1
    have c1 := hc.po p1
    have hb := sq_le (chN tx len) p i
    rw [if_neg (by rw [q_le (by omega) (by omega)]; omega), ck28 s1, p3]
    by_cases hz : (sq (chN tx len) p i).2 = true
    · right
      rw [if_neg (by rw [bI_0, hz]; decide)]
      refine ⟨⟨p1, ?_⟩, rfl⟩
      have e : sq (chN tx len) p n = sq (chN tx len) p i := by
        have := sq_b hz (n - i)
        rw [show i + (n - i) = n by omega] at this
        exact this
      refine ⟨by rw [e]; exact p2, by rw [e]; exact p3, p4, fun h => ?_⟩
      rw [e, hz] at h
      cases h
    · left
      have hz' : (sq (chN tx len) p i).2 = false := by simpa using hz
      have p5' := p5 hz'
      rw [if_pos (by rw [bI_0]; exact hz')]
      have J76 : ∀ S2 : St, CSh S2 → TC S2 tx len → Ex PO S S2 → S2.1 28 2 = nI (sqp (chN tx len) (sq (chN tx len) p i) i).1 → S2.1 28 3 = bI (sqp (chN tx len) (sq (chN tx len) p i) i).2 → S2.1 28 0 = nI (chN tx len p) → (∀ k, k < i → S2.1 29 k = vl (chN tx len) p k) → ∃ a', (Ex PO S a' ∧ OH (chN tx len) p (i + 1) a') ∧ f_X2_read_J76 S2 28 26 (nI n) kx kk (nI i) = kk a' (nI (i + 1)) := by
        intro S2 s2 c2 x2 g2 g3 g0 g29
        unfold f_X2_read_J76
        have hb2 := sqp_le (chN tx len) (sq (chN tx len) p i) i
        rw [ck28 s2, g3]
        by_cases hy : (sqp (chN tx len) (sq (chN tx len) p i) i).2 = true
        · rw [if_neg (by rw [bI_0, hy]; decide), L1, q_add]
          have e : sq (chN tx len) p (i + 1) = sqp (chN tx len) (sq (chN tx len) p i) i := by rw [sq_s, nm1_b hy]
          refine ⟨S2, ⟨x2, ?_⟩, rfl⟩
          refine ⟨by rw [e]; exact g2, by rw [e]; exact g3, g0, fun h => ?_⟩
          rw [e, hy] at h
          cases h
        · have hy' : (sqp (chN tx len) (sq (chN tx len) p i) i).2 = false := by simpa using hy
          rw [if_pos (by rw [bI_0]; exact hy')]
          obtain ⟨S3, r1, r2, r3, r4, r5, r6, r7⟩ := c_readNumber s2 (k := i) ht c2 (show (sqp (chN tx len) (sq (chN tx len) p i) i).1 < 500 by omega) (by omega) g2
          rw [ck28 s2, r1, bnd_s, L1, q_add]
          have e : sq (chN tx len) p (i + 1) = (nE (chN tx len) (sqp (chN tx len) (sq (chN tx len) p i) i).1, nB (chN tx len) (sqp (chN tx len) (sq (chN tx len) p i) i).1) := by
            rw [sq_s]
            have := nm1_f (chN tx len) (sqp (chN tx len) (sq (chN tx len) p i) i).1
            rw [← pr_f hy'] at this
            exact this
          refine ⟨S3, ⟨x2.tr r7, ?_⟩, rfl⟩
          refine ⟨by rw [e]; exact r2, by rw [e]; exact r3, by rw [r4]; exact g0, fun _ k hk => ?_⟩
          by_cases ck : k = i
          · rw [ck]
            exact r5
          · rw [r6 k ck]
            exact g29 k (by omega)
      by_cases hi0 : i = 0
      · subst hi0
        rw [if_pos (by decide)]
        have e : sqp (chN tx len) (sq (chN tx len) p 0) 0 = sq (chN tx len) p 0 := if_pos rfl
        exact J76 S1 s1 c1 p1 (by rw [e]; exact p2) (by rw [e]; exact p3) p4 (fun k hk => by omega)
      · rw [if_neg (by rw [L0, q_le (by omega) (by omega)]; omega)]
        have e : sqp (chN tx len) (sq (chN tx len) p i) i = sg1 (chN tx len) 44 ((sq (chN tx len) p i).1, false) := by
          rw [← pr_f hz']
          exact if_neg hi0
        obtain ⟨S2, r1, r2, r3, r4⟩ := c_readSign s1 (c := 44) ht c1 (show (sq (chN tx len) p i).1 < 500 by omega) (by omega) p2 (by rw [p3, hz']; rfl)
        rw [ck28 s1, show (44 : Int32) = nI 44 from rfl, r1, bnd_s]
        exact J76 S2 (s1.ex r4) (c1.ex r4 (by omega) (fun j => by omega)) (p1.tr (r4.wk (fun x j q => by unfold PO; omega))) (by rw [e]; exact r2) (by rw [e]; exact r3) (by rw [r4.2 _ _ (by omega)]; exact p4) (fun k hk => by rw [r4.2 _ _ (by omega)]; exact p5' k hk)) (fun S1 kk hP => by
    unfold f_X2_read_B51
    rw [if_pos (Int32.le_refl _)]) n 0 FU S (by omega) (by show n < 1000000; omega) ⟨Ex.rf, h0⟩
  exact ⟨S', g, p1, p2⟩
theorem c_behind {c : Nat} (h : c ≤ 126) : f_X2_numbersBehind (nI c) = some (if okL c = true then nI (cntL c) else -1) := by
  unfold f_X2_numbersBehind okL cntL
  have q : ∀ k : Nat, k ≤ 126 → (nI c = nI k ↔ c = k) := fun k hk => q_eq (by omega) (by omega)
  have q116 : (nI c = 116) = (c = 116) := propext (q 116 (by omega))
  have q115 : (nI c = 115) = (c = 115) := propext (q 115 (by omega))
  have q103 : (nI c = 103) = (c = 103) := propext (q 103 (by omega))
  have q98 : (nI c = 98) = (c = 98) := propext (q 98 (by omega))
  have q117 : (nI c = 117) = (c = 117) := propext (q 117 (by omega))
  simp only [q116, q115, q103, q98, q117]
  by_cases c1 : c = 116
  · subst c1; rfl
  · rw [if_neg c1]
    by_cases c2 : c = 115
    · subst c2; rfl
    · rw [if_neg c2]
      by_cases c3 : c = 103
      · subst c3; rfl
      · rw [if_neg c3]
        by_cases c4 : c = 98
        · subst c4; rfl
        · rw [if_neg c4]
          by_cases c5 : c = 117
          · subst c5; rfl
          · rw [if_neg c5, decide_eq_false c1, decide_eq_false c2, decide_eq_false c3, decide_eq_false c4, decide_eq_false c5]
            rfl
/-- what object 28 holds of an order that is read -/
def OD (ch : Tx) (p : Nat) (S : St) : Prop := S.1 28 0 = nI (ch p) ∧ S.1 28 2 = nI (fin ch p).1 ∧ S.1 28 3 = bI (fin ch p).2 ∧ ((fin ch p).2 = false → ∀ k, k < cntL (ch p) → S.1 29 k = vl ch p k)
theorem c_read {S : St} (hs : CSh S) {tx : Nat → Int32} {len p : Nat} (ht : TxO tx len) (hc : TC S tx len) (hp : p < 200) : ∃ S', f_X2_read S 28 26 (nI p) = some S' ∧ Ex PO S S' ∧ OD (chN tx len) p S' := by
  unfold f_X2_read
  have hsg := c_signAt hs ht hc (p := p) (by omega)
  have hle := chN_le ht p
  rw [ck26 hs, hsg, bnd_s, ck_t (chr_all _ (by omega)).2, ck28 hs, vlt_s]
  generalize hS2 : upI S 28 0 (nI (chN tx len p)) = S2
  have x2 : Ex PO S S2 := by
    rw [← hS2]
    exact Ex.up (Or.inl rfl)
  have s2 := hs.ex x2
  have c2 := hc.po x2
  have g0 : S2.1 28 0 = nI (chN tx len p) := by rw [← hS2, upI_at, if_pos ⟨rfl, rfl⟩]
  rw [ck28 s2, g0, c_behind hle, bnd_s]
  by_cases hk : okL (chN tx len p) = true
  · have hcn := cntL_le (chN tx len p)
    rw [if_pos hk, if_pos (by rw [L0, q_le (by omega) (by omega)]; omega)]
    unfold f_X2_read_J27
    rw [ck_t (Or.inl rfl), ck28 s2, vlt_s]
    generalize hS3 : upI S2 28 3 0 = S3
    have x3 : Ex PO S2 S3 := by
      rw [← hS3]
      exact Ex.up (Or.inl rfl)
    have s3 := s2.ex x3
    have g3 : S3.1 28 3 = 0 := by rw [← hS3, upI_at, if_pos ⟨rfl, rfl⟩]
    have g30 : S3.1 28 0 = nI (chN tx len p) := by rw [← hS3, upI_at, if_neg (by omega)]; exact g0
    rw [ck28 s3, if_pos g3]
    unfold f_X2_read_J45
    rw [ck28 s3, vlt_s, L1, q_add]
    generalize hS4 : upI S3 28 2 (nI (p + 1)) = S4
    have x4 : Ex PO S3 S4 := by
      rw [← hS4]
      exact Ex.up (Or.inl rfl)
    have s4 := s3.ex x4
    have c4 := (c2.po x3).po x4
    have oh : OH (chN tx len) p 0 S4 := by
      refine ⟨?_, ?_, ?_, fun _ k hk => by omega⟩
      · rw [← hS4, upI_at, if_pos ⟨rfl, rfl⟩]
        rfl
      · rw [← hS4, upI_at, if_neg (by omega), g3]
        rfl
      · rw [← hS4, upI_at, if_neg (by omega)]
        exact g30
    obtain ⟨S5, r1, r2, r3, r4, r5, r6⟩ := l_ordC s4 ht c4 hp hcn oh (fun (S_8 : St) => (f_X2_read_J96 S_8 28 26))
    have s5 := s4.ex r2
    have x5 : Ex PO S S5 := ((x2.tr x3).tr x4).tr r2
    have hb := sq_le (chN tx len) p (cntL (chN tx len p))
    rw [r1]
    unfold f_X2_read_J96
    rw [ck28 s5, r4]
    have ef : fin (chN tx len) p = sg1 (chN tx len) 59 (sq (chN tx len) p (cntL (chN tx len p))) := if_pos hk
    by_cases hz : (sq (chN tx len) p (cntL (chN tx len p))).2 = true
    · rw [if_neg (by rw [bI_0, hz]; decide)]
      have ef2 : fin (chN tx len) p = sq (chN tx len) p (cntL (chN tx len p)) := by rw [ef, sg1_b hz]
      refine ⟨S5, rfl, x5, r5, by rw [ef2]; exact r3, by rw [ef2]; exact r4, fun h => ?_⟩
      rw [ef2, hz] at h
      cases h
    · have hz' : (sq (chN tx len) p (cntL (chN tx len p))).2 = false := by simpa using hz
      obtain ⟨S6, t1, t2, t3, t4⟩ := c_readSign s5 (c := 59) ht (c4.po r2) (show (sq (chN tx len) p (cntL (chN tx len p))).1 < 500 by omega) (by omega) r3 (by rw [r4, hz']; rfl)
      rw [if_pos (by rw [bI_0]; exact hz'), ck28 s5, show (59 : Int32) = nI 59 from rfl, t1, bnd_s]
      have ef2 : fin (chN tx len) p = sg1 (chN tx len) 59 ((sq (chN tx len) p (cntL (chN tx len p))).1, false) := by rw [← pr_f hz']; exact ef
      exact ⟨S6, rfl, x5.tr (t4.wk (fun x j q => by unfold PO; omega)), by rw [t4.2 _ _ (by omega)]; exact r5, by rw [ef2]; exact t2, by rw [ef2]; exact t3, fun _ k hk => by rw [t4.2 _ _ (by omega)]; exact r6 hz' k hk⟩
  · have ef : fin (chN tx len) p = (p, true) := if_neg hk
    rw [if_neg hk, if_neg (by decide)]
    unfold f_X2_read_J27
    rw [ck_t (Or.inr rfl), ck28 s2, vlt_s]
    generalize hS3 : upI S2 28 3 1 = S3
    have x3 : Ex PO S2 S3 := by
      rw [← hS3]
      exact Ex.up (Or.inl rfl)
    have s3 := s2.ex x3
    have g3 : S3.1 28 3 = 1 := by rw [← hS3, upI_at, if_pos ⟨rfl, rfl⟩]
    have g30 : S3.1 28 0 = nI (chN tx len p) := by rw [← hS3, upI_at, if_neg (by omega)]; exact g0
    rw [ck28 s3, if_neg (by rw [g3]; decide)]
    unfold f_X2_read_J45
    rw [ck28 s3, vlt_s]
    generalize hS4 : upI S3 28 2 (nI p) = S4
    have x4 : Ex PO S3 S4 := by
      rw [← hS4]
      exact Ex.up (Or.inl rfl)
    have s4 := s3.ex x4
    have k1 : wl2 (f_X2_read_B51 28 26 (-1) (fun (S_8 : St) => (f_X2_read_J96 S_8 28 26))) FU S4 0 = f_X2_read_J96 S4 28 26 := by
      show f_X2_read_B51 28 26 (-1) (fun (S_8 : St) => (f_X2_read_J96 S_8 28 26)) (wl2 (f_X2_read_B51 28 26 (-1) (fun (S_8 : St) => (f_X2_read_J96 S_8 28 26))) 999999) S4 0 = _
      generalize wl2 (f_X2_read_B51 28 26 (-1) (fun (S_8 : St) => (f_X2_read_J96 S_8 28 26))) 999999 = kk
      unfold f_X2_read_B51
      rw [if_pos (by decide)]
    have g43 : S4.1 28 3 = 1 := by rw [← hS4, upI_at, if_neg (by omega)]; exact g3
    rw [k1]
    unfold f_X2_read_J96
    rw [ck28 s4, if_neg (by rw [g43]; decide)]
    refine ⟨S4, rfl, (x2.tr x3).tr x4, ?_, ?_, ?_, fun h => ?_⟩
    · rw [← hS4, upI_at, if_neg (by omega)]
      exact g30
    · rw [ef, ← hS4, upI_at, if_pos ⟨rfl, rfl⟩]
    · rw [ef, g43]
      rfl
    · rw [ef] at h
      cases h
