/-! THE MODEL GOES OVER THE TEXT -/
theorem e_wrongIn {S : St} (hm : MSh S) {c : Nat} {v : Nat → Int32} (hc : okL c = true) (hv : ∀ k, k < cntL c → S.1 130 k = v k) : f_X8_wrongIn S 124 (nI c) = some (enc8 (wrF c v)) := by
  unfold f_X8_wrongIn
  have k0 : ∀ {β : Type} (o : Option β), chk (ina S 10 130 0) o = o := fun o => ck130 hm (j := 0) (by omega) o
  have k1 : ∀ {β : Type} (o : Option β), chk (ina S 10 130 1) o = o := fun o => ck130 hm (j := 1) (by omega) o
  have k2 : ∀ {β : Type} (o : Option β), chk (ina S 10 130 2) o = o := fun o => ck130 hm (j := 2) (by omega) o
  have k3 : ∀ {β : Type} (o : Option β), chk (ina S 10 130 3) o = o := fun o => ck130 hm (j := 3) (by omega) o
  have k4 : ∀ {β : Type} (o : Option β), chk (ina S 10 130 4) o = o := fun o => ck130 hm (j := 4) (by omega) o
  have k5 : ∀ {β : Type} (o : Option β), chk (ina S 10 130 5) o = o := fun o => ck130 hm (j := 5) (by omega) o
  simp only [C0, C1, C2, C3, C4, C5, hm.e13]
  rcases okL_c hc with rfl | rfl | rfl | rfl | rfl
  · have ew : wrF 116 v = wrT (v 0) (v 1) (v 2) (v 3) (v 4) (v 5) := rfl
    rw [ew, if_neg (show ¬ nI 116 = (103 : Int32) by decide), if_neg (show ¬ nI 116 = (115 : Int32) by decide), if_pos (show nI 116 = (116 : Int32) from rfl), ck8 hm, k0, ck8 hm, k1, ck8 hm, k2, ck8 hm, k3, ck8 hm, k4, ck8 hm, k5, e_wrT8, bnd_s, hv 0 (by decide), hv 1 (by decide), hv 2 (by decide), hv 3 (by decide), hv 4 (by decide), hv 5 (by decide)]
  · have ew : wrF 103 v = (if 1 ≤ v 0 ∧ v 0 ≤ 200 then none else some 0) := rfl
    rw [ew, if_pos (show nI 103 = (103 : Int32) from rfl), ck8 hm, k0, e_in, bnd_s, hv 0 (by decide)]
    by_cases d : 1 ≤ v 0 ∧ v 0 ≤ 200
    · rw [if_pos d, if_pos d, if_neg (by decide)]
      rfl
    · rw [if_neg d, if_neg d, if_pos rfl]
      rfl
  · have ew : wrF 115 v = none := rfl
    rw [ew, if_neg (show ¬ nI 115 = (103 : Int32) by decide), if_pos (show nI 115 = (115 : Int32) from rfl)]
    rfl
  · have ew : wrF 98 v = (if 0 ≤ v 0 ∧ v 0 ≤ 9 then none else some 0) := rfl
    rw [ew, if_neg (show ¬ nI 98 = (103 : Int32) by decide), if_neg (show ¬ nI 98 = (115 : Int32) by decide), if_neg (show ¬ nI 98 = (116 : Int32) by decide), ck8 hm, k0, e_in, bnd_s, hv 0 (by decide)]
    by_cases d : 0 ≤ v 0 ∧ v 0 ≤ 9
    · rw [if_pos d, if_pos d, if_neg (by decide)]
      rfl
    · rw [if_neg d, if_neg d, if_pos rfl]
      rfl
  · have ew : wrF 117 v = (if 0 ≤ v 0 ∧ v 0 ≤ 9 then none else some 0) := rfl
    rw [ew, if_neg (show ¬ nI 117 = (103 : Int32) by decide), if_neg (show ¬ nI 117 = (115 : Int32) by decide), if_neg (show ¬ nI 117 = (116 : Int32) by decide), ck8 hm, k0, e_in, bnd_s, hv 0 (by decide)]
    by_cases d : 0 ≤ v 0 ∧ v 0 ≤ 9
    · rw [if_pos d, if_pos d, if_neg (by decide)]
      rfl
    · rw [if_neg d, if_neg d, if_pos rfl]
      rfl
theorem e_can {S : St} (hm : MSh S) {c R C tc fc tm bl : Nat} {v : Nat → Int32} (hk : okL c = true) (hv : ∀ k, k < cntL c → S.1 130 k = v k) (hw : wrF c v = none) (hr : WR (S.1 127) R C tc fc tm bl) : f_X8_can S 127 (nI c) (S.1 130 0) = some (bI (canF c (v 0).toNatClampNeg tc tm bl)) := by
  obtain ⟨h0, h1, h8, h36, h33, h34⟩ := hr
  unfold f_X8_can
  have k8 : ∀ {β : Type} (o : Option β), chk (ina S 10 127 8) o = o := fun o => ckl hm.1 (Or.inr rfl) 8 L8 (by decide) o
  have k33 : ∀ {β : Type} (o : Option β), chk (ina S 10 127 33) o = o := fun o => ckl hm.1 (Or.inr rfl) 33 L33 (by decide) o
  have k34 : ∀ {β : Type} (o : Option β), chk (ina S 10 127 34) o = o := fun o => ckl hm.1 (Or.inr rfl) 34 L34 (by decide) o
  simp only [C8, C33, C34, h8.1, h33.1, h34.1]
  rcases okL_c hk with rfl | rfl | rfl | rfl | rfl
  · have ec : canF 116 (v 0).toNatClampNeg tc tm bl = decide (tc < 4) := rfl
    rw [ec, if_neg (show ¬ nI 116 = (103 : Int32) by decide), if_neg (show ¬ nI 116 = (115 : Int32) by decide), if_pos (show nI 116 = (116 : Int32) from rfl), k8]
    by_cases d : tc < 4
    · rw [if_neg (by rw [L4, q_le (by omega) (by omega)]; omega), decide_eq_true d]
      rfl
    · rw [if_pos (by rw [L4, q_le (by omega) (by omega)]; omega), decide_eq_false d]
      rfl
  · have hnn := wr_n hw (by omega)
    have hv0 : S.1 130 0 = nI (v 0).toNatClampNeg := (hv 0 (by decide)).trans hnn.1
    have ec : canF 103 (v 0).toNatClampNeg tc tm bl = decide (tm + (v 0).toNatClampNeg ≤ 20000) := rfl
    rw [ec, if_pos (show nI 103 = (103 : Int32) from rfl), k33, hv0, q_add]
    by_cases d : tm + (v 0).toNatClampNeg ≤ 20000
    · rw [if_neg (by rw [L20000, q_lt (by omega) (by omega)]; omega), decide_eq_true d]
      rfl
    · rw [if_pos (by rw [L20000, q_lt (by omega) (by omega)]; omega), decide_eq_false d]
      rfl
  · rw [if_neg (show ¬ nI 115 = (103 : Int32) by decide), if_pos (show nI 115 = (115 : Int32) from rfl)]
    rfl
  · have hnn := wr_n hw (by omega)
    have hn9 := hnn.2.2 (by decide)
    have hv0 : S.1 130 0 = nI (v 0).toNatClampNeg := (hv 0 (by decide)).trans hnn.1
    have ec : canF 98 (v 0).toNatClampNeg tc tm bl = !(bl.testBit (v 0).toNatClampNeg) := rfl
    rw [ec, if_neg (show ¬ nI 98 = (103 : Int32) by decide), if_neg (show ¬ nI 98 = (115 : Int32) by decide), if_neg (show ¬ nI 98 = (116 : Int32) by decide), k34, hv0, e_has (by omega) (by omega), bnd_s, if_neg (show ¬ nI 98 = (117 : Int32) by decide)]
    by_cases d : bl.testBit (v 0).toNatClampNeg = true
    · rw [if_pos d, if_neg (by decide), d]
      rfl
    · have d' : bl.testBit (v 0).toNatClampNeg = false := by simpa using d
      rw [if_neg d, if_pos rfl, d']
      rfl
  · have hnn := wr_n hw (by omega)
    have hn9 := hnn.2.2 (by decide)
    have hv0 : S.1 130 0 = nI (v 0).toNatClampNeg := (hv 0 (by decide)).trans hnn.1
    have ec : canF 117 (v 0).toNatClampNeg tc tm bl = bl.testBit (v 0).toNatClampNeg := rfl
    rw [ec, if_neg (show ¬ nI 117 = (103 : Int32) by decide), if_neg (show ¬ nI 117 = (115 : Int32) by decide), if_neg (show ¬ nI 117 = (116 : Int32) by decide), k34, hv0, e_has (by omega) (by omega), bnd_s, if_pos (show nI 117 = (117 : Int32) from rfl)]
    by_cases d : bl.testBit (v 0).toNatClampNeg = true
    · rw [if_pos d, if_pos rfl, d]
      rfl
    · have d' : bl.testBit (v 0).toNatClampNeg = false := by simpa using d
      rw [if_neg d, if_neg (by decide), d']
      rfl
theorem e_does {S : St} (hm : MSh S) {c R C tc fc tm bl : Nat} {v : Nat → Int32} (hk : okL c = true) (hv : ∀ k, k < cntL c → S.1 130 k = v k) (hw : wrF c v = none) (hr : WR (S.1 127) R C tc fc tm bl) (hc : canF c (v 0).toNatClampNeg tc tm bl = true) : ∃ S', f_X8_does S 124 127 (nI c) = some S' ∧ Ex (fun x _ => x = 127) S S' ∧ ∀ j, j < 867 → S'.1 127 j = dwx c v R C tc fc tm bl (S.1 127) j := by
  obtain ⟨h0, h1, h8, h36, h33, h34⟩ := hr
  unfold f_X8_does
  have k0 : ∀ {β : Type} (o : Option β), chk (ina S 10 130 0) o = o := fun o => ck130 hm (j := 0) (by omega) o
  have k1 : ∀ {β : Type} (o : Option β), chk (ina S 10 130 1) o = o := fun o => ck130 hm (j := 1) (by omega) o
  have k2 : ∀ {β : Type} (o : Option β), chk (ina S 10 130 2) o = o := fun o => ck130 hm (j := 2) (by omega) o
  have k3 : ∀ {β : Type} (o : Option β), chk (ina S 10 130 3) o = o := fun o => ck130 hm (j := 3) (by omega) o
  have k4 : ∀ {β : Type} (o : Option β), chk (ina S 10 130 4) o = o := fun o => ck130 hm (j := 4) (by omega) o
  have k5 : ∀ {β : Type} (o : Option β), chk (ina S 10 130 5) o = o := fun o => ck130 hm (j := 5) (by omega) o
  have k33 : ∀ {β : Type} (o : Option β), chk (ina S 10 127 33) o = o := fun o => ckl hm.1 (Or.inr rfl) 33 L33 (by decide) o
  have k34 : ∀ {β : Type} (o : Option β), chk (ina S 10 127 34) o = o := fun o => ckl hm.1 (Or.inr rfl) 34 L34 (by decide) o
  have w33 : ∀ {β : Type} (o : Option β), chk (inw S 10 127 33) o = o := fun o => cwl hm.1 (Or.inr rfl) 33 L33 (by decide) o
  have w34 : ∀ {β : Type} (o : Option β), chk (inw S 10 127 34) o = o := fun o => cwl hm.1 (Or.inr rfl) 34 L34 (by decide) o
  simp only [C0, C1, C2, C3, C4, C5, C33, C34, hm.e13, h33.1, h34.1]
  rcases okL_c hk with rfl | rfl | rfl | rfl | rfl
  · have ec : canF 116 (v 0).toNatClampNeg tc tm bl = decide (tc < 4) := rfl
    rw [ec, decide_eq_true_eq] at hc
    obtain ⟨S', g1, g2, g3⟩ := e_adds hm.1 (Or.inr rfl) h8.1 hc (v 0) (v 1) (v 2) (v 3) (v 4) (v 5)
    rw [if_neg (show ¬ nI 116 = (103 : Int32) by decide), if_neg (show ¬ nI 116 = (115 : Int32) by decide), if_pos (show nI 116 = (116 : Int32) from rfl), ck8 hm, k0, ck8 hm, k1, ck8 hm, k2, ck8 hm, k3, ck8 hm, k4, ck8 hm, k5, hv 0 (by decide), hv 1 (by decide), hv 2 (by decide), hv 3 (by decide), hv 4 (by decide), hv 5 (by decide), g1, bnd_s]
    exact ⟨S', rfl, g2, fun j _ => g3 j⟩
  · have hnn := wr_n hw (by omega)
    have hv0 : S.1 130 0 = nI (v 0).toNatClampNeg := (hv 0 (by decide)).trans hnn.1
    rw [if_pos (show nI 103 = (103 : Int32) from rfl), k33, ck8 hm, k0, w33, vlt_s, hv0, q_add]
    refine ⟨_, rfl, Ex.rf.upa, fun j _ => ?_⟩
    rw [upI_at]
    show _ = if j = 33 then nI (tm + (v 0).toNatClampNeg) else S.1 127 j
    by_cases z : j = 33
    · rw [if_pos ⟨rfl, z⟩, if_pos z]
    · rw [if_neg (fun q => z q.2), if_neg z]
  · obtain ⟨S', g1, g2, g3⟩ := e_takesX hm.1 (a := 127) (Or.inr rfl) h0.1 h0.2 h1.1 h1.2 h8.1 h8.2 h36.1 h36.2
    rw [if_neg (show ¬ nI 115 = (103 : Int32) by decide), if_pos (show nI 115 = (115 : Int32) from rfl), g1, bnd_s]
    exact ⟨S', rfl, g2, g3⟩
  · have hnn := wr_n hw (by omega)
    have hn9 := hnn.2.2 (by decide)
    have hv0 : S.1 130 0 = nI (v 0).toNatClampNeg := (hv 0 (by decide)).trans hnn.1
    have e1 : (1 : Int32) <<< (nI (v 0).toNatClampNeg &&& 31) = nI (1 <<< (v 0).toNatClampNeg) := q_shl 1 (by omega)
    rw [if_neg (show ¬ nI 98 = (103 : Int32) by decide), if_neg (show ¬ nI 98 = (115 : Int32) by decide), if_neg (show ¬ nI 98 = (116 : Int32) by decide), k34, ck8 hm, k0, w34, vlt_s, hv0, e1, q_xor]
    refine ⟨_, rfl, Ex.rf.upa, fun j _ => ?_⟩
    rw [upI_at]
    show _ = if j = 34 then nI (bl ^^^ (1 <<< (v 0).toNatClampNeg)) else S.1 127 j
    by_cases z : j = 34
    · rw [if_pos ⟨rfl, z⟩, if_pos z]
    · rw [if_neg (fun q => z q.2), if_neg z]
  · have hnn := wr_n hw (by omega)
    have hn9 := hnn.2.2 (by decide)
    have hv0 : S.1 130 0 = nI (v 0).toNatClampNeg := (hv 0 (by decide)).trans hnn.1
    have e1 : (1 : Int32) <<< (nI (v 0).toNatClampNeg &&& 31) = nI (1 <<< (v 0).toNatClampNeg) := q_shl 1 (by omega)
    rw [if_neg (show ¬ nI 117 = (103 : Int32) by decide), if_neg (show ¬ nI 117 = (115 : Int32) by decide), if_neg (show ¬ nI 117 = (116 : Int32) by decide), k34, ck8 hm, k0, w34, vlt_s, hv0, e1, q_xor]
    refine ⟨_, rfl, Ex.rf.upa, fun j _ => ?_⟩
    rw [upI_at]
    show _ = if j = 34 then nI (bl ^^^ (1 <<< (v 0).toNatClampNeg)) else S.1 127 j
    by_cases z : j = 34
    · rw [if_pos ⟨rfl, z⟩, if_pos z]
    · rw [if_neg (fun q => z q.2), if_neg z]
theorem dwx_ext {w w' : Wf} {c R C tc fc tm bl : Nat} {v : Nat → Int32} (h : ∀ j, j < 867 → w j = w' j) (h4 : tc ≤ 4) : ∀ j, j < 867 → dwx c v R C tc fc tm bl w j = dwx c v R C tc fc tm bl w' j := fun j hj => by
  unfold dwx
  by_cases c1 : c = 116
  · rw [if_pos c1, if_pos c1]
    unfold wadd
    rw [h j hj]
  · rw [if_neg c1, if_neg c1]
    by_cases c2 : c = 103
    · rw [if_pos c2, if_pos c2]
      show (if j = 33 then _ else w j) = (if j = 33 then _ else w' j)
      rw [h j hj]
    · rw [if_neg c2, if_neg c2]
      by_cases c3 : c = 115
      · rw [if_pos c3, if_pos c3]
        exact takf_ext (wpre_ext h) h4 j hj
      · rw [if_neg c3, if_neg c3]
        show (if j = 34 then _ else w j) = (if j = 34 then _ else w' j)
        rw [h j hj]
/-- the row behind the run over the text -/
def exw (ch : Tx) (len R C : Nat) : Nat → Nat → Nat → Nat → Nat → Nat → Wf → Wf
  | 0, _, _, _, _, _, w => w
  | k + 1, p, tc, fc, tm, bl, w => if len ≤ p then w else if (fin ch p).2 = true then w else if (wrF (ch p) (vl ch p)).isSome = true then w else if canF (ch p) (vl ch p 0).toNatClampNeg tc tm bl = true then exw ch len R C k (fin ch p).1 (nxT (ch p) tc) (nxF (ch p) fc) (nxM (ch p) (vl ch p 0).toNatClampNeg tm) (nxB (ch p) (vl ch p 0).toNatClampNeg bl) (dwx (ch p) (vl ch p) R C tc fc tm bl w) else w
theorem exw_s (ch : Tx) (len R C k p tc fc tm bl : Nat) (w : Wf) : exw ch len R C (k + 1) p tc fc tm bl w = if len ≤ p then w else if (fin ch p).2 = true then w else if (wrF (ch p) (vl ch p)).isSome = true then w else if canF (ch p) (vl ch p 0).toNatClampNeg tc tm bl = true then exw ch len R C k (fin ch p).1 (nxT (ch p) tc) (nxF (ch p) fc) (nxM (ch p) (vl ch p 0).toNatClampNeg tm) (nxB (ch p) (vl ch p 0).toNatClampNeg bl) (dwx (ch p) (vl ch p) R C tc fc tm bl w) else w := rfl
def PY : Nat → Nat → Prop := fun x j => x = 127 ∨ x = 130 ∨ (x = 124 ∧ 12 ≤ j)
theorem e_faults {S : St} (hm : MSh S) (a b c : Int32) : ∃ S', f_X8_faults S 124 a b c = some S' ∧ Ex PY S S' ∧ S'.1 124 15 = a ∧ S'.1 124 16 = b ∧ S'.1 124 17 = c ∧ ∀ j, S'.1 127 j = S.1 127 j := by
  unfold f_X8_faults
  rw [ck8 hm, vlt_s, ck8 (mup hm), vlt_s, ck8 (mup (mup hm)), vlt_s]
  refine ⟨_, rfl, ((Ex.rf.upp (Or.inr (Or.inr ⟨rfl, by omega⟩))).upp (Or.inr (Or.inr ⟨rfl, by omega⟩))).upp (Or.inr (Or.inr ⟨rfl, by omega⟩)), ?_, ?_, ?_, fun j => ?_⟩
  · rw [upI_at, if_neg (by omega), upI_at, if_neg (by omega), upI_at, if_pos ⟨rfl, rfl⟩]
  · rw [upI_at, if_neg (by omega), upI_at, if_pos ⟨rfl, rfl⟩]
  · rw [upI_at, if_pos ⟨rfl, rfl⟩]
  · rw [upI_at, if_neg (by omega), upI_at, if_neg (by omega), upI_at, if_neg (by omega)]
theorem l_doneOut {S : St} (hm : MSh S) {r : Int32} (h : S.1 124 16 = r) (hr : ¬ r = 0) (kx : St → Int32 → Option (Int32 × St)) (x : Int32) : ∀ fuel, 0 < fuel → wl2 (f_X8_done_B29 124 kx) fuel S x = kx S x
  | 0, h => by omega
  | fuel + 1, _ => by
    show f_X8_done_B29 124 kx (wl2 (f_X8_done_B29 124 kx) fuel) S x = kx S x
    generalize wl2 (f_X8_done_B29 124 kx) fuel = kk
    unfold f_X8_done_B29
    rw [ck8 hm, if_neg (by rw [h]; exact hr)]
/-- what the model holds behind a run -/
def EM (S : St) (e : Nat × Nat × Nat × Nat) : Prop := S.1 124 16 = nI e.2.1 ∧ (e.2.1 ≠ 0 → S.1 124 15 = nI e.1 ∧ S.1 124 17 = if e.2.1 = 3 then -1000000 else nI e.2.2.1)
theorem l_done {tx : Nat → Int32} {len R C : Nat} (ht : TxO tx len) (kx : St → Int32 → Option (Int32 × St)) : ∀ k fuel (S : St) p tc fc tm bl n w, len ≤ p + k → k < fuel → p < 10000 → MSh S → TM S tx len → S.1 124 12 = nI p → S.1 124 16 = 0 → WR w R C tc fc tm bl → (∀ j, j < 867 → S.1 127 j = w j) → ∃ S', wl2 (f_X8_done_B29 124 kx) fuel S (nI n) = kx S' (nI (exm (chN tx len) len k p tc tm bl n).2.2.2) ∧ Ex PY S S' ∧ EM S' (exm (chN tx len) len k p tc tm bl n) ∧ ∀ j, j < 867 → S'.1 127 j = exw (chN tx len) len R C k p tc fc tm bl w j
  | _, 0, _, _, _, _, _, _, _, _, _, h, _, _, _, _, _, _, _ => by omega
  | 0, fuel + 1, S, p, tc, fc, tm, bl, n, w, hl, _, hp, hm, hc, h12, h16, hr, hv => by
    refine ⟨S, ?_, Ex.rf, ⟨h16, fun h => absurd rfl h⟩, hv⟩
    have l80 := ht.1
    show f_X8_done_B29 124 kx (wl2 (f_X8_done_B29 124 kx) fuel) S (nI n) = kx S (nI n)
    generalize wl2 (f_X8_done_B29 124 kx) fuel = kk
    unfold f_X8_done_B29
    rw [ck8 hm, if_pos h16, ck8 hm, ck8 hm, hc.1, h12, if_pos (by rw [q_le (by omega) (by omega)]; omega)]
  | k + 1, fuel + 1, S, p, tc, fc, tm, bl, n, w, hl, hf, hp, hm, hc, h12, h16, hr, hv => by
    have l80 := ht.1
    show ∃ S', f_X8_done_B29 124 kx (wl2 (f_X8_done_B29 124 kx) fuel) S (nI n) = kx S' _ ∧ _
    generalize hK : wl2 (f_X8_done_B29 124 kx) fuel = kk
    unfold f_X8_done_B29
    rw [ck8 hm, if_pos h16, ck8 hm, ck8 hm, hc.1, h12, exm_s, exw_s]
    by_cases c : len ≤ p
    · rw [if_pos (by rw [q_le (by omega) (by omega)]; exact c), if_pos c, if_pos c]
      exact ⟨S, rfl, Ex.rf, ⟨h16, fun h => absurd rfl h⟩, hv⟩
    · obtain ⟨S1, r1, r2, r3, r4⟩ := e_form hm ht hc (show p < len by omega) h12
      have m1 := hm.ex r2
      have hle := chN_le ht p
      have hfl := fin_le (chN tx len) p
      have x1 : Ex PY S S1 := r2.wk (fun x j q => by unfold PQ at q; unfold PY; omega)
      have v1 : ∀ j, j < 867 → S1.1 127 j = w j := fun j hj => by rw [r2.2 _ _ (by unfold PQ; omega)]; exact hv j hj
      have g16 : ∀ j, S1.1 127 j = S.1 127 j := fun j => r2.2 _ _ (by unfold PQ; omega)
      rw [if_neg (by rw [q_le (by omega) (by omega)]; exact c), if_neg c, if_neg c, ck8 hm, ck8 hm, r1, bnd2_s, ck8 m1]
      have h14 := r3.2
      cases hfi : (fin (chN tx len) p).2 with
      | true =>
        rw [hfi, if_pos rfl] at h14
        obtain ⟨S2, t1, t2, t3, t4, t5, t6⟩ := e_faults m1 (nI p) 1 (nI ((fin (chN tx len) p).1 - p))
        have m2 := m1.ex t2
        rw [if_neg (by rw [h14]; exact no_m (by omega)), if_pos rfl, if_pos rfl]
        unfold f_X8_done_J76
        rw [ck8 m1, if_neg (by rw [h14]; exact no_m (by omega)), ck8 m1, ck8 m1, h14, q_sub hfl.1, t1, bnd_s, ← hK, l_doneOut m2 t4 (by decide) kx _ fuel (by omega)]
        exact ⟨S2, rfl, x1.tr t2, ⟨t4, fun _ => ⟨t3, t5⟩⟩, fun j hj => by rw [t6]; exact v1 j hj⟩
      | false =>
        rw [hfi, if_neg Bool.false_ne_true] at h14
        have hko := (fin_ok hfi).1
        have r4' := r4 hfi
        have hwi := e_wrongIn m1 hko r4'
        rw [if_pos h14, ck8 m1, hwi, bnd_s, if_neg Bool.false_ne_true, if_neg Bool.false_ne_true]
        unfold f_X8_done_J76
        rw [ck8 m1, if_pos h14]
        cases hw : wrF (chN tx len p) (vl (chN tx len) p) with
        | some x =>
          have hx := wrF_lt hw
          obtain ⟨S2, t1, t2, t3, t4, t5, t6⟩ := e_faults m1 (nI p) 2 (nI x)
          have m2 := m1.ex t2
          rw [if_neg (show ¬ enc8 (some x) = -1000000 from no_m (by omega)), ck8 m1, show enc8 (some x) = nI x from rfl, t1, bnd_s, ← hK, l_doneOut m2 t4 (by decide) kx _ fuel (by omega), if_pos (show (some x).isSome = true from rfl), if_pos (show (some x).isSome = true from rfl)]
          exact ⟨S2, rfl, x1.tr t2, ⟨t4, fun _ => ⟨t3, t5⟩⟩, fun j hj => by rw [t6]; exact v1 j hj⟩
        | none =>
          have hr1 : WR (S1.1 127) R C tc fc tm bl := hr.cong v1
          have hcan := e_can m1 hko r4' hw hr1
          have k0 : ∀ {β : Type} (o : Option β), chk (ina S1 10 130 0) o = o := fun o => ck130 m1 (j := 0) (by omega) o
          rw [if_pos (show enc8 none = -1000000 from rfl), if_neg (show ¬ (none : Option Nat).isSome = true from by decide), if_neg (show ¬ (none : Option Nat).isSome = true from by decide), ck8 m1, ck8 m1, m1.e13, k0, m1.e3, C0, hcan, bnd_s]
          cases hcn : canF (chN tx len p) (vl (chN tx len) p 0).toNatClampNeg tc tm bl with
          | false =>
            obtain ⟨S2, t1, t2, t3, t4, t5, t6⟩ := e_faults m1 (nI p) 3 (-1000000)
            have m2 := m1.ex t2
            rw [if_pos (show bI false = 0 from rfl), ck8 m1, t1, bnd_s, ← hK, l_doneOut m2 t4 (by decide) kx _ fuel (by omega), if_neg Bool.false_ne_true, if_neg Bool.false_ne_true]
            exact ⟨S2, rfl, x1.tr t2, ⟨t4, fun _ => ⟨t3, t5⟩⟩, fun j hj => by rw [t6]; exact v1 j hj⟩
          | true =>
            obtain ⟨S2, d1, d2, d3⟩ := e_does m1 hko r4' hw hr1 hcn
            have m2 := m1.ex d2
            have x2 : Ex PY S S2 := x1.tr (d2.wk (fun x j q => Or.inl q))
            have hp1 := hfl.2.2 hfi
            obtain ⟨S3, z1, z2, z3, z4⟩ := l_done (R := R) (C := C) ht kx k fuel S2 (fin (chN tx len) p).1 (nxT (chN tx len p) tc) (nxF (chN tx len p) fc) (nxM (chN tx len p) (vl (chN tx len) p 0).toNatClampNeg tm) (nxB (chN tx len p) (vl (chN tx len) p 0).toNatClampNeg bl) (n + 1) (dwx (chN tx len p) (vl (chN tx len) p) R C tc fc tm bl w) (by omega) (by omega) (by omega) m2 (hc.ex x2 (by unfold PY; omega) (fun j => by unfold PY; omega)) (by rw [d2.2 _ _ (by omega)]; exact r3.1) (by rw [d2.2 _ _ (by omega), r2.2 _ _ (by unfold PQ; omega)]; exact h16) (hr.next hko hw hcn) (fun j hj => by rw [d3 j hj]; exact dwx_ext v1 hr.2.2.1.2 j hj)
            rw [if_neg (show ¬ bI true = 0 from by decide), ck8 m1, ck8 m1, d1, bnd_s, L1, q_add, ← hK, if_pos rfl, if_pos rfl, z1]
            exact ⟨S3, rfl, x2.tr z2, z3, z4⟩
