theorem q_div {a b : Nat} (ha : a < 2147483648) (hb : b < 2147483648) : nI a / nI b = nI (a / b) := by
  have hq : a / b < 2147483648 := Nat.lt_of_le_of_lt (Nat.div_le_self _ _) ha
  rw [← Int32.toInt_inj, Int32.toInt_div_of_ne_right _ _ (by
    intro h
    have := congrArg Int32.toInt h
    rw [q_int hb] at this
    have e : (-1 : Int32).toInt = -1 := by decide
    omega), q_int ha, q_int hb, q_int hq, Int.tdiv_eq_ediv_of_nonneg (by omega)]
  rfl
/-- between two numbers -/
def Rg (x : Int32) (lo hi : Nat) : Prop := ∃ n : Nat, x = nI n ∧ lo ≤ n ∧ n ≤ hi
theorem q_dim {x : Int32} (h : Rg x 0 255) : x * 100 / 100 = x := by
  obtain ⟨n, rfl, -, h2⟩ := h
  rw [L100, q_mul, q_div (by omega) (by omega), Nat.mul_div_cancel _ (by omega)]
theorem raw_rg {w : Wf} {r c : Nat} {t : Int32} (h4 : Rg (w 4) 0 255) : ∀ {tc : Nat}, (∀ q, q < tc → Rg (w (9 + 6 * q + 5)) 0 255) → Rg (raw w r c t tc) 0 255
  | 0, _ => h4
  | q + 1, h => by
    unfold raw
    split
    · exact h q (by omega)
    · exact raw_rg h4 (fun i hi => h i (by omega))
theorem RT.exP {P : Nat → Nat → Prop} {S S' : St} {k tc : Nat} {w : Wf} (h : RT S k w tc) (he : Ex P S S') (hd : ∀ d j, d ≤ 9 → ¬ P (k + d) j) : RT S' k w tc := by
  refine ⟨fun j hj => ?_, h.2.1, ?_, fun q hq j hj => ?_⟩
  · rw [he.2 _ _ (hd 1 j (by omega))]; exact h.1 j hj
  · rw [he.2 _ _ (show ¬ P k 2 from hd 0 2 (by omega))]; exact h.2.2.1
  · have := h.2.1
    rw [he.2 _ _ (by have := hd (6 + q) j (by omega); rw [← Nat.add_assoc] at this; exact this)]; exact h.2.2.2 q hq j hj
/-- a frame -/
def Fr (S : St) (F : Nat) : Prop := kd F = 0 ∧ 4 ≤ F ∧ F < 124 ∧ S.2.1 F 2 = F + 1 ∧ Ar (F + 1) 160
theorem Fr.ex {P : Nat → Nat → Prop} {S S' : St} {F : Nat} (h : Fr S F) (he : Ex P S S') : Fr S' F := by
  unfold Fr at *
  rw [he.r]
  exact h
theorem Fr.ne {S : St} {F a : Nat} (h : Fr S F) (ha : isL a) : F ≠ a ∧ F + 1 ≠ a := by
  constructor
  · rintro rfl
    have h1 := h.1
    rcases ha with rfl | rfl | rfl <;> exact absurd h1 (by decide)
  · rintro rfl
    have h1 := h.2.2.2.2.2.1
    rcases ha with e | e | e <;> rw [e] at h1 <;> exact absurd h1 (by decide)
theorem Fr.sc {S : St} {F k : Nat} (h : Fr S F) (hk : Sc k) : ∀ d, d ≤ 9 → k + d ≠ F ∧ k + d ≠ F + 1 := by
  intro d hd
  have h1 := h.1
  have h2 := h.2.2.2.2.2.1
  have all : ∀ k, Sc k → ∀ d, d ≤ 9 → kd (k + d) ≠ 0 ∧ ln (k + d) ≠ 160 := by
    intro k hk
    rcases hk with rfl | rfl | rfl | rfl | rfl <;> decide +kernel
  have := all k hk d hd
  constructor
  · intro e; rw [e] at this; exact this.1 h1
  · intro e; rw [e] at this; exact this.2 h2
theorem e_keepRow {S : St} (hn : S.2.2 = 124) {F a r : Nat} (hF : Fr S F) (ha : isL a) (hr : r < 10) (p : Int32) : ∃ S', f_X0_keepRow S F (nI r) a p = some S' ∧ Ex (fun x _ => x = F + 1) S S' ∧ ∀ j, j < 160 → S'.1 (F + 1) j = if 16 * r ≤ j ∧ j < 16 * r + 16 then S.1 a (j - 16 * r) * p / 100 else S.1 (F + 1) j := by
  unfold f_X0_keepRow
  have hA := ha.ar
  have hB := hF.2.2.2.2
  have hne := hF.ne ha
  rw [L16, q_mul]
  obtain ⟨S', h1, h2⟩ := wl2_inv (F := f_X0_keepRow_B9 F a p (nI (r * 16)) (fun S_3 => some S_3)) (kx := fun S_3 => some S_3) (n := 16) (fun i S' => Ex (fun x _ => x = F + 1) S S' ∧ ∀ j, j < 160 → S'.1 (F + 1) j = if 16 * r ≤ j ∧ j < 16 * r + i then S.1 a (j - 16 * r) * p / 100 else S.1 (F + 1) j) (fun i S1 kk hi hP => by
    unfold f_X0_keepRow_B9
    have hn1 : S1.2.2 = 124 := by rw [hP.1.n, hn]
    have hF1 := hF.ex hP.1
    have okF : okc S1 0 F := okS hn1 hF.1 hF.2.2.1
    simp only [hF1.2.2.2.1, lnA hA, lnA hB, q_add]
    rw [ck_t (okA hn1 hA), if_neg (by rw [q_le (by omega) (by omega)]; omega), if_neg (by rw [L0, q_lt (by omega) (by omega)]; omega), ck_t okF, ck_t (okA hn1 hB), if_neg (by rw [q_le (by omega) (by omega)]; omega), ck_t okF, ckA hn1 hA hi, q_cl (by omega), e_dimmed, bnd_s, cwA hn1 hB (by omega), q_cl (by omega), vlt_s, L1, q_add]
    refine ⟨_, ⟨hP.1.tr (Ex.up rfl), fun j hj => ?_⟩, rfl⟩
    rw [upI_at]
    by_cases hj2 : j = r * 16 + i
    · subst hj2
      rw [if_pos ⟨rfl, rfl⟩, if_pos (by omega), hP.1.2 a _ (Ne.symm hne.2), show r * 16 + i - 16 * r = i by omega]
    · rw [if_neg (by omega), hP.2 j hj]
      have : (16 * r ≤ j ∧ j < 16 * r + i) = (16 * r ≤ j ∧ j < 16 * r + (i + 1)) := by
        apply propext; omega
      simp only [this]) (fun S1 kk hP => by
    unfold f_X0_keepRow_B9
    have hn1 : S1.2.2 = 124 := by rw [hP.1.n, hn]
    simp only [lnA hA]
    rw [ck_t (okA hn1 hA), if_pos (by rw [q_le (by omega) (by omega)]; omega)]) 16 0 FU S rfl (by decide) ⟨Ex.rf, fun j hj => by rw [if_neg (by omega)]⟩
  exact ⟨S', h2, h1.1, h1.2⟩
theorem e_percentAt {S : St} (h : CSh S) {k tc : Nat} {w : Wf} (hk : Sc k) (hw : RT S k w tc) (t : Int32) : f_X3_percentAt S k t = some (if dkb w t = true then w 7 else 100) := by
  unfold f_X3_percentAt
  have hd := hk.kds
  have hbd := hd.2.2.2.2.2.2.2.2.2.2.2.2.2
  have ok : okc S 3 k := okS h.n hd.1 (by omega)
  rw [ck_t ok, L5, c_setting h hk (by omega), bnd_s, ck_t ok, L6, c_setting h hk (by omega), bnd_s, hw.1 5 (by omega), hw.1 6 (by omega)]
  unfold f_X7_isDark dkb
  by_cases h5 : w 5 = 0
  · rw [if_pos h5, bnd_s, if_pos rfl]
    simp [h5]
  · rw [if_neg h5, ck_t h5]
    by_cases h6 : w 6 ≤ t - t / w 5 * w 5
    · rw [if_pos h6, bnd_s, if_pos rfl]
      simp [h5, Int32.not_lt.mpr h6]
    · rw [if_neg h6, bnd_s, if_neg (by decide), ck_t ok, L7, c_setting h hk (by omega), bnd_s, hw.1 7 (by omega)]
      simp [h5, Int32.not_le.mp h6]
theorem e_timeOfRow {S : St} (h : CSh S) {k tc F : Nat} {w : Wf} (hk : Sc k) (hw : RT S k w tc) (hF : Fr S F) (x : Int32) : f_X3_timeOfRow S k F x = some (S.1 F 0 + x * w 2) := by
  unfold f_X3_timeOfRow
  have hd := hk.kds
  have hbd := hd.2.2.2.2.2.2.2.2.2.2.2.2.2
  rw [ck_t (okS h.n hF.1 hF.2.2.1), ck_t (okS h.n hd.1 (by omega)), L2, c_setting h hk (by omega), bnd_s, hw.1 2 (by omega)]
theorem sh_dim {w : Wf} {r c tc : Nat} {t : Int32} (hr : Rg (raw w r c t tc) 0 255) : raw w r c t tc * (if dkb w t = true then w 7 else 100) / 100 = sh w tc r c t := by
  unfold sh
  by_cases h : dkb w t = true
  · rw [if_pos h, if_pos h]
  · rw [if_neg h, if_neg h, q_dim hr]
theorem mask_low {b R i : Nat} (hi : i < R) : (b &&& (1 <<< R - 1)).testBit i = b.testBit i := by
  rw [Nat.testBit_and, Nat.one_shiftLeft, Nat.testBit_two_pow_sub_one, decide_eq_true hi, Bool.and_true]
/-- what taking a frame may change -/
def PF (a F : Nat) : Nat → Nat → Prop := fun x j => x = a ∨ (x = F ∧ (j = 0 ∨ j = 1)) ∨ x = F + 1
theorem PF.sc {S : St} {a F k : Nat} (hF : Fr S F) (ha : isL a) (hk : Sc k) : ∀ d j, d ≤ 9 → ¬ PF a F (k + d) j := by
  intro d j hd h
  have h1 := ha.ne hk d (by omega)
  have h2 := hF.sc hk d hd
  rcases h with h | h | h
  · exact h1 h
  · exact h2.1 h.1
  · exact h2.2 h
theorem e_photograph {S : St} (h : CSh S) {k F a R tc bl : Nat} {w : Wf} {t0 : Int32} (hk : Sc k) (hF : Fr S F) (ha : isL a) (hw : RT S k w tc) (hR : w 0 = nI R) (hR10 : R ≤ 10) (hbl : S.1 k 7 = nI bl) (hb : bl < 1024) (h4 : Rg (w 4) 0 255) (h5 : ∀ q, q < tc → Rg (w (9 + 6 * q + 5)) 0 255) (hBT : ∀ r, r < R → BT w tc (t0 + nI r * w 2)) : ∃ S', f_X3_photograph S k F t0 a = some S' ∧ Ex (PF a F) S S' ∧ S'.1 F 0 = t0 ∧ S'.1 F 1 = nI (bl &&& (1 <<< R - 1)) ∧ ∀ r, r < R → bl.testBit r = false → ∀ c, c < 16 → S'.1 (F + 1) (16 * r + c) = sh w tc r c (t0 + nI r * w 2) := by
  unfold f_X3_photograph
  have hd := hk.kds
  have hbd := hd.2.2.2.2.2.2.2.2.2.2.2.2.2
  have hne := hF.ne ha
  have hsc := PF.sc hF ha hk
  have ok : ∀ S' : St, S'.2.2 = 124 → okc S' 3 k := fun S' q => okS q hd.1 (by omega)
  have okF : ∀ S' : St, S'.2.2 = 124 → okc S' 0 F := fun S' q => okS q hF.1 hF.2.2.1
  have kF : k ≠ F := (hF.sc hk 0 (by omega)).1
  rw [ck_t (ok S h.n), L0, c_setting h hk (by omega), bnd_s, hw.1 0 (by omega), hR, ck_t (okF S h.n), vlt_s, ck_t (ok _ (by rw [upI_n]; exact h.n)), ck_t (okF _ (by rw [upI_n]; exact h.n)), vlt_s, upI_at, if_neg (by omega), hbl]
  have hsh : (1 : Int32) <<< (nI R &&& 31) = nI (1 <<< R) := q_shl 1 (by omega)
  have em : nI bl &&& (nI (1 <<< R) - (1 : Int32)) = nI (bl &&& (1 <<< R - 1)) := by
    have hp : 1 ≤ 1 <<< R := by
      rw [Nat.one_shiftLeft]; exact Nat.one_le_two_pow
    rw [L1, q_sub hp, q_and]
  rw [hsh, em]
  obtain ⟨S', h1, h2⟩ := wl2_inv (F := f_X3_photograph_B30 k F a (nI R) (fun S_9 => some S_9)) (kx := fun S_9 => some S_9) (n := R) (fun i S' => Ex (PF a F) S S' ∧ S'.1 F 0 = t0 ∧ S'.1 F 1 = nI (bl &&& (1 <<< R - 1)) ∧ ∀ r, r < i → bl.testBit r = false → ∀ c, c < 16 → S'.1 (F + 1) (16 * r + c) = sh w tc r c (t0 + nI r * w 2)) (fun i S1 kk hi hP => by
    unfold f_X3_photograph_B30
    have hc1 := h.ex hP.1
    have hF1 := hF.ex hP.1
    have hw1 := hw.exP hP.1 hsc
    have e7 : S1.1 k 7 = nI bl := by rw [hP.1.2 k 7 (hsc 0 7 (by omega))]; exact hbl
    rw [if_neg (by rw [q_le (by omega) (by omega)]; omega), ck_t (ok S1 hc1.n), e7, e_holds (by omega) (by omega), bnd_s]
    by_cases hbit : bl.testBit i = true
    · rw [if_pos hbit, if_neg (by decide), L1, q_add]
      refine ⟨S1, ⟨hP.1, hP.2.1, hP.2.2.1, fun r hr hrb c hc => ?_⟩, rfl⟩
      rcases Nat.lt_or_ge r i with q | q
      · exact hP.2.2.2 r q hrb c hc
      · exfalso
        have : r = i := by omega
        subst this
        rw [hbit] at hrb
        cases hrb
    · rw [if_neg hbit, if_pos rfl, ck_t (ok S1 hc1.n), e_timeOfRow hc1 hk hw1 hF1, bnd_s, ck_t (ok S1 hc1.n), hP.2.1]
      have hB := hBT i hi
      obtain ⟨S2, p1, p2, p3⟩ := e_paint hc1 (m := 0) (x := -1) hk ha (show i < 10 by omega) hw1 (fun q hq _ => hB q hq) (by omega)
      have hc2 := hc1.ex p2
      have hw2 := hw1.ex p2 (ha.ne hk)
      have hF2 := hF1.ex p2
      rw [show (-1 : Int32) = -1 from rfl, L0, p1, bnd_s, ck_t (ok S2 hc2.n), e_percentAt hc2 hk hw2, bnd_s, ck_t (okF S2 hc2.n)]
      obtain ⟨S3, g1, g2, g3⟩ := e_keepRow hc2.n hF2 ha (show i < 10 by omega) (if dkb w (t0 + nI i * w 2) = true then w 7 else 100)
      rw [g1, bnd_s, L1, q_add]
      have x2 : Ex (PF a F) S1 S2 := p2.wk (fun x j q => Or.inl q)
      have x3 : Ex (PF a F) S2 S3 := g2.wk (fun x j q => Or.inr (Or.inr q))
      have nF : ∀ j, S3.1 F j = S1.1 F j := by
        intro j
        rw [g2.2 F j (by omega), p2.2 F j hne.1]
      refine ⟨S3, ⟨(hP.1.tr x2).tr x3, by rw [nF]; exact hP.2.1, by rw [nF]; exact hP.2.2.1, fun r hr hrb c hc => ?_⟩, rfl⟩
      rw [g3 (16 * r + c) (by omega)]
      rcases Nat.lt_or_ge r i with q | q
      · rw [if_neg (by omega), p2.2 (F + 1) _ hne.2]
        exact hP.2.2.2 r q hrb c hc
      · have : r = i := by omega
        subst this
        rw [if_pos (by omega), show 16 * r + c - 16 * r = c by omega, p3 c hc, rawx_raw (fun q hq => by
          intro e
          have := congrArg Int32.toInt e
          rw [q_int (by have := hw.2.1; omega)] at this
          have e2 : (-1 : Int32).toInt = -1 := by decide
          omega)]
        exact sh_dim (raw_rg h4 h5)) (fun S1 kk hP => by
    unfold f_X3_photograph_B30
    rw [if_pos (Int32.le_refl _)]) R 0 FU (upI (upI S F 0 t0) F 1 (nI (bl &&& (1 <<< R - 1)))) (by omega) (by show R < 1000000; omega) ⟨(Ex.up (Or.inr (Or.inl ⟨rfl, Or.inl rfl⟩))).tr (Ex.up (Or.inr (Or.inl ⟨rfl, Or.inr rfl⟩))), by rw [upI_at, if_neg (by omega), upI_at, if_pos ⟨rfl, rfl⟩], by rw [upI_at, if_pos ⟨rfl, rfl⟩], fun r hr => by omega⟩
  exact ⟨S', h2, h1.1, h1.2.1, h1.2.2.1, h1.2.2.2⟩

