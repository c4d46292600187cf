/-! A FRAME FORGOTTEN LEAVES THE OTHERS AS THEY ARE; a change is undone -/
/-- what is folded of a frame -/
def fst1 (w : Wf) (f : Nat) (x : Int64) : Int64 := (31 : Int64) * ((31 : Int64) * ((31 : Int64) * ((31 : Int64) * x + Int32.toInt64 (w (37 + 162 * f))) + Int32.toInt64 (nI (fbo w f &&& (1 <<< Rw w - 1)))) + Int32.toInt64 (nI (ecs w (Cw w) f (fbo w f) (Rw w)))) + Int32.toInt64 (if (fbo w f).testBit 0 = true then (-10000004) else w (39 + 162 * f + 1))
def fold1 (w : Wf) (P : Nat → Bool) : Nat → Int64
  | 0 => 7
  | n + 1 => if P n = true then fold1 w P n else fst1 w n (fold1 w P n)
theorem fold1_s (w : Wf) (P : Nat → Bool) (n : Nat) : fold1 w P (n + 1) = if P n = true then fold1 w P n else fst1 w n (fold1 w P n) := rfl
theorem fold1_ext {w : Wf} {P Q : Nat → Bool} : ∀ n, (∀ j, j < n → P j = Q j) → fold1 w P n = fold1 w Q n
  | 0, _ => rfl
  | n + 1, h => by rw [fold1_s, fold1_s, fold1_ext n (fun j hj => h j (by omega)), h n (by omega)]
section KC
variable {S : St} {w : Wf} {st : Nat} {h : Nat → Wf}
theorem e_folded (k : Kc S w st h) (a1 : Int32) : f_L_folded S 4 a1 = some (fold1 w (fun f => decide (nI f = a1)) (fcw w)) := by
  have hs := k.cs
  have hR := k.rn.2.2.1
  have hC := k.rn.2.2.2.1
  have f5 := k.rn.2.2.2.2.2.2.2.1.2.2
  unfold f_L_folded
  refine wl2_eq (kx := fun y => some y) (n := fcw w) (fun i => fold1 w (fun f => decide (nI f = a1)) i) 0 rfl rfl (by omega) (by omega) (fun f kk _ hf => ?_) (fun kk => ?_)
  · unfold f_L_folded_B7
    rw [ck7 hs, k_count1 k, bnd_s, if_neg (by rw [q_le (by omega) (by omega)]; omega), fold1_s]
    by_cases c : nI f = a1
    · rw [if_pos c, if_pos (by rw [decide_eq_true_eq]; exact c), L1, q_add]
    · have ep : f_X7_pixel S 4 (nI f) 0 1 = some (if (fbo w f).testBit 0 = true then (-10000004) else w (39 + 162 * f + 1)) := by
        by_cases hb : (fbo w f).testBit 0 = true
        · rw [if_pos hb]
          exact k_pixelNo k hf (r := 0) (c := 1) (by omega) (by omega) hb
        · rw [if_neg hb]
          exact k_pixel k hf (r := 0) (c := 1) (by omega) (by omega) (by simpa using hb)
      rw [if_neg c, if_neg (by rw [decide_eq_true_eq]; exact c), ck7 hs, k_frame0 k hf, bnd_s, ck7 hs, k_frame1 k hf, bnd_s, ck7 hs, k_frame2 k hf, bnd_s, ck7 hs, ep, bnd_s, L1, q_add]
      rfl
  · unfold f_L_folded_B7
    rw [ck7 hs, k_count1 k, bnd_s, if_pos (Int32.le_refl _)]
theorem ecs_cong {w' : Wf} {f f' C fb : Nat} (hC : C ≤ 16) (h3 : w' 3 = w 3) (hv : ∀ j, j < 162 → fv1 w' f' j = fv1 w f j) : ∀ R, R ≤ 10 → ecs w' C f' fb R = ecs w C f fb R
  | 0, _ => rfl
  | R + 1, hR => by
    show ecs w' C f' fb R + pc (edf w' C f' R fb) 17 = ecs w C f fb R + pc (edf w C f R fb) 17
    rw [ecs_cong hC h3 hv R (by omega)]
    congr 2
    unfold edf
    by_cases hb : fb.testBit R = true
    · rw [if_pos hb, if_pos hb]
    · rw [if_neg hb, if_neg hb]
      unfold edm
      rw [h3]
      refine mk_ext (fun c hc => ?_)
      show (decide (1 ≤ c) && dfr (w 3) (fv1 w' f' (2 + 16 * R + c)) (fv1 w' f' (2 + 16 * R + (c - 1)))) = (decide (1 ≤ c) && dfr (w 3) (fv1 w f (2 + 16 * R + c)) (fv1 w f (2 + 16 * R + (c - 1))))
      rw [hv (2 + 16 * R + c) (by omega), hv (2 + 16 * R + (c - 1)) (by omega)]
theorem fst1_cong {w' : Wf} {f f' : Nat} (hR : Rw w ≤ 10) (hC : Cw w ≤ 16) (h0 : w' 0 = w 0) (h1 : w' 1 = w 1) (h3 : w' 3 = w 3) (hv : ∀ j, j < 162 → fv1 w' f' j = fv1 w f j) (x : Int64) : fst1 w' f' x = fst1 w f x := by
  have eR : Rw w' = Rw w := by
    unfold Rw
    rw [h0]
  have eC : Cw w' = Cw w := by
    unfold Cw
    rw [h1]
  have eb : fbo w' f' = fbo w f := by
    unfold fbo
    rw [hv 1 (by omega)]
  have e0 : w' (37 + 162 * f') = w (37 + 162 * f) := hv 0 (by omega)
  have e3 : w' (39 + 162 * f' + 1) = w (39 + 162 * f + 1) := by
    have := hv 3 (by omega)
    unfold fv1 at this
    rw [show 39 + 162 * f' + 1 = 37 + 162 * f' + 3 by omega, show 39 + 162 * f + 1 = 37 + 162 * f + 3 by omega]
    exact this
  unfold fst1
  rw [eR, eC, eb, e0, e3, ecs_cong hC h3 hv (Rw w) hR]
theorem wdrop_lo {i fc j : Nat} (hj : j < 36) : wdrop w i fc j = w j := by
  unfold wdrop
  rw [if_neg (by omega), if_neg (by omega)]
theorem wdrop_fv {i fc f j : Nat} (hf : f < fc - 1) (hj : j < 162) : fv1 (wdrop w i fc) f j = fv1 w (if f < i then f else f + 1) j := by
  unfold fv1 wdrop
  rw [if_neg (by omega)]
  by_cases c : f < i
  · rw [if_pos c, if_neg (by omega)]
  · rw [if_neg c, if_pos (by omega)]
    congr 1
    omega
theorem fold_drop (k : Kc S w st h) {i : Nat} (hi : i < fcw w) : ∀ n, n ≤ fcw w → fold1 w (fun f => decide (nI f = nI i)) n = if n ≤ i then fold1 (wdrop w i (fcw w)) (fun f => decide (nI f = -1)) n else fold1 (wdrop w i (fcw w)) (fun f => decide (nI f = -1)) (n - 1)
  | 0, _ => by rw [if_pos (by omega)]; rfl
  | n + 1, hn => by
    have hR := k.rn.2.2.1.2.2
    have hC := k.rn.2.2.2.1.2.2
    have f5 := k.rn.2.2.2.2.2.2.2.1.2.2
    have ih := fold_drop k hi n (by omega)
    have nev : ∀ m, m ≤ 5 → ¬ decide (nI m = -1) = true := fun m hm => by
      have hm6 : m = 0 ∨ m = 1 ∨ m = 2 ∨ m = 3 ∨ m = 4 ∨ m = 5 := by omega
      rcases hm6 with rfl | rfl | rfl | rfl | rfl | rfl <;> decide
    have cong : ∀ f, f < fcw w - 1 → ∀ x, fst1 (wdrop w i (fcw w)) f x = fst1 w (if f < i then f else f + 1) x := fun f hf x => fst1_cong hR hC (wdrop_lo (by omega)) (wdrop_lo (by omega)) (wdrop_lo (by omega)) (fun j hj => wdrop_fv hf hj) x
    rw [fold1_s]
    by_cases c : n = i
    · subst c
      rw [if_pos (by rw [decide_eq_true_eq]), ih, if_pos (Nat.le_refl _), if_neg (by omega), show n + 1 - 1 = n by omega]
    · rw [if_neg (by rw [decide_eq_true_eq, q_eq (by omega) (by omega)]; exact c), ih]
      by_cases c2 : n < i
      · rw [if_pos (by omega), if_pos (by omega), fold1_s, if_neg (nev n (by omega)), cong n (by omega), if_pos c2]
      · obtain ⟨m, rfl⟩ : ∃ m, n = m + 1 := ⟨n - 1, by omega⟩
        rw [if_neg (by omega), if_neg (by omega), show m + 1 + 1 - 1 = m + 1 by omega, show m + 1 - 1 = m by omega, fold1_s, if_neg (nev m (by omega)), cong m (by omega), if_neg (by omega)]
theorem lg_cmp_self (x : Int64) : lg_cmp x x = 0 := by
  unfold lg_cmp
  rw [if_neg (fun z => Int64.lt_irrefl z), if_pos rfl]
theorem Kc.st4 (k : Kc S w st h) : st ≤ 4 := by
  obtain ⟨⟨len, tx, c⟩, -⟩ := k
  exact c.2.2.2.1.1
theorem hps_top : hps st h w (hst st - 1) = w := by
  unfold hps hst
  by_cases c : st = 4
  · rw [if_pos c, if_pos c, if_neg (by omega)]
  · rw [if_neg c, if_neg c, if_pos (by omega)]
theorem l_forgets (k : Kc S w st h) {i : Nat} (hi : i < 6) : (i < fcw w ∧ ∃ S2, f_L_forgets S 4 (nI i) = some (1, S2) ∧ Kc S2 w (hst st - 1) (hps st h w)) ∨ (¬ i < fcw w ∧ f_L_forgets S 4 (nI i) = some (1, S)) := by
  have hs := k.cs
  have f5 := k.rn.2.2.2.2.2.2.2.1.2.2
  have s4 := k.st4
  have hst4 : hst st ≤ 4 ∧ 1 ≤ hst st := by
    unfold hst
    split <;> omega
  by_cases c : i < fcw w
  · left
    refine ⟨c, ?_⟩
    obtain ⟨S1, g1, k1⟩ := k_forget k c
    have s1 := k1.cs
    obtain ⟨S2, g2, k2⟩ := k_undo k1 (by omega)
    rw [hps_top] at k2
    have s2 := k2.cs
    refine ⟨S2, ?_, k2⟩
    have efc : fcw (wdrop w i (fcw w)) = fcw w - 1 := by
      show (wdrop w i (fcw w) 36).toNatClampNeg = _
      unfold wdrop
      rw [if_pos rfl, q_cl (by omega)]
    have efold : fold1 (wdrop w i (fcw w)) (fun f => decide (nI f = -1)) (fcw w - 1) = fold1 w (fun f => decide (nI f = nI i)) (fcw w) := by
      have := fold_drop k c (fcw w) (Nat.le_refl _)
      rw [if_neg (by omega)] at this
      exact this.symm
    have es : nI (fcw w) - 1 = nI (fcw w - 1) := by rw [L1, q_sub (by omega)]
    unfold f_L_forgets
    rw [ck7 hs, k_count1 k, bnd_s, if_pos (by rw [q_lt (by omega) (by omega)]; exact c), e_folded k, bnd_s, e_folded k, bnd_s, ck7 hs, g1, bnd2_s, es, if_pos rfl, e_folded k1, bnd_s, efc, efold, if_pos (lg_cmp_self _)]
    unfold f_L_forgets_J75
    rw [if_neg (by decide), ck7 s1, g2, bnd2_s, if_neg (show ¬ nI (hst st - 1) < 0 by rw [L0, q_lt (by omega) (by omega)]; omega), e_folded k2, bnd_s, if_pos (lg_cmp_self _), ck7 s2, k_count1 k2, bnd_s, if_pos rfl]
  · right
    refine ⟨c, ?_⟩
    have g1 := k_forgetNo k (x := nI i) (by
      rintro ⟨-, z⟩
      rw [iI_nat, iI_nat, show (1 : Int32) = iI 1 from rfl, iI_sub, Int32.le_iff_toInt_le, iI_int (by omega) (by omega), iI_int (by omega) (by omega)] at z
      omega)
    unfold f_L_forgets
    rw [ck7 hs, k_count1 k, bnd_s, if_neg (by rw [q_lt (by omega) (by omega)]; exact c), ck7 hs, g1, bnd2_s, if_pos rfl, ck7 hs, k_count1 k, bnd_s, if_pos rfl]
end KC
