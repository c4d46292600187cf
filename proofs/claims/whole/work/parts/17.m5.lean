abbrev rm_X8_copies : Room := { frames := 0, cells := 0, slots := 0, locals := 0 }
def f_X8_copies_B3 (a0 : Nat) (a1 : Int32) (a2 : Nat) (a3 : Int32) (kx3 : St → Option St) (k3 : St → Int32 → Option St) (S : St) (x4 : Int32) : Option St :=
  (if (867 : Int32) ≤ x4 then
  (kx3 S)
  else (chk (ina S 10 a0 (a1 + x4))
  (chk (inw S 10 a2 (a3 + x4)) (vlt (upI S a2 (a3 + x4).toNatClampNeg (S.1 a0 (a1 + x4).toNatClampNeg)) fun S_1 =>
  (k3 S_1 (x4 + 1))))))
set_option maxRecDepth 100000 in
set_option maxHeartbeats 4000000 in
theorem w_X8_copies_B3 {X : CT} {g : GG} (C : CX X g cX8_copies RX8 none 5 rm_X8_copies) (a0 : Nat) (a1 : Int32) (a2 : Nat) (a3 : Int32) (kx3 : St → Option St) (hkx3 : ∀ (S : St), J X g (Qm X g aU pU) (cw (0, 0)) 29 [] [] S (kx3 S)) : ∀ (n : Nat) (S : St) (x4 : Int32), J X g (Qm X g aU pU) (cw (0, 0)) 3 [(0, rv g a0), (1, .int a1), (2, rv g a2), (3, .int a3), (4, .int x4)] [] S (wl2 (f_X8_copies_B3 a0 a1 a2 a3 kx3) n S x4) := by
  refine J.loop2 (lvf := fun (S : St) (x4 : Int32) => [(0, rv g a0), (1, .int a1), (2, rv g a2), (3, .int a3), (4, .int x4)]) (Sf := fun (S : St) (x4 : Int32) => S) ?_
  intro k3 hk3 S x4
  show J X g _ _ 3 [(0, rv g a0), (1, .int a1), (2, rv g a2), (3, .int a3), (4, .int x4)] [] S (f_X8_copies_B3 a0 a1 a2 a3 kx3 k3 S x4)
  unfold f_X8_copies_B3
  refine J.iload (pc := 3) C dX8_copies_3 rfl ?_
  refine J.sipush (pc := 5) C dX8_copies_5 ks_867 ?_
  refine J.icmp_ge (pc := 8) C (tgt := 29) dX8_copies_8 rfl ?_ ?_
  · exact J.pick [] rfl (hkx3 _)
  · refine J.aload_n (pc := 11) C (x := a2) dX8_copies_11 rfl rfl ?_
    refine J.iload_n (pc := 12) C dX8_copies_12 rfl rfl ?_
    refine J.iload (pc := 13) C dX8_copies_13 rfl ?_
    refine J.iadd (pc := 15) C dX8_copies_15 ?_
    refine J.aload_n (pc := 16) C (x := a0) dX8_copies_16 rfl rfl ?_
    refine J.iload_n (pc := 17) C dX8_copies_17 rfl rfl ?_
    refine J.iload (pc := 18) C dX8_copies_18 rfl ?_
    refine J.iadd (pc := 20) C dX8_copies_20 ?_
    refine J.iald (pc := 21) C dX8_copies_21 ?_
    refine J.iasts (pc := 22) C dX8_copies_22 (fun S_1 => ?_)
    refine J.iinc (pc := 23) C (lv' := [(0, rv g a0), (1, .int a1), (2, rv g a2), (3, .int a3), (4, .int (x4 + 1))]) dX8_copies_23 rfl (Nat.le_of_ble_eq_true rfl) ki_1 rfl ?_
    refine J.goto (pc := 26) C (tgt := 3) dX8_copies_26 rfl ?_
    exact (hk3 _ _)
def f_X8_copies (S : St) (a0 : Nat) (a1 : Int32) (a2 : Nat) (a3 : Int32) : Option St :=
  (wl2 (f_X8_copies_B3 a0 a1 a2 a3 (fun (S_2 : St) => (some S_2))) FU S 0)
set_option maxRecDepth 100000 in
set_option maxHeartbeats 4000000 in
theorem c_X8_copies (l : Launch) (g : GG) (S : St) (a0 : Nat) (a1 : Int32) (a2 : Nat) (a3 : Int32) : Ct l yX8_copies cX8_copies 5 none rm_X8_copies g aU pU [rv g a0, .int a1, rv g a2, .int a3] S (f_X8_copies S a0 a1 a2 a3) := by
  refine Ct.mk (cf := cw (0, 0)) (by decide +kernel) (cat_r (cat_i (cat_r (cat_i cat_n)))) (Nat.le_of_ble_eq_true rfl) rfl ?_
  intro X hXl hin C
  show J X g _ _ 0 [(0, rv g a0), (1, .int a1), (2, rv g a2), (3, .int a3)] [] S (f_X8_copies S a0 a1 a2 a3)
  unfold f_X8_copies
  refine J.iconst (pc := 0) C dX8_copies_0 ki_0 ?_
  refine J.istore (pc := 1) C (lv' := [(0, rv g a0), (1, .int a1), (2, rv g a2), (3, .int a3), (4, .int 0)]) dX8_copies_1 (Nat.le_of_ble_eq_true rfl) rfl ?_
  refine w_X8_copies_B3 C _ _ _ _ _ (fun S_2 => ?_) FU _ _
  exact J.vret (pc := 29) C rfl rfl ⟨Nat.le_refl _, Nat.le_refl _⟩ dX8_copies_29
abbrev rm_X8_notes : Room := { frames := 1, cells := 0, slots := 0, locals := 24 }
def f_X8_notes_J49 (S : St) (x0 : Nat) : Option St :=
  (chk (okc S 8 x0)
  (chk (okc S 8 x0)
  (chk (okc S 8 x0)
  (bnd (f_X8_copies S (S.2.1 x0 0) 0 (S.2.1 x0 1) (867 * (S.1 x0 2))) fun S_1 =>
  (chk (okc S_1 8 x0)
  (chk (okc S_1 8 x0) (vlt (upI S_1 x0 2 ((S_1.1 x0 2) + 1)) fun S_2 =>
  (some S_2))))))))
set_option maxRecDepth 100000 in
set_option maxHeartbeats 4000000 in
theorem w_X8_notes_J49 {X : CT} {g : GG} (C : CX X g cX8_notes RX8 none 2 rm_X8_notes) (S : St) (x0 : Nat) : J X g (Qm X g aU pU) (cw (0, 0)) 49 [(0, rv g x0)] [] S (f_X8_notes_J49 S x0) := by
  unfold f_X8_notes_J49
  refine J.aload_n (pc := 49) C (x := x0) dX8_notes_49 rfl rfl ?_
  refine J.getR (pc := 50) C fl_RX8_7 rfl dX8_notes_50 ?_
  refine J.iconst (pc := 53) C dX8_notes_53 ki_0 ?_
  refine J.aload_n (pc := 54) C (x := x0) dX8_notes_54 rfl rfl ?_
  refine J.getR (pc := 55) C fl_RX8_13 rfl dX8_notes_55 ?_
  refine J.sipush (pc := 58) C dX8_notes_58 ks_867 ?_
  refine J.aload_n (pc := 61) C (x := x0) dX8_notes_61 rfl rfl ?_
  refine J.getI (pc := 62) C fl_RX8_28 rfl dX8_notes_62 ?_
  refine J.imul (pc := 65) C dX8_notes_65 ?_
  refine J.sU (pc := 66) C ms_X8_copies wm_RX8_32 (fun l => c_X8_copies l g S (S.2.1 x0 0) 0 (S.2.1 x0 1) (867 * (S.1 x0 2))) ⟨⟨Nat.zero_le _, Nat.zero_le _⟩, rfl, rfl⟩ rfl ⟨Nat.le_of_ble_eq_true rfl, Nat.le_of_ble_eq_true rfl⟩ rfl cat_n (Nat.le_of_ble_eq_true rfl) dX8_notes_66 (fun S_1 => ?_)
  refine J.aload_n (pc := 69) C (x := x0) dX8_notes_69 rfl rfl ?_
  refine J.dup (pc := 70) C dX8_notes_70 (rv_cat g _) ?_
  refine J.getI (pc := 71) C fl_RX8_28 rfl dX8_notes_71 ?_
  refine J.iconst (pc := 74) C dX8_notes_74 ki_1 ?_
  refine J.iadd (pc := 75) C dX8_notes_75 ?_
  refine J.putIs (pc := 76) C fl_RX8_28 rfl (fun r h => by cases h; rfl) rfl rfl dX8_notes_76 (fun S_2 => ?_)
  exact J.vret (pc := 79) C rfl rfl ⟨Nat.le_refl _, Nat.le_refl _⟩ dX8_notes_79
def f_X8_notes_B10 (a0 : Nat) (kx10 : St → Option St) (k10 : St → Int32 → Option St) (S : St) (x1 : Int32) : Option St :=
  (if (2601 : Int32) ≤ x1 then
  (kx10 S)
  else (chk (okc S 8 a0)
  (chk (okc S 8 a0)
  (chk (ina S 10 (S.2.1 a0 1) (x1 + 867))
  (chk (inw S 10 (S.2.1 a0 1) x1) (vlt (upI S (S.2.1 a0 1) x1.toNatClampNeg (S.1 (S.2.1 a0 1) (x1 + 867).toNatClampNeg)) fun S_3 =>
  (k10 S_3 (x1 + 1))))))))
set_option maxRecDepth 100000 in
set_option maxHeartbeats 4000000 in
theorem w_X8_notes_B10 {X : CT} {g : GG} (C : CX X g cX8_notes RX8 none 2 rm_X8_notes) (a0 : Nat) (kx10 : St → Option St) (hkx10 : ∀ (S : St), J X g (Qm X g aU pU) (cw (0, 0)) 39 [(0, rv g a0)] [] S (kx10 S)) : ∀ (n : Nat) (S : St) (x1 : Int32), J X g (Qm X g aU pU) (cw (0, 0)) 10 [(0, rv g a0), (1, .int x1)] [] S (wl2 (f_X8_notes_B10 a0 kx10) n S x1) := by
  refine J.loop2 (lvf := fun (S : St) (x1 : Int32) => [(0, rv g a0), (1, .int x1)]) (Sf := fun (S : St) (x1 : Int32) => S) ?_
  intro k10 hk10 S x1
  show J X g _ _ 10 [(0, rv g a0), (1, .int x1)] [] S (f_X8_notes_B10 a0 kx10 k10 S x1)
  unfold f_X8_notes_B10
  refine J.iload_n (pc := 10) C dX8_notes_10 rfl rfl ?_
  refine J.sipush (pc := 11) C dX8_notes_11 ks_2601 ?_
  refine J.icmp_ge (pc := 14) C (tgt := 39) dX8_notes_14 rfl ?_ ?_
  · exact J.pick [0] rfl (hkx10 _)
  · refine J.aload_n (pc := 17) C (x := a0) dX8_notes_17 rfl rfl ?_
    refine J.getR (pc := 18) C fl_RX8_13 rfl dX8_notes_18 ?_
    refine J.iload_n (pc := 21) C dX8_notes_21 rfl rfl ?_
    refine J.aload_n (pc := 22) C (x := a0) dX8_notes_22 rfl rfl ?_
    refine J.getR (pc := 23) C fl_RX8_13 rfl dX8_notes_23 ?_
    refine J.iload_n (pc := 26) C dX8_notes_26 rfl rfl ?_
    refine J.sipush (pc := 27) C dX8_notes_27 ks_867 ?_
    refine J.iadd (pc := 30) C dX8_notes_30 ?_
    refine J.iald (pc := 31) C dX8_notes_31 ?_
    refine J.iasts (pc := 32) C dX8_notes_32 (fun S_3 => ?_)
    refine J.iinc (pc := 33) C (lv' := [(0, rv g a0), (1, .int (x1 + 1))]) dX8_notes_33 rfl (Nat.le_of_ble_eq_true rfl) ki_1 rfl ?_
    refine J.goto (pc := 36) C (tgt := 10) dX8_notes_36 rfl ?_
    exact (hk10 _ _)
def f_X8_notes (S : St) (a0 : Nat) : Option St :=
  (chk (okc S 8 a0)
  (if (S.1 a0 2) = 4 then
  (wl2 (f_X8_notes_B10 a0 (fun (S_4 : St) => (chk (okc S_4 8 a0)
  (chk (okc S_4 8 a0) (vlt (upI S_4 a0 2 ((S_4.1 a0 2) - 1)) fun S_5 =>
  (f_X8_notes_J49 S_5 a0)))))) FU S 0)
  else (f_X8_notes_J49 S a0)))
set_option maxRecDepth 100000 in
set_option maxHeartbeats 4000000 in
theorem c_X8_notes (l : Launch) (g : GG) (S : St) (a0 : Nat) : Ct l yX8_notes cX8_notes 2 none rm_X8_notes g aU pU [rv g a0] S (f_X8_notes S a0) := by
  refine Ct.mk (cf := cw (0, 0)) (by decide +kernel) (cat_r cat_n) (Nat.le_of_ble_eq_true rfl) rfl ?_
  intro X hXl hin C
  show J X g _ _ 0 [(0, rv g a0)] [] S (f_X8_notes S a0)
  unfold f_X8_notes
  refine J.aload_n (pc := 0) C (x := a0) dX8_notes_0 rfl rfl ?_
  refine J.getI (pc := 1) C fl_RX8_28 rfl dX8_notes_1 ?_
  refine J.iconst (pc := 4) C dX8_notes_4 ki_4 ?_
  refine J.icmp_ne (pc := 5) C (tgt := 49) dX8_notes_5 rfl ?_ ?_
  · exact (w_X8_notes_J49 C _ _)
  · refine J.iconst (pc := 8) C dX8_notes_8 ki_0 ?_
    refine J.istore_n (pc := 9) C (lv' := [(0, rv g a0), (1, .int 0)]) dX8_notes_9 rfl (Nat.le_of_ble_eq_true rfl) rfl ?_
    refine w_X8_notes_B10 C _ _ (fun S_4 => ?_) FU _ _
    refine J.aload_n (pc := 39) C (x := a0) dX8_notes_39 rfl rfl ?_
    refine J.dup (pc := 40) C dX8_notes_40 (rv_cat g _) ?_
    refine J.getI (pc := 41) C fl_RX8_28 rfl dX8_notes_41 ?_
    refine J.iconst (pc := 44) C dX8_notes_44 ki_1 ?_
    refine J.isub (pc := 45) C dX8_notes_45 ?_
    refine J.putIs (pc := 46) C fl_RX8_28 rfl (fun r h => by cases h; rfl) rfl rfl dX8_notes_46 (fun S_5 => ?_)
    exact (w_X8_notes_J49 C _ _)
abbrev rm_X8_blind : Room := { frames := 2, cells := 0, slots := 0, locals := 45 }
def f_X8_blind (S : St) (a0 : Nat) (a1 : Int32) (a2 : Int32) : Option (Int32 × St) :=
  (bnd (f_X8_in a1 0 9) fun r1 =>
  (if r1 = 0 then
  (some ((-10000001), S))
  else (bnd (f_X8_in a2 0 1) fun r2 =>
  (if r2 = 0 then
  (some ((-10000001), S))
  else (chk (okc S 8 a0)
  (chk (ina S 10 (S.2.1 a0 0) 34)
  (if (((S.1 (S.2.1 a0 0) (34 : Int32).toNatClampNeg) >>> (a1 &&& 31)) &&& 1) = a2 then
  (some ((-10000002), S))
  else (chk (okc S 8 a0) (bnd (f_X8_notes S a0) fun S_3 =>
  (chk (okc S_3 8 a0)
  (chk (ina S_3 10 (S_3.2.1 a0 0) 34)
  (chk (inw S_3 10 (S_3.2.1 a0 0) 34) (vlt (upI S_3 (S_3.2.1 a0 0) (34 : Int32).toNatClampNeg ((S_3.1 (S_3.2.1 a0 0) (34 : Int32).toNatClampNeg) ^^^ (1 <<< (a1 &&& 31)))) fun S_4 =>
  (chk (okc S_4 8 a0)
  (chk (ina S_4 10 (S_4.2.1 a0 0) 34)
  (bnd (f_X8_bits (S_4.1 (S_4.2.1 a0 0) (34 : Int32).toNatClampNeg)) fun r5 =>
  (some (r5, S_4))))))))))))))))))
set_option maxRecDepth 100000 in
set_option maxHeartbeats 4000000 in
theorem c_X8_blind (l : Launch) (g : GG) (S : St) (a0 : Nat) (a1 : Int32) (a2 : Int32) : Ct l yX8_blind cX8_blind 3 (some .int) rm_X8_blind g aW pW [rv g a0, .int a1, .int a2] S (f_X8_blind S a0 a1 a2) := by
  refine Ct.mk (cf := cw (0, 0)) (by decide +kernel) (cat_r (cat_i (cat_i cat_n))) (Nat.le_of_ble_eq_true rfl) rfl ?_
  intro X hXl hin C
  show J X g _ _ 0 [(0, rv g a0), (1, .int a1), (2, .int a2)] [] S (f_X8_blind S a0 a1 a2)
  unfold f_X8_blind
  refine J.iload_n (pc := 0) C dX8_blind_0 rfl rfl ?_
  refine J.iconst (pc := 1) C dX8_blind_1 ki_0 ?_
  refine J.bipush (pc := 2) C dX8_blind_2 kb_9 ?_
  refine J.sI (pc := 4) C ms_X8_in wm_RX8_36 (fun l => c_X8_in l g S a1 0 9) ⟨⟨Nat.zero_le _, Nat.zero_le _⟩, rfl, rfl⟩ rfl ⟨Nat.le_of_ble_eq_true rfl, Nat.le_of_ble_eq_true rfl⟩ rfl cat_n (Nat.le_of_ble_eq_true rfl) dX8_blind_4 (fun r1 => ?_)
  refine J.if_eq (pc := 7) C (tgt := 19) dX8_blind_7 rfl ?_ ?_
  · refine J.ldc (pc := 19) C wc_RX8_44 dX8_blind_19 ?_
    exact J.iret (pc := 21) C rfl rfl ⟨Nat.le_refl _, Nat.le_refl _⟩ dX8_blind_21
  · refine J.iload_n (pc := 10) C dX8_blind_10 rfl rfl ?_
    refine J.iconst (pc := 11) C dX8_blind_11 ki_0 ?_
    refine J.iconst (pc := 12) C dX8_blind_12 ki_1 ?_
    refine J.sI (pc := 13) C ms_X8_in wm_RX8_36 (fun l => c_X8_in l g S a2 0 1) ⟨⟨Nat.zero_le _, Nat.zero_le _⟩, rfl, rfl⟩ rfl ⟨Nat.le_of_ble_eq_true rfl, Nat.le_of_ble_eq_true rfl⟩ rfl cat_n (Nat.le_of_ble_eq_true rfl) dX8_blind_13 (fun r2 => ?_)
    refine J.if_ne (pc := 16) C (tgt := 22) dX8_blind_16 rfl ?_ ?_
    · refine J.aload_n (pc := 22) C (x := a0) dX8_blind_22 rfl rfl ?_
      refine J.getR (pc := 23) C fl_RX8_7 rfl dX8_blind_23 ?_
      refine J.bipush (pc := 26) C dX8_blind_26 kb_34 ?_
      refine J.iald (pc := 28) C dX8_blind_28 ?_
      refine J.iload_n (pc := 29) C dX8_blind_29 rfl rfl ?_
      refine J.ishr (pc := 30) C dX8_blind_30 ?_
      refine J.iconst (pc := 31) C dX8_blind_31 ki_1 ?_
      refine J.iand (pc := 32) C dX8_blind_32 ?_
      refine J.iload_n (pc := 33) C dX8_blind_33 rfl rfl ?_
      refine J.icmp_ne (pc := 34) C (tgt := 40) dX8_blind_34 rfl ?_ ?_
      · refine J.aload_n (pc := 40) C (x := a0) dX8_blind_40 rfl rfl ?_
        refine J.vU (pc := 41) C mv_X8_notes wm_RX8_46 (fun l => c_X8_notes l g S a0) ⟨⟨Nat.zero_le _, Nat.zero_le _⟩, rfl, rfl⟩ rfl ⟨Nat.le_of_ble_eq_true rfl, Nat.le_of_ble_eq_true rfl⟩ rfl cat_n (Nat.le_of_ble_eq_true rfl) dX8_blind_41 (fun S_3 => ?_)
        refine J.aload_n (pc := 44) C (x := a0) dX8_blind_44 rfl rfl ?_
        refine J.getR (pc := 45) C fl_RX8_7 rfl dX8_blind_45 ?_
        refine J.bipush (pc := 48) C dX8_blind_48 kb_34 ?_
        refine J.dup2 (pc := 50) C dX8_blind_50 rfl (rv_cat g _) ?_
        refine J.iald (pc := 51) C dX8_blind_51 ?_
        refine J.iconst (pc := 52) C dX8_blind_52 ki_1 ?_
        refine J.iload_n (pc := 53) C dX8_blind_53 rfl rfl ?_
        refine J.ishl (pc := 54) C dX8_blind_54 ?_
        refine J.ixor (pc := 55) C dX8_blind_55 ?_
        refine J.iasts (pc := 56) C dX8_blind_56 (fun S_4 => ?_)
        refine J.aload_n (pc := 57) C (x := a0) dX8_blind_57 rfl rfl ?_
        refine J.getR (pc := 58) C fl_RX8_7 rfl dX8_blind_58 ?_
        refine J.bipush (pc := 61) C dX8_blind_61 kb_34 ?_
        refine J.iald (pc := 63) C dX8_blind_63 ?_
        refine J.sI (pc := 64) C ms_X8_bits wm_RX8_67 (fun l => c_X8_bits l g S_4 (S_4.1 (S_4.2.1 a0 0) (34 : Int32).toNatClampNeg)) ⟨⟨Nat.zero_le _, Nat.zero_le _⟩, rfl, rfl⟩ rfl ⟨Nat.le_of_ble_eq_true rfl, Nat.le_of_ble_eq_true rfl⟩ rfl cat_n (Nat.le_of_ble_eq_true rfl) dX8_blind_64 (fun r5 => ?_)
        exact J.iret (pc := 67) C rfl rfl ⟨Nat.le_refl _, Nat.le_refl _⟩ dX8_blind_67
      · refine J.ldc (pc := 37) C wc_RX8_45 dX8_blind_37 ?_
        exact J.iret (pc := 39) C rfl rfl ⟨Nat.le_refl _, Nat.le_refl _⟩ dX8_blind_39
    · refine J.ldc (pc := 19) C wc_RX8_44 dX8_blind_19 ?_
      exact J.iret (pc := 21) C rfl rfl ⟨Nat.le_refl _, Nat.le_refl _⟩ dX8_blind_21
abbrev rm_X8_clearText : Room := { frames := 0, cells := 0, slots := 0, locals := 0 }
def f_X8_clearText (S : St) (a0 : Nat) : Option (Int32 × St) :=
  (chk (okc S 8 a0)
  (chk (okc S 8 a0) (vlt (upI S a0 5 0) fun S_1 =>
  (some (S.1 a0 5, S_1)))))
set_option maxRecDepth 100000 in
set_option maxHeartbeats 4000000 in
theorem c_X8_clearText (l : Launch) (g : GG) (S : St) (a0 : Nat) : Ct l yX8_clearText cX8_clearText 2 (some .int) rm_X8_clearText g aW pW [rv g a0] S (f_X8_clearText S a0) := by
  refine Ct.mk (cf := cw (0, 0)) (by decide +kernel) (cat_r cat_n) (Nat.le_of_ble_eq_true rfl) rfl ?_
  intro X hXl hin C
  show J X g _ _ 0 [(0, rv g a0)] [] S (f_X8_clearText S a0)
  unfold f_X8_clearText
  refine J.aload_n (pc := 0) C (x := a0) dX8_clearText_0 rfl rfl ?_
  refine J.getI (pc := 1) C fl_RX8_191 rfl dX8_clearText_1 ?_
  refine J.istore_n (pc := 4) C (lv' := [(0, rv g a0), (1, .int (S.1 a0 5))]) dX8_clearText_4 rfl (Nat.le_of_ble_eq_true rfl) rfl ?_
  refine J.aload_n (pc := 5) C (x := a0) dX8_clearText_5 rfl rfl ?_
  refine J.iconst (pc := 6) C dX8_clearText_6 ki_0 ?_
  refine J.putIs (pc := 7) C fl_RX8_191 rfl (fun r h => by cases h; rfl) rfl rfl dX8_clearText_7 (fun S_1 => ?_)
  refine J.iload_n (pc := 10) C dX8_clearText_10 rfl rfl ?_
  exact J.iret (pc := 11) C rfl rfl ⟨Nat.le_refl _, Nat.le_refl _⟩ dX8_clearText_11
abbrev rm_X8_count : Room := { frames := 1, cells := 0, slots := 0, locals := 22 }
def f_X8_count (S : St) (a0 : Nat) (a1 : Int32) : Option Int32 :=
  (if a1 = 0 then
  (chk (okc S 8 a0)
  (chk (ina S 10 (S.2.1 a0 0) 8)
  (some (S.1 (S.2.1 a0 0) (8 : Int32).toNatClampNeg))))
  else (if a1 = 1 then
  (chk (okc S 8 a0)
  (chk (ina S 10 (S.2.1 a0 0) 36)
  (some (S.1 (S.2.1 a0 0) (36 : Int32).toNatClampNeg))))
  else (if a1 = 2 then
  (chk (okc S 8 a0)
  (chk (ina S 10 (S.2.1 a0 0) 33)
  (some (S.1 (S.2.1 a0 0) (33 : Int32).toNatClampNeg))))
  else (if a1 = 3 then
  (chk (okc S 8 a0)
  (chk (ina S 10 (S.2.1 a0 0) 34)
  (bnd (f_X8_bits (S.1 (S.2.1 a0 0) (34 : Int32).toNatClampNeg)) fun r1 =>
  (some r1))))
  else (if a1 = 4 then
  (chk (okc S 8 a0)
  (chk (ina S 10 (S.2.1 a0 0) 35)
  (some (S.1 (S.2.1 a0 0) (35 : Int32).toNatClampNeg))))
  else (if a1 = 5 then
  (chk (okc S 8 a0)
  (chk (okc S 8 a0)
  (chk (ina S 10 (S.2.1 a0 0) 33)
  (bnd (f_X8_isDark S (S.2.1 a0 0) (S.1 (S.2.1 a0 0) (33 : Int32).toNatClampNeg)) fun r2 =>
  (if r2 = 0 then
  (some 0)
  else (some 1))))))
  else (if a1 = 6 then
  (chk (okc S 8 a0)
  (some (S.1 a0 2)))
  else (if a1 = 7 then
  (chk (okc S 8 a0)
  (some (S.1 a0 5)))
  else (bnd (f_X8_in a1 10 17) fun r3 =>
  (if r3 = 0 then
  (some (-10000001))
  else (chk (okc S 8 a0)
  (chk (ina S 10 (S.2.1 a0 0) (a1 - 10))
  (some (S.1 (S.2.1 a0 0) (a1 - 10).toNatClampNeg))))))))))))))
set_option maxRecDepth 100000 in
set_option maxHeartbeats 4000000 in
theorem c_X8_count (l : Launch) (g : GG) (S : St) (a0 : Nat) (a1 : Int32) : Ct l yX8_count cX8_count 2 (some .int) rm_X8_count g aI (pK S) [rv g a0, .int a1] S (f_X8_count S a0 a1) := by
  refine Ct.mk (cf := cw (0, 0)) (by decide +kernel) (cat_r (cat_i cat_n)) (Nat.le_of_ble_eq_true rfl) rfl ?_
  intro X hXl hin C
  show J X g _ _ 0 [(0, rv g a0), (1, .int a1)] [] S (f_X8_count S a0 a1)
  unfold f_X8_count
  refine J.iload_n (pc := 0) C dX8_count_0 rfl rfl ?_
  refine J.ite (fun h0 => ?_) (fun h0 => ?_)
  · refine J.tswIn (pc := 1) C (tgt := 48) 0 dX8_count_1 h0 (by decide) (by decide) rfl rfl ?_
    refine J.aload_n (pc := 48) C (x := a0) dX8_count_48 rfl rfl ?_
    refine J.getR (pc := 49) C fl_RX8_7 rfl dX8_count_49 ?_
    refine J.bipush (pc := 52) C dX8_count_52 kb_8 ?_
    refine J.iald (pc := 54) C dX8_count_54 ?_
    exact J.iret (pc := 55) C rfl rfl ⟨Nat.le_refl _, Nat.le_refl _⟩ dX8_count_55
  · refine J.ite (fun h1 => ?_) (fun h1 => ?_)
    · refine J.tswIn (pc := 1) C (tgt := 56) 1 dX8_count_1 h1 (by decide) (by decide) rfl rfl ?_
      refine J.aload_n (pc := 56) C (x := a0) dX8_count_56 rfl rfl ?_
      refine J.getR (pc := 57) C fl_RX8_7 rfl dX8_count_57 ?_
      refine J.bipush (pc := 60) C dX8_count_60 kb_36 ?_
      refine J.iald (pc := 62) C dX8_count_62 ?_
      exact J.iret (pc := 63) C rfl rfl ⟨Nat.le_refl _, Nat.le_refl _⟩ dX8_count_63
    · refine J.ite (fun h2 => ?_) (fun h2 => ?_)
      · refine J.tswIn (pc := 1) C (tgt := 64) 2 dX8_count_1 h2 (by decide) (by decide) rfl rfl ?_
        refine J.aload_n (pc := 64) C (x := a0) dX8_count_64 rfl rfl ?_
        refine J.getR (pc := 65) C fl_RX8_7 rfl dX8_count_65 ?_
        refine J.bipush (pc := 68) C dX8_count_68 kb_33 ?_
        refine J.iald (pc := 70) C dX8_count_70 ?_
        exact J.iret (pc := 71) C rfl rfl ⟨Nat.le_refl _, Nat.le_refl _⟩ dX8_count_71
      · refine J.ite (fun h3 => ?_) (fun h3 => ?_)
        · refine J.tswIn (pc := 1) C (tgt := 72) 3 dX8_count_1 h3 (by decide) (by decide) rfl rfl ?_
          refine J.aload_n (pc := 72) C (x := a0) dX8_count_72 rfl rfl ?_
          refine J.getR (pc := 73) C fl_RX8_7 rfl dX8_count_73 ?_
          refine J.bipush (pc := 76) C dX8_count_76 kb_34 ?_
          refine J.iald (pc := 78) C dX8_count_78 ?_
          refine J.sI (pc := 79) C ms_X8_bits wm_RX8_67 (fun l => c_X8_bits l g S (S.1 (S.2.1 a0 0) (34 : Int32).toNatClampNeg)) ⟨⟨Nat.zero_le _, Nat.zero_le _⟩, rfl, rfl⟩ rfl ⟨Nat.le_of_ble_eq_true rfl, Nat.le_of_ble_eq_true rfl⟩ rfl cat_n (Nat.le_of_ble_eq_true rfl) dX8_count_79 (fun r1 => ?_)
          exact J.iret (pc := 82) C rfl rfl ⟨Nat.le_refl _, Nat.le_refl _⟩ dX8_count_82
        · refine J.ite (fun h4 => ?_) (fun h4 => ?_)
          · refine J.tswIn (pc := 1) C (tgt := 83) 4 dX8_count_1 h4 (by decide) (by decide) rfl rfl ?_
            refine J.aload_n (pc := 83) C (x := a0) dX8_count_83 rfl rfl ?_
            refine J.getR (pc := 84) C fl_RX8_7 rfl dX8_count_84 ?_
            refine J.bipush (pc := 87) C dX8_count_87 kb_35 ?_
            refine J.iald (pc := 89) C dX8_count_89 ?_
            exact J.iret (pc := 90) C rfl rfl ⟨Nat.le_refl _, Nat.le_refl _⟩ dX8_count_90
          · refine J.ite (fun h5 => ?_) (fun h5 => ?_)
            · refine J.tswIn (pc := 1) C (tgt := 91) 5 dX8_count_1 h5 (by decide) (by decide) rfl rfl ?_
              refine J.aload_n (pc := 91) C (x := a0) dX8_count_91 rfl rfl ?_
              refine J.getR (pc := 92) C fl_RX8_7 rfl dX8_count_92 ?_
              refine J.aload_n (pc := 95) C (x := a0) dX8_count_95 rfl rfl ?_
              refine J.getR (pc := 96) C fl_RX8_7 rfl dX8_count_96 ?_
              refine J.bipush (pc := 99) C dX8_count_99 kb_33 ?_
              refine J.iald (pc := 101) C dX8_count_101 ?_
              refine J.sI (pc := 102) C ms_X8_isDark wm_RX8_75 (fun l => c_X8_isDark l g S (S.2.1 a0 0) (S.1 (S.2.1 a0 0) (33 : Int32).toNatClampNeg)) ⟨⟨Nat.zero_le _, Nat.zero_le _⟩, rfl, rfl⟩ rfl ⟨Nat.le_of_ble_eq_true rfl, Nat.le_of_ble_eq_true rfl⟩ rfl cat_n (Nat.le_of_ble_eq_true rfl) dX8_count_102 (fun r2 => ?_)
              refine J.if_eq (pc := 105) C (tgt := 112) dX8_count_105 rfl ?_ ?_
              · refine J.iconst (pc := 112) C dX8_count_112 ki_0 ?_
                exact J.iret (pc := 113) C rfl rfl ⟨Nat.le_refl _, Nat.le_refl _⟩ dX8_count_113
              · refine J.iconst (pc := 108) C dX8_count_108 ki_1 ?_
                refine J.goto (pc := 109) C (tgt := 113) dX8_count_109 rfl ?_
                exact J.iret (pc := 113) C rfl rfl ⟨Nat.le_refl _, Nat.le_refl _⟩ dX8_count_113
            · refine J.ite (fun h6 => ?_) (fun h6 => ?_)
              · refine J.tswIn (pc := 1) C (tgt := 114) 6 dX8_count_1 h6 (by decide) (by decide) rfl rfl ?_
                refine J.aload_n (pc := 114) C (x := a0) dX8_count_114 rfl rfl ?_
                refine J.getI (pc := 115) C fl_RX8_28 rfl dX8_count_115 ?_
                exact J.iret (pc := 118) C rfl rfl ⟨Nat.le_refl _, Nat.le_refl _⟩ dX8_count_118
              · refine J.ite (fun h7 => ?_) (fun h7 => ?_)
                · refine J.tswIn (pc := 1) C (tgt := 119) 7 dX8_count_1 h7 (by decide) (by decide) rfl rfl ?_
                  refine J.aload_n (pc := 119) C (x := a0) dX8_count_119 rfl rfl ?_
                  refine J.getI (pc := 120) C fl_RX8_191 rfl dX8_count_120 ?_
                  exact J.iret (pc := 123) C rfl rfl ⟨Nat.le_refl _, Nat.le_refl _⟩ dX8_count_123
                · refine J.tswOut (pc := 1) C (tgt := 124) dX8_count_1 (by have e0 := lv_neT h0 (a := 0) rfl; have e1 := lv_neT h1 (a := 1) rfl; have e2 := lv_neT h2 (a := 2) rfl; have e3 := lv_neT h3 (a := 3) rfl; have e4 := lv_neT h4 (a := 4) rfl; have e5 := lv_neT h5 (a := 5) rfl; have e6 := lv_neT h6 (a := 6) rfl; have e7 := lv_neT h7 (a := 7) rfl; omega) rfl ?_
                  refine J.iload_n (pc := 124) C dX8_count_124 rfl rfl ?_
                  refine J.bipush (pc := 125) C dX8_count_125 kb_10 ?_
                  refine J.bipush (pc := 127) C dX8_count_127 kb_17 ?_
                  refine J.sI (pc := 129) C ms_X8_in wm_RX8_36 (fun l => c_X8_in l g S a1 10 17) ⟨⟨Nat.zero_le _, Nat.zero_le _⟩, rfl, rfl⟩ rfl ⟨Nat.le_of_ble_eq_true rfl, Nat.le_of_ble_eq_true rfl⟩ rfl cat_n (Nat.le_of_ble_eq_true rfl) dX8_count_129 (fun r3 => ?_)
                  refine J.if_eq (pc := 132) C (tgt := 147) dX8_count_132 rfl ?_ ?_
                  · refine J.ldc (pc := 147) C wc_RX8_44 dX8_count_147 ?_
                    exact J.iret (pc := 149) C rfl rfl ⟨Nat.le_refl _, Nat.le_refl _⟩ dX8_count_149
                  · refine J.aload_n (pc := 135) C (x := a0) dX8_count_135 rfl rfl ?_
                    refine J.getR (pc := 136) C fl_RX8_7 rfl dX8_count_136 ?_
                    refine J.iload_n (pc := 139) C dX8_count_139 rfl rfl ?_
                    refine J.bipush (pc := 140) C dX8_count_140 kb_10 ?_
                    refine J.isub (pc := 142) C dX8_count_142 ?_
                    refine J.iald (pc := 143) C dX8_count_143 ?_
                    refine J.goto (pc := 144) C (tgt := 149) dX8_count_144 rfl ?_
                    exact J.iret (pc := 149) C rfl rfl ⟨Nat.le_refl _, Nat.le_refl _⟩ dX8_count_149
abbrev rm_X8_areFrames : Room := { frames := 2, cells := 0, slots := 0, locals := 43 }
def f_X8_areFrames (S : St) (a0 : Nat) (a1 : Int32) (a2 : Int32) : Option Int32 :=
  (chk (okc S 8 a0) (bnd (f_X8_isFrame S a0 a1) fun r1 =>
  (if r1 = 0 then
  (some 0)
  else (chk (okc S 8 a0) (bnd (f_X8_isFrame S a0 a2) fun r2 =>
  (if r2 = 0 then
  (some 0)
  else (if a1 = a2 then
  (some 0)
  else (some 1))))))))
set_option maxRecDepth 100000 in
set_option maxHeartbeats 4000000 in
theorem c_X8_areFrames (l : Launch) (g : GG) (S : St) (a0 : Nat) (a1 : Int32) (a2 : Int32) : Ct l yX8_areFrames cX8_areFrames 3 (some .boolean) rm_X8_areFrames g aI (pK S) [rv g a0, .int a1, .int a2] S (f_X8_areFrames S a0 a1 a2) := by
  refine Ct.mk (cf := cw (0, 0)) (by decide +kernel) (cat_r (cat_i (cat_i cat_n))) (Nat.le_of_ble_eq_true rfl) rfl ?_
  intro X hXl hin C
  show J X g _ _ 0 [(0, rv g a0), (1, .int a1), (2, .int a2)] [] S (f_X8_areFrames S a0 a1 a2)
  unfold f_X8_areFrames
  refine J.aload_n (pc := 0) C (x := a0) dX8_areFrames_0 rfl rfl ?_
  refine J.iload_n (pc := 1) C dX8_areFrames_1 rfl rfl ?_
  refine J.vI (pc := 2) C mv_X8_isFrame wm_RX8_97 (fun l => c_X8_isFrame l g S a0 a1) ⟨⟨Nat.zero_le _, Nat.zero_le _⟩, rfl, rfl⟩ rfl ⟨Nat.le_of_ble_eq_true rfl, Nat.le_of_ble_eq_true rfl⟩ rfl cat_n (Nat.le_of_ble_eq_true rfl) dX8_areFrames_2 (fun r1 => ?_)
  refine J.if_eq (pc := 5) C (tgt := 25) dX8_areFrames_5 rfl ?_ ?_
  · refine J.iconst (pc := 25) C dX8_areFrames_25 ki_0 ?_
    exact J.zret (pc := 26) C rfl rfl rfl ⟨Nat.le_refl _, Nat.le_refl _⟩ dX8_areFrames_26
  · refine J.aload_n (pc := 8) C (x := a0) dX8_areFrames_8 rfl rfl ?_
    refine J.iload_n (pc := 9) C dX8_areFrames_9 rfl rfl ?_
    refine J.vI (pc := 10) C mv_X8_isFrame wm_RX8_97 (fun l => c_X8_isFrame l g S a0 a2) ⟨⟨Nat.zero_le _, Nat.zero_le _⟩, rfl, rfl⟩ rfl ⟨Nat.le_of_ble_eq_true rfl, Nat.le_of_ble_eq_true rfl⟩ rfl cat_n (Nat.le_of_ble_eq_true rfl) dX8_areFrames_10 (fun r2 => ?_)
    refine J.if_eq (pc := 13) C (tgt := 25) dX8_areFrames_13 rfl ?_ ?_
    · refine J.iconst (pc := 25) C dX8_areFrames_25 ki_0 ?_
      exact J.zret (pc := 26) C rfl rfl rfl ⟨Nat.le_refl _, Nat.le_refl _⟩ dX8_areFrames_26
    · refine J.iload_n (pc := 16) C dX8_areFrames_16 rfl rfl ?_
      refine J.iload_n (pc := 17) C dX8_areFrames_17 rfl rfl ?_
      refine J.icmp_eq (pc := 18) C (tgt := 25) dX8_areFrames_18 rfl ?_ ?_
      · refine J.iconst (pc := 25) C dX8_areFrames_25 ki_0 ?_
        exact J.zret (pc := 26) C rfl rfl rfl ⟨Nat.le_refl _, Nat.le_refl _⟩ dX8_areFrames_26
      · refine J.iconst (pc := 21) C dX8_areFrames_21 ki_1 ?_
        refine J.goto (pc := 22) C (tgt := 26) dX8_areFrames_22 rfl ?_
        exact J.zret (pc := 26) C rfl rfl rfl ⟨Nat.le_refl _, Nat.le_refl _⟩ dX8_areFrames_26
abbrev rm_X8_voteOf : Room := { frames := 4, cells := 0, slots := 0, locals := 93 }
def f_X8_voteOf (S : St) (a0 : Nat) (a1 : Int32) (a2 : Int32) (a3 : Int32) : Option Int32 :=
  (chk (okc S 8 a0) (bnd (f_X8_edgesIn S a0 a1 a3) fun r1 =>
  (chk (okc S 8 a0) (bnd (f_X8_edgesIn S a0 a2 a3) fun r2 =>
  (bnd (f_X8_voteBy r1 r2) fun r3 =>
  (some r3))))))
set_option maxRecDepth 100000 in
set_option maxHeartbeats 4000000 in
theorem c_X8_voteOf (l : Launch) (g : GG) (S : St) (a0 : Nat) (a1 : Int32) (a2 : Int32) (a3 : Int32) : Ct l yX8_voteOf cX8_voteOf 4 (some .int) rm_X8_voteOf g aI (pK S) [rv g a0, .int a1, .int a2, .int a3] S (f_X8_voteOf S a0 a1 a2 a3) := by
  refine Ct.mk (cf := cw (0, 0)) (by decide +kernel) (cat_r (cat_i (cat_i (cat_i cat_n)))) (Nat.le_of_ble_eq_true rfl) rfl ?_
  intro X hXl hin C
  show J X g _ _ 0 [(0, rv g a0), (1, .int a1), (2, .int a2), (3, .int a3)] [] S (f_X8_voteOf S a0 a1 a2 a3)
  unfold f_X8_voteOf
  refine J.aload_n (pc := 0) C (x := a0) dX8_voteOf_0 rfl rfl ?_
  refine J.iload_n (pc := 1) C dX8_voteOf_1 rfl rfl ?_
  refine J.iload_n (pc := 2) C dX8_voteOf_2 rfl rfl ?_
  refine J.vI (pc := 3) C mv_X8_edgesIn wm_RX8_117 (fun l => c_X8_edgesIn l g S a0 a1 a3) ⟨⟨Nat.zero_le _, Nat.zero_le _⟩, rfl, rfl⟩ rfl ⟨Nat.le_of_ble_eq_true rfl, Nat.le_of_ble_eq_true rfl⟩ rfl cat_n (Nat.le_of_ble_eq_true rfl) dX8_voteOf_3 (fun r1 => ?_)
  refine J.aload_n (pc := 6) C (x := a0) dX8_voteOf_6 rfl rfl ?_
  refine J.iload_n (pc := 7) C dX8_voteOf_7 rfl rfl ?_
  refine J.iload_n (pc := 8) C dX8_voteOf_8 rfl rfl ?_
  refine J.vI (pc := 9) C mv_X8_edgesIn wm_RX8_117 (fun l => c_X8_edgesIn l g S a0 a2 a3) ⟨⟨Nat.zero_le _, Nat.zero_le _⟩, rfl, rfl⟩ rfl ⟨Nat.le_of_ble_eq_true rfl, Nat.le_of_ble_eq_true rfl⟩ rfl (cat_i cat_n) (Nat.le_of_ble_eq_true rfl) dX8_voteOf_9 (fun r2 => ?_)
  refine J.sI (pc := 12) C ms_X8_voteBy wm_RX8_127 (fun l => c_X8_voteBy l g S r1 r2) ⟨⟨Nat.zero_le _, Nat.zero_le _⟩, rfl, rfl⟩ rfl ⟨Nat.le_of_ble_eq_true rfl, Nat.le_of_ble_eq_true rfl⟩ rfl cat_n (Nat.le_of_ble_eq_true rfl) dX8_voteOf_12 (fun r3 => ?_)
  exact J.iret (pc := 15) C rfl rfl ⟨Nat.le_refl _, Nat.le_refl _⟩ dX8_voteOf_15
abbrev rm_X8_weightOf : Room := { frames := 0, cells := 0, slots := 0, locals := 0 }
def f_X8_weightOf (S : St) (a0 : Nat) (a1 : Int32) : Option Int32 :=
  (chk (okc S 8 a0)
  (chk (ina S 10 (S.2.1 a0 0) (847 + a1))
  (chk (okc S 8 a0)
  (chk (ina S 10 (S.2.1 a0 0) (857 + a1))
  (vlt ((S.1 (S.2.1 a0 0) (847 + a1).toNatClampNeg) - (S.1 (S.2.1 a0 0) (857 + a1).toNatClampNeg)) fun v1 =>
  (if v1 ≤ 0 then
  (some 1)
  else (some (1 + v1))))))))
set_option maxRecDepth 100000 in
set_option maxHeartbeats 4000000 in
theorem c_X8_weightOf (l : Launch) (g : GG) (S : St) (a0 : Nat) (a1 : Int32) : Ct l yX8_weightOf cX8_weightOf 3 (some .int) rm_X8_weightOf g aI (pK S) [rv g a0, .int a1] S (f_X8_weightOf S a0 a1) := by
  refine Ct.mk (cf := cw (0, 0)) (by decide +kernel) (cat_r (cat_i cat_n)) (Nat.le_of_ble_eq_true rfl) rfl ?_
  intro X hXl hin C
  show J X g _ _ 0 [(0, rv g a0), (1, .int a1)] [] S (f_X8_weightOf S a0 a1)
  unfold f_X8_weightOf
  refine J.aload_n (pc := 0) C (x := a0) dX8_weightOf_0 rfl rfl ?_
  refine J.getR (pc := 1) C fl_RX8_7 rfl dX8_weightOf_1 ?_
  refine J.sipush (pc := 4) C dX8_weightOf_4 ks_847 ?_
  refine J.iload_n (pc := 7) C dX8_weightOf_7 rfl rfl ?_
  refine J.iadd (pc := 8) C dX8_weightOf_8 ?_
  refine J.iald (pc := 9) C dX8_weightOf_9 ?_
  refine J.aload_n (pc := 10) C (x := a0) dX8_weightOf_10 rfl rfl ?_
  refine J.getR (pc := 11) C fl_RX8_7 rfl dX8_weightOf_11 ?_
  refine J.sipush (pc := 14) C dX8_weightOf_14 ks_857 ?_
  refine J.iload_n (pc := 17) C dX8_weightOf_17 rfl rfl ?_
  refine J.iadd (pc := 18) C dX8_weightOf_18 ?_
  refine J.iald (pc := 19) C dX8_weightOf_19 ?_
  refine J.isub (pc := 20) C dX8_weightOf_20 ?_
  refine J.topi (fun v1 => ?_)
  refine J.istore_n (pc := 21) C (lv' := [(0, rv g a0), (1, .int a1), (2, .int v1)]) dX8_weightOf_21 rfl (Nat.le_of_ble_eq_true rfl) rfl ?_
  refine J.iload_n (pc := 22) C dX8_weightOf_22 rfl rfl ?_
  refine J.if_le (pc := 23) C (tgt := 32) dX8_weightOf_23 rfl ?_ ?_
  · refine J.iconst (pc := 32) C dX8_weightOf_32 ki_1 ?_
    exact J.iret (pc := 33) C rfl rfl ⟨Nat.le_refl _, Nat.le_refl _⟩ dX8_weightOf_33
  · refine J.iconst (pc := 26) C dX8_weightOf_26 ki_1 ?_
    refine J.iload_n (pc := 27) C dX8_weightOf_27 rfl rfl ?_
    refine J.iadd (pc := 28) C dX8_weightOf_28 ?_
    refine J.goto (pc := 29) C (tgt := 33) dX8_weightOf_29 rfl ?_
    exact J.iret (pc := 33) C rfl rfl ⟨Nat.le_refl _, Nat.le_refl _⟩ dX8_weightOf_33
abbrev rm_X8_toldBy : Room := { frames := 5, cells := 0, slots := 0, locals := 116 }
def f_X8_toldBy_J41 (S : St) (a0 : Nat) (a1 : Int32) (a2 : Int32) (a3 : Int32) (kx7 : St → Option (Int32 × St)) (k7 : St → Int32 → Option (Int32 × St)) (x4 : Int32) (t0 : Int32) (t1 : Int32) (t2 : Nat) : Option (Int32 × St) :=
  (chk (okc S 8 t2) (bnd (f_X8_counts S t2 t1 t0) fun S_3 =>
  (k7 S_3 (x4 + 1))))
set_option maxRecDepth 100000 in
set_option maxHeartbeats 4000000 in
theorem w_X8_toldBy_J41 {X : CT} {g : GG} (C : CX X g cX8_toldBy RX8 (some .int) 5 rm_X8_toldBy) (S : St) (a0 : Nat) (a1 : Int32) (a2 : Int32) (a3 : Int32) (kx7 : St → Option (Int32 × St)) (k7 : St → Int32 → Option (Int32 × St)) (x4 : Int32) (t0 : Int32) (t1 : Int32) (t2 : Nat) (hkx7 : ∀ (S : St), J X g (Qm X g aW pW) (cw (0, 0)) 50 [(0, rv g a0)] [] S (kx7 S)) (hk7 : ∀ (S : St) (x4 : Int32), J X g (Qm X g aW pW) (cw (0, 0)) 7 [(0, rv g a0), (1, .int a1), (2, .int a2), (3, .int a3), (4, .int x4)] [] S (k7 S x4)) : J X g (Qm X g aW pW) (cw (0, 0)) 41 [(0, rv g a0), (1, .int a1), (2, .int a2), (3, .int a3), (4, .int x4)] [.int t0, .int t1, rv g t2] S (f_X8_toldBy_J41 S a0 a1 a2 a3 kx7 k7 x4 t0 t1 t2) := by
  unfold f_X8_toldBy_J41
  refine J.vU (pc := 41) C mv_X8_counts wm_RX8_142 (fun l => c_X8_counts l g S t2 t1 t0) ⟨⟨Nat.zero_le _, Nat.zero_le _⟩, rfl, rfl⟩ rfl ⟨Nat.le_of_ble_eq_true rfl, Nat.le_of_ble_eq_true rfl⟩ rfl cat_n (Nat.le_of_ble_eq_true rfl) dX8_toldBy_41 (fun S_3 => ?_)
  refine J.iinc (pc := 44) C (lv' := [(0, rv g a0), (1, .int a1), (2, .int a2), (3, .int a3), (4, .int (x4 + 1))]) dX8_toldBy_44 rfl (Nat.le_of_ble_eq_true rfl) ki_1 rfl ?_
  refine J.goto (pc := 47) C (tgt := 7) dX8_toldBy_47 rfl ?_
  exact (hk7 _ _)
def f_X8_toldBy_B7 (a0 : Nat) (a1 : Int32) (a2 : Int32) (a3 : Int32) (kx7 : St → Option (Int32 × St)) (k7 : St → Int32 → Option (Int32 × St)) (S : St) (x4 : Int32) : Option (Int32 × St) :=
  (chk (okc S 8 a0)
  (chk (ina S 10 (S.2.1 a0 0) 0)
  (if (S.1 (S.2.1 a0 0) (0 : Int32).toNatClampNeg) ≤ x4 then
  (kx7 S)
  else (chk (okc S 8 a0) (bnd (f_X8_voteOf S a0 a1 a2 x4) fun r2 =>
  (if a3 = 0 then
  (f_X8_toldBy_J41 S a0 a1 a2 a3 kx7 k7 x4 1 r2 a0)
  else (chk (okc S 8 a0) (bnd (f_X8_weightOf S a0 x4) fun r4 =>
  (f_X8_toldBy_J41 S a0 a1 a2 a3 kx7 k7 x4 r4 r2 a0)))))))))
set_option maxRecDepth 100000 in
set_option maxHeartbeats 4000000 in
theorem w_X8_toldBy_B7 {X : CT} {g : GG} (C : CX X g cX8_toldBy RX8 (some .int) 5 rm_X8_toldBy) (a0 : Nat) (a1 : Int32) (a2 : Int32) (a3 : Int32) (kx7 : St → Option (Int32 × St)) (hkx7 : ∀ (S : St), J X g (Qm X g aW pW) (cw (0, 0)) 50 [(0, rv g a0)] [] S (kx7 S)) : ∀ (n : Nat) (S : St) (x4 : Int32), J X g (Qm X g aW pW) (cw (0, 0)) 7 [(0, rv g a0), (1, .int a1), (2, .int a2), (3, .int a3), (4, .int x4)] [] S (wl2 (f_X8_toldBy_B7 a0 a1 a2 a3 kx7) n S x4) := by
  refine J.loop2 (lvf := fun (S : St) (x4 : Int32) => [(0, rv g a0), (1, .int a1), (2, .int a2), (3, .int a3), (4, .int x4)]) (Sf := fun (S : St) (x4 : Int32) => S) ?_
  intro k7 hk7 S x4
  show J X g _ _ 7 [(0, rv g a0), (1, .int a1), (2, .int a2), (3, .int a3), (4, .int x4)] [] S (f_X8_toldBy_B7 a0 a1 a2 a3 kx7 k7 S x4)
  unfold f_X8_toldBy_B7
  refine J.iload (pc := 7) C dX8_toldBy_7 rfl ?_
  refine J.aload_n (pc := 9) C (x := a0) dX8_toldBy_9 rfl rfl ?_
  refine J.getR (pc := 10) C fl_RX8_7 rfl dX8_toldBy_10 ?_
  refine J.iconst (pc := 13) C dX8_toldBy_13 ki_0 ?_
  refine J.iald (pc := 14) C dX8_toldBy_14 ?_
  refine J.icmp_ge (pc := 15) C (tgt := 50) dX8_toldBy_15 rfl ?_ ?_
  · exact J.pick [0] rfl (hkx7 _)
  · refine J.aload_n (pc := 18) C (x := a0) dX8_toldBy_18 rfl rfl ?_
    refine J.aload_n (pc := 19) C (x := a0) dX8_toldBy_19 rfl rfl ?_
    refine J.iload_n (pc := 20) C dX8_toldBy_20 rfl rfl ?_
    refine J.iload_n (pc := 21) C dX8_toldBy_21 rfl rfl ?_
    refine J.iload (pc := 22) C dX8_toldBy_22 rfl ?_
    refine J.vI (pc := 24) C mv_X8_voteOf wm_RX8_133 (fun l => c_X8_voteOf l g S a0 a1 a2 x4) ⟨⟨Nat.zero_le _, Nat.zero_le _⟩, rfl, rfl⟩ rfl ⟨Nat.le_of_ble_eq_true rfl, Nat.le_of_ble_eq_true rfl⟩ rfl (cat_r cat_n) (Nat.le_of_ble_eq_true rfl) dX8_toldBy_24 (fun r2 => ?_)
    refine J.iload_n (pc := 27) C dX8_toldBy_27 rfl rfl ?_
    refine J.if_eq (pc := 28) C (tgt := 40) dX8_toldBy_28 rfl ?_ ?_
    · refine J.iconst (pc := 40) C dX8_toldBy_40 ki_1 ?_
      exact (w_X8_toldBy_J41 C _ _ _ _ _ _ _ _ _ _ _ hkx7 hk7)
    · refine J.aload_n (pc := 31) C (x := a0) dX8_toldBy_31 rfl rfl ?_
      refine J.iload (pc := 32) C dX8_toldBy_32 rfl ?_
      refine J.vI (pc := 34) C mv_X8_weightOf wm_RX8_139 (fun l => c_X8_weightOf l g S a0 x4) ⟨⟨Nat.zero_le _, Nat.zero_le _⟩, rfl, rfl⟩ rfl ⟨Nat.le_of_ble_eq_true rfl, Nat.le_of_ble_eq_true rfl⟩ rfl (cat_i (cat_r cat_n)) (Nat.le_of_ble_eq_true rfl) dX8_toldBy_34 (fun r4 => ?_)
      refine J.goto (pc := 37) C (tgt := 41) dX8_toldBy_37 rfl ?_
      exact (w_X8_toldBy_J41 C _ _ _ _ _ _ _ _ _ _ _ hkx7 hk7)
def f_X8_toldBy (S : St) (a0 : Nat) (a1 : Int32) (a2 : Int32) (a3 : Int32) : Option (Int32 × St) :=
  (chk (okc S 8 a0) (bnd (f_X8_noVotes S a0) fun S_1 =>
  (wl2 (f_X8_toldBy_B7 a0 a1 a2 a3 (fun (S_5 : St) => (chk (okc S_5 8 a0) (bnd (f_X8_mostVoted S_5 a0) fun r6 =>
  (some (r6, S_5)))))) FU S_1 0)))
set_option maxRecDepth 100000 in
set_option maxHeartbeats 4000000 in
theorem c_X8_toldBy (l : Launch) (g : GG) (S : St) (a0 : Nat) (a1 : Int32) (a2 : Int32) (a3 : Int32) : Ct l yX8_toldBy cX8_toldBy 5 (some .int) rm_X8_toldBy g aW pW [rv g a0, .int a1, .int a2, .int a3] S (f_X8_toldBy S a0 a1 a2 a3) := by
  refine Ct.mk (cf := cw (0, 0)) (by decide +kernel) (cat_r (cat_i (cat_i (cat_i cat_n)))) (Nat.le_of_ble_eq_true rfl) rfl ?_
  intro X hXl hin C
  show J X g _ _ 0 [(0, rv g a0), (1, .int a1), (2, .int a2), (3, .int a3)] [] S (f_X8_toldBy S a0 a1 a2 a3)
  unfold f_X8_toldBy
  refine J.aload_n (pc := 0) C (x := a0) dX8_toldBy_0 rfl rfl ?_
  refine J.vU (pc := 1) C mv_X8_noVotes wm_RX8_136 (fun l => c_X8_noVotes l g S a0) ⟨⟨Nat.zero_le _, Nat.zero_le _⟩, rfl, rfl⟩ rfl ⟨Nat.le_of_ble_eq_true rfl, Nat.le_of_ble_eq_true rfl⟩ rfl cat_n (Nat.le_of_ble_eq_true rfl) dX8_toldBy_1 (fun S_1 => ?_)
  refine J.iconst (pc := 4) C dX8_toldBy_4 ki_0 ?_
  refine J.istore (pc := 5) C (lv' := [(0, rv g a0), (1, .int a1), (2, .int a2), (3, .int a3), (4, .int 0)]) dX8_toldBy_5 (Nat.le_of_ble_eq_true rfl) rfl ?_
  refine w_X8_toldBy_B7 C _ _ _ _ _ (fun S_5 => ?_) FU _ _
  refine J.aload_n (pc := 50) C (x := a0) dX8_toldBy_50 rfl rfl ?_
  refine J.vI (pc := 51) C mv_X8_mostVoted wm_RX8_146 (fun l => c_X8_mostVoted l g S_5 a0) ⟨⟨Nat.zero_le _, Nat.zero_le _⟩, rfl, rfl⟩ rfl ⟨Nat.le_of_ble_eq_true rfl, Nat.le_of_ble_eq_true rfl⟩ rfl cat_n (Nat.le_of_ble_eq_true rfl) dX8_toldBy_51 (fun r6 => ?_)
  exact J.iret (pc := 54) C rfl rfl ⟨Nat.le_refl _, Nat.le_refl _⟩ dX8_toldBy_54
abbrev rm_X8_votersOf : Room := { frames := 5, cells := 0, slots := 0, locals := 116 }
def f_X8_votersOf_B6 (S : St) (a0 : Nat) (a1 : Int32) (a2 : Int32) (a3 : Int32) (a4 : Int32) (kx6 : Int32 → Option Int32) (k6 : Int32 → Int32 → Option Int32) (x5 : Int32) (x6 : Int32) : Option Int32 :=
  (chk (okc S 8 a0)
  (chk (ina S 10 (S.2.1 a0 0) 0)
  (if (S.1 (S.2.1 a0 0) (0 : Int32).toNatClampNeg) ≤ x6 then
  (kx6 x5)
  else (chk (okc S 8 a0) (bnd (f_X8_voteOf S a0 a1 a2 x6) fun r1 =>
  (if r1 = (-1000000) then
  (k6 (x5 ||| 0) (x6 + 1))
  else (if r1 = a3 then
  (if (1 : Int32) = a4 then
  (k6 (x5 ||| (1 <<< (x6 &&& 31))) (x6 + 1))
  else (k6 (x5 ||| 0) (x6 + 1)))
  else (if (0 : Int32) = a4 then
  (k6 (x5 ||| (1 <<< (x6 &&& 31))) (x6 + 1))
  else (k6 (x5 ||| 0) (x6 + 1))))))))))
set_option maxRecDepth 100000 in
set_option maxHeartbeats 4000000 in
theorem w_X8_votersOf_B6 {X : CT} {g : GG} (C : CX X g cX8_votersOf RX8 (some .int) 8 rm_X8_votersOf) (S : St) (a0 : Nat) (a1 : Int32) (a2 : Int32) (a3 : Int32) (a4 : Int32) (kx6 : Int32 → Option Int32) (hkx6 : ∀ (x5 : Int32), J X g (Qm X g aI (pK S)) (cw (0, 0)) 69 [(5, .int x5)] [] S (kx6 x5)) : ∀ (n : Nat) (x5 : Int32) (x6 : Int32), J X g (Qm X g aI (pK S)) (cw (0, 0)) 6 [(0, rv g a0), (1, .int a1), (2, .int a2), (3, .int a3), (4, .int a4), (5, .int x5), (6, .int x6)] [] S (wl2 (f_X8_votersOf_B6 S a0 a1 a2 a3 a4 kx6) n x5 x6) := by
  refine J.loop2 (lvf := fun (x5 : Int32) (x6 : Int32) => [(0, rv g a0), (1, .int a1), (2, .int a2), (3, .int a3), (4, .int a4), (5, .int x5), (6, .int x6)]) (Sf := fun (x5 : Int32) (x6 : Int32) => S) ?_
  intro k6 hk6 x5 x6
  show J X g _ _ 6 [(0, rv g a0), (1, .int a1), (2, .int a2), (3, .int a3), (4, .int a4), (5, .int x5), (6, .int x6)] [] S (f_X8_votersOf_B6 S a0 a1 a2 a3 a4 kx6 k6 x5 x6)
  unfold f_X8_votersOf_B6
  refine J.iload (pc := 6) C dX8_votersOf_6 rfl ?_
  refine J.aload_n (pc := 8) C (x := a0) dX8_votersOf_8 rfl rfl ?_
  refine J.getR (pc := 9) C fl_RX8_7 rfl dX8_votersOf_9 ?_
  refine J.iconst (pc := 12) C dX8_votersOf_12 ki_0 ?_
  refine J.iald (pc := 13) C dX8_votersOf_13 ?_
  refine J.icmp_ge (pc := 14) C (tgt := 69) dX8_votersOf_14 rfl ?_ ?_
  · exact J.pick [5] rfl (hkx6 _)
  · refine J.aload_n (pc := 17) C (x := a0) dX8_votersOf_17 rfl rfl ?_
    refine J.iload_n (pc := 18) C dX8_votersOf_18 rfl rfl ?_
    refine J.iload_n (pc := 19) C dX8_votersOf_19 rfl rfl ?_
    refine J.iload (pc := 20) C dX8_votersOf_20 rfl ?_
    refine J.vI (pc := 22) C mv_X8_voteOf wm_RX8_133 (fun l => c_X8_voteOf l g S a0 a1 a2 x6) ⟨⟨Nat.zero_le _, Nat.zero_le _⟩, rfl, rfl⟩ rfl ⟨Nat.le_of_ble_eq_true rfl, Nat.le_of_ble_eq_true rfl⟩ rfl cat_n (Nat.le_of_ble_eq_true rfl) dX8_votersOf_22 (fun r1 => ?_)
    refine J.istore (pc := 25) C (lv' := [(0, rv g a0), (1, .int a1), (2, .int a2), (3, .int a3), (4, .int a4), (5, .int x5), (6, .int x6), (7, .int r1)]) dX8_votersOf_25 (Nat.le_of_ble_eq_true rfl) rfl ?_
    refine J.iload (pc := 27) C dX8_votersOf_27 rfl ?_
    refine J.iload (pc := 29) C dX8_votersOf_29 rfl ?_
    refine J.ldc (pc := 31) C wc_RX8_49 dX8_votersOf_31 ?_
    refine J.icmp_eq (pc := 33) C (tgt := 59) dX8_votersOf_33 rfl ?_ ?_
    · refine J.iconst (pc := 59) C dX8_votersOf_59 ki_0 ?_
      refine J.ior (pc := 60) C dX8_votersOf_60 ?_
      refine J.istore (pc := 61) C (lv' := [(0, rv g a0), (1, .int a1), (2, .int a2), (3, .int a3), (4, .int a4), (5, .int (x5 ||| 0)), (6, .int x6), (7, .int r1)]) dX8_votersOf_61 (Nat.le_of_ble_eq_true rfl) rfl ?_
      refine J.iinc (pc := 63) C (lv' := [(0, rv g a0), (1, .int a1), (2, .int a2), (3, .int a3), (4, .int a4), (5, .int (x5 ||| 0)), (6, .int (x6 + 1)), (7, .int r1)]) dX8_votersOf_63 rfl (Nat.le_of_ble_eq_true rfl) ki_1 rfl ?_
      refine J.goto (pc := 66) C (tgt := 6) dX8_votersOf_66 rfl ?_
      exact J.pick [0, 1, 2, 3, 4, 5, 6] rfl (hk6 _ _)
    · refine J.iload (pc := 36) C dX8_votersOf_36 rfl ?_
      refine J.iload_n (pc := 38) C dX8_votersOf_38 rfl rfl ?_
      refine J.icmp_ne (pc := 39) C (tgt := 46) dX8_votersOf_39 rfl ?_ ?_
      · refine J.iconst (pc := 46) C dX8_votersOf_46 ki_0 ?_
        refine J.iload (pc := 47) C dX8_votersOf_47 rfl ?_
        refine J.icmp_ne (pc := 49) C (tgt := 59) dX8_votersOf_49 rfl ?_ ?_
        · refine J.iconst (pc := 59) C dX8_votersOf_59 ki_0 ?_
          refine J.ior (pc := 60) C dX8_votersOf_60 ?_
          refine J.istore (pc := 61) C (lv' := [(0, rv g a0), (1, .int a1), (2, .int a2), (3, .int a3), (4, .int a4), (5, .int (x5 ||| 0)), (6, .int x6), (7, .int r1)]) dX8_votersOf_61 (Nat.le_of_ble_eq_true rfl) rfl ?_
          refine J.iinc (pc := 63) C (lv' := [(0, rv g a0), (1, .int a1), (2, .int a2), (3, .int a3), (4, .int a4), (5, .int (x5 ||| 0)), (6, .int (x6 + 1)), (7, .int r1)]) dX8_votersOf_63 rfl (Nat.le_of_ble_eq_true rfl) ki_1 rfl ?_
          refine J.goto (pc := 66) C (tgt := 6) dX8_votersOf_66 rfl ?_
          exact J.pick [0, 1, 2, 3, 4, 5, 6] rfl (hk6 _ _)
        · refine J.iconst (pc := 52) C dX8_votersOf_52 ki_1 ?_
          refine J.iload (pc := 53) C dX8_votersOf_53 rfl ?_
          refine J.ishl (pc := 55) C dX8_votersOf_55 ?_
          refine J.goto (pc := 56) C (tgt := 60) dX8_votersOf_56 rfl ?_
          refine J.ior (pc := 60) C dX8_votersOf_60 ?_
          refine J.istore (pc := 61) C (lv' := [(0, rv g a0), (1, .int a1), (2, .int a2), (3, .int a3), (4, .int a4), (5, .int (x5 ||| (1 <<< (x6 &&& 31)))), (6, .int x6), (7, .int r1)]) dX8_votersOf_61 (Nat.le_of_ble_eq_true rfl) rfl ?_
          refine J.iinc (pc := 63) C (lv' := [(0, rv g a0), (1, .int a1), (2, .int a2), (3, .int a3), (4, .int a4), (5, .int (x5 ||| (1 <<< (x6 &&& 31)))), (6, .int (x6 + 1)), (7, .int r1)]) dX8_votersOf_63 rfl (Nat.le_of_ble_eq_true rfl) ki_1 rfl ?_
          refine J.goto (pc := 66) C (tgt := 6) dX8_votersOf_66 rfl ?_
          exact J.pick [0, 1, 2, 3, 4, 5, 6] rfl (hk6 _ _)
      · refine J.iconst (pc := 42) C dX8_votersOf_42 ki_1 ?_
        refine J.goto (pc := 43) C (tgt := 47) dX8_votersOf_43 rfl ?_
        refine J.iload (pc := 47) C dX8_votersOf_47 rfl ?_
        refine J.icmp_ne (pc := 49) C (tgt := 59) dX8_votersOf_49 rfl ?_ ?_
        · refine J.iconst (pc := 59) C dX8_votersOf_59 ki_0 ?_
          refine J.ior (pc := 60) C dX8_votersOf_60 ?_
          refine J.istore (pc := 61) C (lv' := [(0, rv g a0), (1, .int a1), (2, .int a2), (3, .int a3), (4, .int a4), (5, .int (x5 ||| 0)), (6, .int x6), (7, .int r1)]) dX8_votersOf_61 (Nat.le_of_ble_eq_true rfl) rfl ?_
          refine J.iinc (pc := 63) C (lv' := [(0, rv g a0), (1, .int a1), (2, .int a2), (3, .int a3), (4, .int a4), (5, .int (x5 ||| 0)), (6, .int (x6 + 1)), (7, .int r1)]) dX8_votersOf_63 rfl (Nat.le_of_ble_eq_true rfl) ki_1 rfl ?_
          refine J.goto (pc := 66) C (tgt := 6) dX8_votersOf_66 rfl ?_
          exact J.pick [0, 1, 2, 3, 4, 5, 6] rfl (hk6 _ _)
        · refine J.iconst (pc := 52) C dX8_votersOf_52 ki_1 ?_
          refine J.iload (pc := 53) C dX8_votersOf_53 rfl ?_
          refine J.ishl (pc := 55) C dX8_votersOf_55 ?_
          refine J.goto (pc := 56) C (tgt := 60) dX8_votersOf_56 rfl ?_
          refine J.ior (pc := 60) C dX8_votersOf_60 ?_
          refine J.istore (pc := 61) C (lv' := [(0, rv g a0), (1, .int a1), (2, .int a2), (3, .int a3), (4, .int a4), (5, .int (x5 ||| (1 <<< (x6 &&& 31)))), (6, .int x6), (7, .int r1)]) dX8_votersOf_61 (Nat.le_of_ble_eq_true rfl) rfl ?_
          refine J.iinc (pc := 63) C (lv' := [(0, rv g a0), (1, .int a1), (2, .int a2), (3, .int a3), (4, .int a4), (5, .int (x5 ||| (1 <<< (x6 &&& 31)))), (6, .int (x6 + 1)), (7, .int r1)]) dX8_votersOf_63 rfl (Nat.le_of_ble_eq_true rfl) ki_1 rfl ?_
          refine J.goto (pc := 66) C (tgt := 6) dX8_votersOf_66 rfl ?_
          exact J.pick [0, 1, 2, 3, 4, 5, 6] rfl (hk6 _ _)
def f_X8_votersOf (S : St) (a0 : Nat) (a1 : Int32) (a2 : Int32) (a3 : Int32) (a4 : Int32) : Option Int32 :=
  (wl2 (f_X8_votersOf_B6 S a0 a1 a2 a3 a4 (fun (y5_2 : Int32) => (some y5_2))) FU 0 0)
set_option maxRecDepth 100000 in
set_option maxHeartbeats 4000000 in
theorem c_X8_votersOf (l : Launch) (g : GG) (S : St) (a0 : Nat) (a1 : Int32) (a2 : Int32) (a3 : Int32) (a4 : Int32) : Ct l yX8_votersOf cX8_votersOf 8 (some .int) rm_X8_votersOf g aI (pK S) [rv g a0, .int a1, .int a2, .int a3, .int a4] S (f_X8_votersOf S a0 a1 a2 a3 a4) := by
  refine Ct.mk (cf := cw (0, 0)) (by decide +kernel) (cat_r (cat_i (cat_i (cat_i (cat_i cat_n))))) (Nat.le_of_ble_eq_true rfl) rfl ?_
  intro X hXl hin C
  show J X g _ _ 0 [(0, rv g a0), (1, .int a1), (2, .int a2), (3, .int a3), (4, .int a4)] [] S (f_X8_votersOf S a0 a1 a2 a3 a4)
  unfold f_X8_votersOf
  refine J.iconst (pc := 0) C dX8_votersOf_0 ki_0 ?_
  refine J.istore (pc := 1) C (lv' := [(0, rv g a0), (1, .int a1), (2, .int a2), (3, .int a3), (4, .int a4), (5, .int 0)]) dX8_votersOf_1 (Nat.le_of_ble_eq_true rfl) rfl ?_
  refine J.iconst (pc := 3) C dX8_votersOf_3 ki_0 ?_
  refine J.istore (pc := 4) C (lv' := [(0, rv g a0), (1, .int a1), (2, .int a2), (3, .int a3), (4, .int a4), (5, .int 0), (6, .int 0)]) dX8_votersOf_4 (Nat.le_of_ble_eq_true rfl) rfl ?_
  refine w_X8_votersOf_B6 C _ _ _ _ _ _ _ (fun y5_2 => ?_) FU _ _
  refine J.iload (pc := 69) C dX8_votersOf_69 rfl ?_
  exact J.iret (pc := 71) C rfl rfl ⟨Nat.le_refl _, Nat.le_refl _⟩ dX8_votersOf_71
abbrev rm_X8_dissent : Room := { frames := 6, cells := 0, slots := 0, locals := 143 }
def f_X8_dissent (S : St) (a0 : Nat) (a1 : Int32) (a2 : Int32) : Option (Int32 × St) :=
  (chk (okc S 8 a0) (bnd (f_X8_areFrames S a0 a1 a2) fun r1 =>
  (if r1 = 0 then
  (some ((-10000001), S))
  else (chk (okc S 8 a0) (bnd2 (f_X8_toldBy S a0 a1 a2 0) fun r2 S_3 =>
  (if r2 = (-1000000) then
  (some ((-10000004), S_3))
  else (chk (okc S_3 8 a0) (bnd (f_X8_votersOf S_3 a0 a1 a2 r2 0) fun r4 =>
  (some (r4, S_3))))))))))
set_option maxRecDepth 100000 in
set_option maxHeartbeats 4000000 in
theorem c_X8_dissent (l : Launch) (g : GG) (S : St) (a0 : Nat) (a1 : Int32) (a2 : Int32) : Ct l yX8_dissent cX8_dissent 4 (some .int) rm_X8_dissent g aW pW [rv g a0, .int a1, .int a2] S (f_X8_dissent S a0 a1 a2) := by
  refine Ct.mk (cf := cw (0, 0)) (by decide +kernel) (cat_r (cat_i (cat_i cat_n))) (Nat.le_of_ble_eq_true rfl) rfl ?_
  intro X hXl hin C
  show J X g _ _ 0 [(0, rv g a0), (1, .int a1), (2, .int a2)] [] S (f_X8_dissent S a0 a1 a2)
  unfold f_X8_dissent
  refine J.aload_n (pc := 0) C (x := a0) dX8_dissent_0 rfl rfl ?_
  refine J.iload_n (pc := 1) C dX8_dissent_1 rfl rfl ?_
  refine J.iload_n (pc := 2) C dX8_dissent_2 rfl rfl ?_
  refine J.vI (pc := 3) C mv_X8_areFrames wm_RX8_130 (fun l => c_X8_areFrames l g S a0 a1 a2) ⟨⟨Nat.zero_le _, Nat.zero_le _⟩, rfl, rfl⟩ rfl ⟨Nat.le_of_ble_eq_true rfl, Nat.le_of_ble_eq_true rfl⟩ rfl cat_n (Nat.le_of_ble_eq_true rfl) dX8_dissent_3 (fun r1 => ?_)
  refine J.if_ne (pc := 6) C (tgt := 12) dX8_dissent_6 rfl ?_ ?_
  · refine J.aload_n (pc := 12) C (x := a0) dX8_dissent_12 rfl rfl ?_
    refine J.iload_n (pc := 13) C dX8_dissent_13 rfl rfl ?_
    refine J.iload_n (pc := 14) C dX8_dissent_14 rfl rfl ?_
    refine J.iconst (pc := 15) C dX8_dissent_15 ki_0 ?_
    refine J.vW (pc := 16) C mv_X8_toldBy wm_RX8_150 (fun l => c_X8_toldBy l g S a0 a1 a2 0) ⟨⟨Nat.zero_le _, Nat.zero_le _⟩, rfl, rfl⟩ rfl ⟨Nat.le_of_ble_eq_true rfl, Nat.le_of_ble_eq_true rfl⟩ rfl cat_n (Nat.le_of_ble_eq_true rfl) dX8_dissent_16 (fun r2 S_3 => ?_)
    refine J.istore_n (pc := 19) C (lv' := [(0, rv g a0), (1, .int a1), (2, .int a2), (3, .int r2)]) dX8_dissent_19 rfl (Nat.le_of_ble_eq_true rfl) rfl ?_
    refine J.iload_n (pc := 20) C dX8_dissent_20 rfl rfl ?_
    refine J.ldc (pc := 21) C wc_RX8_49 dX8_dissent_21 ?_
    refine J.icmp_ne (pc := 23) C (tgt := 31) dX8_dissent_23 rfl ?_ ?_
    · refine J.aload_n (pc := 31) C (x := a0) dX8_dissent_31 rfl rfl ?_
      refine J.iload_n (pc := 32) C dX8_dissent_32 rfl rfl ?_
      refine J.iload_n (pc := 33) C dX8_dissent_33 rfl rfl ?_
      refine J.iload_n (pc := 34) C dX8_dissent_34 rfl rfl ?_
      refine J.iconst (pc := 35) C dX8_dissent_35 ki_0 ?_
      refine J.vI (pc := 36) C mv_X8_votersOf wm_RX8_154 (fun l => c_X8_votersOf l g S_3 a0 a1 a2 r2 0) ⟨⟨Nat.zero_le _, Nat.zero_le _⟩, rfl, rfl⟩ rfl ⟨Nat.le_of_ble_eq_true rfl, Nat.le_of_ble_eq_true rfl⟩ rfl cat_n (Nat.le_of_ble_eq_true rfl) dX8_dissent_36 (fun r4 => ?_)
      exact J.iret (pc := 39) C rfl rfl ⟨Nat.le_refl _, Nat.le_refl _⟩ dX8_dissent_39
    · refine J.ldc (pc := 26) C wc_RX8_120 dX8_dissent_26 ?_
      refine J.goto (pc := 28) C (tgt := 39) dX8_dissent_28 rfl ?_
      exact J.iret (pc := 39) C rfl rfl ⟨Nat.le_refl _, Nat.le_refl _⟩ dX8_dissent_39
  · refine J.ldc (pc := 9) C wc_RX8_44 dX8_dissent_9 ?_
    exact J.iret (pc := 11) C rfl rfl ⟨Nat.le_refl _, Nat.le_refl _⟩ dX8_dissent_11
abbrev rm_X8_isRow : Room := { frames := 1, cells := 0, slots := 0, locals := 22 }
def f_X8_isRow (S : St) (a0 : Nat) (a1 : Int32) : Option Int32 :=
  (chk (okc S 8 a0)
  (chk (ina S 10 (S.2.1 a0 0) 0)
  (bnd (f_X8_in a1 0 ((S.1 (S.2.1 a0 0) (0 : Int32).toNatClampNeg) - 1)) fun r1 =>
  (chk (r1 = 0 ∨ r1 = 1) (some r1)))))
set_option maxRecDepth 100000 in
set_option maxHeartbeats 4000000 in
theorem c_X8_isRow (l : Launch) (g : GG) (S : St) (a0 : Nat) (a1 : Int32) : Ct l yX8_isRow cX8_isRow 2 (some .boolean) rm_X8_isRow g aI (pK S) [rv g a0, .int a1] S (f_X8_isRow S a0 a1) := by
  refine Ct.mk (cf := cw (0, 0)) (by decide +kernel) (cat_r (cat_i cat_n)) (Nat.le_of_ble_eq_true rfl) rfl ?_
  intro X hXl hin C
  show J X g _ _ 0 [(0, rv g a0), (1, .int a1)] [] S (f_X8_isRow S a0 a1)
  unfold f_X8_isRow
  refine J.iload_n (pc := 0) C dX8_isRow_0 rfl rfl ?_
  refine J.iconst (pc := 1) C dX8_isRow_1 ki_0 ?_
  refine J.aload_n (pc := 2) C (x := a0) dX8_isRow_2 rfl rfl ?_
  refine J.getR (pc := 3) C fl_RX8_7 rfl dX8_isRow_3 ?_
  refine J.iconst (pc := 6) C dX8_isRow_6 ki_0 ?_
  refine J.iald (pc := 7) C dX8_isRow_7 ?_
  refine J.iconst (pc := 8) C dX8_isRow_8 ki_1 ?_
  refine J.isub (pc := 9) C dX8_isRow_9 ?_
  refine J.sI (pc := 10) C ms_X8_in wm_RX8_36 (fun l => c_X8_in l g S a1 0 ((S.1 (S.2.1 a0 0) (0 : Int32).toNatClampNeg) - 1)) ⟨⟨Nat.zero_le _, Nat.zero_le _⟩, rfl, rfl⟩ rfl ⟨Nat.le_of_ble_eq_true rfl, Nat.le_of_ble_eq_true rfl⟩ rfl cat_n (Nat.le_of_ble_eq_true rfl) dX8_isRow_10 (fun r1 => ?_)
  refine J.ck (fun hz => ?_)
  exact J.zret (pc := 13) C (nar_z hz) rfl rfl ⟨Nat.le_refl _, Nat.le_refl _⟩ dX8_isRow_13
abbrev rm_X8_edges : Room := { frames := 4, cells := 0, slots := 0, locals := 93 }
def f_X8_edges (S : St) (a0 : Nat) (a1 : Int32) (a2 : Int32) : Option Int32 :=
  (chk (okc S 8 a0) (bnd (f_X8_isFrame S a0 a1) fun r1 =>
  (if r1 = 0 then
  (some (-10000001))
  else (chk (okc S 8 a0) (bnd (f_X8_isRow S a0 a2) fun r2 =>
  (if r2 = 0 then
  (some (-10000001))
  else (chk (okc S 8 a0) (bnd (f_X8_isSeen S a0 a1 a2) fun r3 =>
  (if r3 = 0 then
  (some (-10000004))
  else (chk (okc S 8 a0) (bnd (f_X8_edgesIn S a0 a1 a2) fun r4 =>
  (some r4))))))))))))
set_option maxRecDepth 100000 in
set_option maxHeartbeats 4000000 in
theorem c_X8_edges (l : Launch) (g : GG) (S : St) (a0 : Nat) (a1 : Int32) (a2 : Int32) : Ct l yX8_edges cX8_edges 3 (some .int) rm_X8_edges g aI (pK S) [rv g a0, .int a1, .int a2] S (f_X8_edges S a0 a1 a2) := by
  refine Ct.mk (cf := cw (0, 0)) (by decide +kernel) (cat_r (cat_i (cat_i cat_n))) (Nat.le_of_ble_eq_true rfl) rfl ?_
  intro X hXl hin C
  show J X g _ _ 0 [(0, rv g a0), (1, .int a1), (2, .int a2)] [] S (f_X8_edges S a0 a1 a2)
  unfold f_X8_edges
  refine J.aload_n (pc := 0) C (x := a0) dX8_edges_0 rfl rfl ?_
  refine J.iload_n (pc := 1) C dX8_edges_1 rfl rfl ?_
  refine J.vI (pc := 2) C mv_X8_isFrame wm_RX8_97 (fun l => c_X8_isFrame l g S a0 a1) ⟨⟨Nat.zero_le _, Nat.zero_le _⟩, rfl, rfl⟩ rfl ⟨Nat.le_of_ble_eq_true rfl, Nat.le_of_ble_eq_true rfl⟩ rfl cat_n (Nat.le_of_ble_eq_true rfl) dX8_edges_2 (fun r1 => ?_)
  refine J.if_eq (pc := 5) C (tgt := 16) dX8_edges_5 rfl ?_ ?_
  · refine J.ldc (pc := 16) C wc_RX8_44 dX8_edges_16 ?_
    exact J.iret (pc := 18) C rfl rfl ⟨Nat.le_refl _, Nat.le_refl _⟩ dX8_edges_18
  · refine J.aload_n (pc := 8) C (x := a0) dX8_edges_8 rfl rfl ?_
    refine J.iload_n (pc := 9) C dX8_edges_9 rfl rfl ?_
    refine J.vI (pc := 10) C mv_X8_isRow wm_RX8_79 (fun l => c_X8_isRow l g S a0 a2) ⟨⟨Nat.zero_le _, Nat.zero_le _⟩, rfl, rfl⟩ rfl ⟨Nat.le_of_ble_eq_true rfl, Nat.le_of_ble_eq_true rfl⟩ rfl cat_n (Nat.le_of_ble_eq_true rfl) dX8_edges_10 (fun r2 => ?_)
    refine J.if_ne (pc := 13) C (tgt := 19) dX8_edges_13 rfl ?_ ?_
    · refine J.aload_n (pc := 19) C (x := a0) dX8_edges_19 rfl rfl ?_
      refine J.iload_n (pc := 20) C dX8_edges_20 rfl rfl ?_
      refine J.iload_n (pc := 21) C dX8_edges_21 rfl rfl ?_
      refine J.vI (pc := 22) C mv_X8_isSeen wm_RX8_107 (fun l => c_X8_isSeen l g S a0 a1 a2) ⟨⟨Nat.zero_le _, Nat.zero_le _⟩, rfl, rfl⟩ rfl ⟨Nat.le_of_ble_eq_true rfl, Nat.le_of_ble_eq_true rfl⟩ rfl cat_n (Nat.le_of_ble_eq_true rfl) dX8_edges_22 (fun r3 => ?_)
      refine J.if_eq (pc := 25) C (tgt := 37) dX8_edges_25 rfl ?_ ?_
      · refine J.ldc (pc := 37) C wc_RX8_120 dX8_edges_37 ?_
        exact J.iret (pc := 39) C rfl rfl ⟨Nat.le_refl _, Nat.le_refl _⟩ dX8_edges_39
      · refine J.aload_n (pc := 28) C (x := a0) dX8_edges_28 rfl rfl ?_
        refine J.iload_n (pc := 29) C dX8_edges_29 rfl rfl ?_
        refine J.iload_n (pc := 30) C dX8_edges_30 rfl rfl ?_
        refine J.vI (pc := 31) C mv_X8_edgesIn wm_RX8_117 (fun l => c_X8_edgesIn l g S a0 a1 a2) ⟨⟨Nat.zero_le _, Nat.zero_le _⟩, rfl, rfl⟩ rfl ⟨Nat.le_of_ble_eq_true rfl, Nat.le_of_ble_eq_true rfl⟩ rfl cat_n (Nat.le_of_ble_eq_true rfl) dX8_edges_31 (fun r4 => ?_)
        refine J.goto (pc := 34) C (tgt := 39) dX8_edges_34 rfl ?_
        exact J.iret (pc := 39) C rfl rfl ⟨Nat.le_refl _, Nat.le_refl _⟩ dX8_edges_39
    · refine J.ldc (pc := 16) C wc_RX8_44 dX8_edges_16 ?_
      exact J.iret (pc := 18) C rfl rfl ⟨Nat.le_refl _, Nat.le_refl _⟩ dX8_edges_18
abbrev rm_X8_can : Room := { frames := 1, cells := 0, slots := 0, locals := 21 }
def f_X8_can (S : St) (a0 : Nat) (a1 : Int32) (a2 : Int32) : Option Int32 :=
  (if a1 = 103 then
  (chk (ina S 10 a0 33)
  (if (20000 : Int32) < ((S.1 a0 (33 : Int32).toNatClampNeg) + a2) then
  (some 0)
  else (some 1)))
  else (if a1 = 115 then
  (some 1)
  else (if a1 = 116 then
  (chk (ina S 10 a0 8)
  (if (4 : Int32) ≤ (S.1 a0 (8 : Int32).toNatClampNeg) then
  (some 0)
  else (some 1)))
  else (chk (ina S 10 a0 34)
  (bnd (f_X8_has (S.1 a0 (34 : Int32).toNatClampNeg) a2) fun r1 =>
  (if a1 = 117 then
  (if r1 = 1 then
  (some 1)
  else (some 0))
  else (if r1 = 0 then
  (some 1)
  else (some 0))))))))
set_option maxRecDepth 100000 in
set_option maxHeartbeats 4000000 in
theorem c_X8_can (l : Launch) (g : GG) (S : St) (a0 : Nat) (a1 : Int32) (a2 : Int32) : Ct l yX8_can cX8_can 3 (some .boolean) rm_X8_can g aI (pK S) [rv g a0, .int a1, .int a2] S (f_X8_can S a0 a1 a2) := by
  refine Ct.mk (cf := cw (0, 0)) (by decide +kernel) (cat_r (cat_i (cat_i cat_n))) (Nat.le_of_ble_eq_true rfl) rfl ?_
  intro X hXl hin C
  show J X g _ _ 0 [(0, rv g a0), (1, .int a1), (2, .int a2)] [] S (f_X8_can S a0 a1 a2)
  unfold f_X8_can
  refine J.iload_n (pc := 0) C dX8_can_0 rfl rfl ?_
  refine J.ite (fun h0 => ?_) (fun h0 => ?_)
  · refine J.lsw (pc := 1) C (off := 49) (tgt := 50) dX8_can_1 rfl (by first | (rw [h0]; rfl) | (rw [h0])) rfl ?_
    refine J.aload_n (pc := 50) C (x := a0) dX8_can_50 rfl rfl ?_
    refine J.bipush (pc := 51) C dX8_can_51 kb_33 ?_
    refine J.iald (pc := 53) C dX8_can_53 ?_
    refine J.iload_n (pc := 54) C dX8_can_54 rfl rfl ?_
    refine J.iadd (pc := 55) C dX8_can_55 ?_
    refine J.sipush (pc := 56) C dX8_can_56 ks_20000 ?_
    refine J.icmp_gt (pc := 59) C (tgt := 66) dX8_can_59 rfl ?_ ?_
    · refine J.iconst (pc := 66) C dX8_can_66 ki_0 ?_
      exact J.zret (pc := 67) C rfl rfl rfl ⟨Nat.le_refl _, Nat.le_refl _⟩ dX8_can_67
    · refine J.iconst (pc := 62) C dX8_can_62 ki_1 ?_
      refine J.goto (pc := 63) C (tgt := 67) dX8_can_63 rfl ?_
      exact J.zret (pc := 67) C rfl rfl rfl ⟨Nat.le_refl _, Nat.le_refl _⟩ dX8_can_67
  · refine J.ite (fun h1 => ?_) (fun h1 => ?_)
    · refine J.lsw (pc := 1) C (off := 67) (tgt := 68) dX8_can_1 rfl (by first | (rw [h1]; rfl) | (rw [h1])) rfl ?_
      refine J.iconst (pc := 68) C dX8_can_68 ki_1 ?_
      exact J.zret (pc := 69) C rfl rfl rfl ⟨Nat.le_refl _, Nat.le_refl _⟩ dX8_can_69
    · refine J.ite (fun h2 => ?_) (fun h2 => ?_)
      · refine J.lsw (pc := 1) C (off := 35) (tgt := 36) dX8_can_1 rfl (by first | (rw [h2]; rfl) | (rw [h2])) rfl ?_
        refine J.aload_n (pc := 36) C (x := a0) dX8_can_36 rfl rfl ?_
        refine J.bipush (pc := 37) C dX8_can_37 kb_8 ?_
        refine J.iald (pc := 39) C dX8_can_39 ?_
        refine J.iconst (pc := 40) C dX8_can_40 ki_4 ?_
        refine J.icmp_ge (pc := 41) C (tgt := 48) dX8_can_41 rfl ?_ ?_
        · refine J.iconst (pc := 48) C dX8_can_48 ki_0 ?_
          exact J.zret (pc := 49) C rfl rfl rfl ⟨Nat.le_refl _, Nat.le_refl _⟩ dX8_can_49
        · refine J.iconst (pc := 44) C dX8_can_44 ki_1 ?_
          refine J.goto (pc := 45) C (tgt := 49) dX8_can_45 rfl ?_
          exact J.zret (pc := 49) C rfl rfl rfl ⟨Nat.le_refl _, Nat.le_refl _⟩ dX8_can_49
      · refine J.lsw (pc := 1) C (off := 69) (tgt := 70) dX8_can_1 rfl (by show Op.lookupswitch.offset [(103, 49), (115, 67), (116, 35)] 69 _ = 69; first | (rw [lv_osw (a := 103) h0 rfl, lv_osw (a := 115) h1 rfl, lv_osw (a := 116) h2 rfl]; rfl) | (rw [lv_osw (a := 103) h0 rfl, lv_osw (a := 115) h1 rfl, lv_osw (a := 116) h2 rfl])) rfl ?_
        refine J.aload_n (pc := 70) C (x := a0) dX8_can_70 rfl rfl ?_
        refine J.bipush (pc := 71) C dX8_can_71 kb_34 ?_
        refine J.iald (pc := 73) C dX8_can_73 ?_
        refine J.iload_n (pc := 74) C dX8_can_74 rfl rfl ?_
        refine J.sI (pc := 75) C ms_X8_has wm_RX8_104 (fun l => c_X8_has l g S (S.1 a0 (34 : Int32).toNatClampNeg) a2) ⟨⟨Nat.zero_le _, Nat.zero_le _⟩, rfl, rfl⟩ rfl ⟨Nat.le_of_ble_eq_true rfl, Nat.le_of_ble_eq_true rfl⟩ rfl cat_n (Nat.le_of_ble_eq_true rfl) dX8_can_75 (fun r1 => ?_)
        refine J.iload_n (pc := 78) C dX8_can_78 rfl rfl ?_
        refine J.bipush (pc := 79) C dX8_can_79 kb_117 ?_
        refine J.icmp_ne (pc := 81) C (tgt := 88) dX8_can_81 rfl ?_ ?_
        · refine J.iconst (pc := 88) C dX8_can_88 ki_0 ?_
          refine J.icmp_ne (pc := 89) C (tgt := 96) dX8_can_89 rfl ?_ ?_
          · refine J.iconst (pc := 96) C dX8_can_96 ki_0 ?_
            exact J.zret (pc := 97) C rfl rfl rfl ⟨Nat.le_refl _, Nat.le_refl _⟩ dX8_can_97
          · refine J.iconst (pc := 92) C dX8_can_92 ki_1 ?_
            refine J.goto (pc := 93) C (tgt := 97) dX8_can_93 rfl ?_
            exact J.zret (pc := 97) C rfl rfl rfl ⟨Nat.le_refl _, Nat.le_refl _⟩ dX8_can_97
        · refine J.iconst (pc := 84) C dX8_can_84 ki_1 ?_
          refine J.goto (pc := 85) C (tgt := 89) dX8_can_85 rfl ?_
          refine J.icmp_ne (pc := 89) C (tgt := 96) dX8_can_89 rfl ?_ ?_
          · refine J.iconst (pc := 96) C dX8_can_96 ki_0 ?_
            exact J.zret (pc := 97) C rfl rfl rfl ⟨Nat.le_refl _, Nat.le_refl _⟩ dX8_can_97
          · refine J.iconst (pc := 92) C dX8_can_92 ki_1 ?_
            refine J.goto (pc := 93) C (tgt := 97) dX8_can_93 rfl ?_
            exact J.zret (pc := 97) C rfl rfl rfl ⟨Nat.le_refl _, Nat.le_refl _⟩ dX8_can_97
abbrev rm_X8_adds : Room := { frames := 0, cells := 0, slots := 0, locals := 0 }
def f_X8_adds (S : St) (a0 : Nat) (a1 : Int32) (a2 : Int32) (a3 : Int32) (a4 : Int32) (a5 : Int32) (a6 : Int32) : Option St :=
  (chk (ina S 10 a0 8)
  (vlt (9 + (6 * (S.1 a0 (8 : Int32).toNatClampNeg))) fun v1 =>
  (chk (inw S 10 a0 v1) (vlt (upI S a0 v1.toNatClampNeg a1) fun S_2 =>
  (chk (inw S_2 10 a0 (v1 + 1)) (vlt (upI S_2 a0 (v1 + 1).toNatClampNeg a2) fun S_3 =>
  (chk (inw S_3 10 a0 (v1 + 2)) (vlt (upI S_3 a0 (v1 + 2).toNatClampNeg a3) fun S_4 =>
  (chk (inw S_4 10 a0 (v1 + 3)) (vlt (upI S_4 a0 (v1 + 3).toNatClampNeg a4) fun S_5 =>
  (chk (inw S_5 10 a0 (v1 + 4)) (vlt (upI S_5 a0 (v1 + 4).toNatClampNeg a5) fun S_6 =>
  (chk (inw S_6 10 a0 (v1 + 5)) (vlt (upI S_6 a0 (v1 + 5).toNatClampNeg a6) fun S_7 =>
  (chk (ina S_7 10 a0 8)
  (chk (inw S_7 10 a0 8) (vlt (upI S_7 a0 (8 : Int32).toNatClampNeg ((S_7.1 a0 (8 : Int32).toNatClampNeg) + 1)) fun S_8 =>
  (some S_8))))))))))))))))))
set_option maxRecDepth 100000 in
set_option maxHeartbeats 4000000 in
theorem c_X8_adds (l : Launch) (g : GG) (S : St) (a0 : Nat) (a1 : Int32) (a2 : Int32) (a3 : Int32) (a4 : Int32) (a5 : Int32) (a6 : Int32) : Ct l yX8_adds cX8_adds 8 none rm_X8_adds g aU pU [rv g a0, .int a1, .int a2, .int a3, .int a4, .int a5, .int a6] S (f_X8_adds S a0 a1 a2 a3 a4 a5 a6) := by
  refine Ct.mk (cf := cw (0, 0)) (by decide +kernel) (cat_r (cat_i (cat_i (cat_i (cat_i (cat_i (cat_i cat_n))))))) (Nat.le_of_ble_eq_true rfl) rfl ?_
  intro X hXl hin C
  show J X g _ _ 0 [(0, rv g a0), (1, .int a1), (2, .int a2), (3, .int a3), (4, .int a4), (5, .int a5), (6, .int a6)] [] S (f_X8_adds S a0 a1 a2 a3 a4 a5 a6)
  unfold f_X8_adds
  refine J.bipush (pc := 0) C dX8_adds_0 kb_9 ?_
  refine J.bipush (pc := 2) C dX8_adds_2 kb_6 ?_
  refine J.aload_n (pc := 4) C (x := a0) dX8_adds_4 rfl rfl ?_
  refine J.bipush (pc := 5) C dX8_adds_5 kb_8 ?_
  refine J.iald (pc := 7) C dX8_adds_7 ?_
  refine J.imul (pc := 8) C dX8_adds_8 ?_
  refine J.iadd (pc := 9) C dX8_adds_9 ?_
  refine J.topi (fun v1 => ?_)
  refine J.istore (pc := 10) C (lv' := [(0, rv g a0), (1, .int a1), (2, .int a2), (3, .int a3), (4, .int a4), (5, .int a5), (6, .int a6), (7, .int v1)]) dX8_adds_10 (Nat.le_of_ble_eq_true rfl) rfl ?_
  refine J.aload_n (pc := 12) C (x := a0) dX8_adds_12 rfl rfl ?_
  refine J.iload (pc := 13) C dX8_adds_13 rfl ?_
  refine J.iload_n (pc := 15) C dX8_adds_15 rfl rfl ?_
  refine J.iasts (pc := 16) C dX8_adds_16 (fun S_2 => ?_)
  refine J.aload_n (pc := 17) C (x := a0) dX8_adds_17 rfl rfl ?_
  refine J.iload (pc := 18) C dX8_adds_18 rfl ?_
  refine J.iconst (pc := 20) C dX8_adds_20 ki_1 ?_
  refine J.iadd (pc := 21) C dX8_adds_21 ?_
  refine J.iload_n (pc := 22) C dX8_adds_22 rfl rfl ?_
  refine J.iasts (pc := 23) C dX8_adds_23 (fun S_3 => ?_)
  refine J.aload_n (pc := 24) C (x := a0) dX8_adds_24 rfl rfl ?_
  refine J.iload (pc := 25) C dX8_adds_25 rfl ?_
  refine J.iconst (pc := 27) C dX8_adds_27 ki_2 ?_
  refine J.iadd (pc := 28) C dX8_adds_28 ?_
  refine J.iload_n (pc := 29) C dX8_adds_29 rfl rfl ?_
  refine J.iasts (pc := 30) C dX8_adds_30 (fun S_4 => ?_)
  refine J.aload_n (pc := 31) C (x := a0) dX8_adds_31 rfl rfl ?_
  refine J.iload (pc := 32) C dX8_adds_32 rfl ?_
  refine J.iconst (pc := 34) C dX8_adds_34 ki_3 ?_
  refine J.iadd (pc := 35) C dX8_adds_35 ?_
  refine J.iload (pc := 36) C dX8_adds_36 rfl ?_
  refine J.iasts (pc := 38) C dX8_adds_38 (fun S_5 => ?_)
  refine J.aload_n (pc := 39) C (x := a0) dX8_adds_39 rfl rfl ?_
  refine J.iload (pc := 40) C dX8_adds_40 rfl ?_
  refine J.iconst (pc := 42) C dX8_adds_42 ki_4 ?_
  refine J.iadd (pc := 43) C dX8_adds_43 ?_
  refine J.iload (pc := 44) C dX8_adds_44 rfl ?_
  refine J.iasts (pc := 46) C dX8_adds_46 (fun S_6 => ?_)
  refine J.aload_n (pc := 47) C (x := a0) dX8_adds_47 rfl rfl ?_
  refine J.iload (pc := 48) C dX8_adds_48 rfl ?_
  refine J.iconst (pc := 50) C dX8_adds_50 ki_5 ?_
  refine J.iadd (pc := 51) C dX8_adds_51 ?_
  refine J.iload (pc := 52) C dX8_adds_52 rfl ?_
  refine J.iasts (pc := 54) C dX8_adds_54 (fun S_7 => ?_)
  refine J.aload_n (pc := 55) C (x := a0) dX8_adds_55 rfl rfl ?_
  refine J.bipush (pc := 56) C dX8_adds_56 kb_8 ?_
  refine J.dup2 (pc := 58) C dX8_adds_58 rfl (rv_cat g _) ?_
  refine J.iald (pc := 59) C dX8_adds_59 ?_
  refine J.iconst (pc := 60) C dX8_adds_60 ki_1 ?_
  refine J.iadd (pc := 61) C dX8_adds_61 ?_
  refine J.iasts (pc := 62) C dX8_adds_62 (fun S_8 => ?_)
  exact J.vret (pc := 63) C rfl rfl ⟨Nat.le_refl _, Nat.le_refl _⟩ dX8_adds_63
abbrev rm_X8_drops : Room := { frames := 0, cells := 0, slots := 0, locals := 0 }
def f_X8_drops_B9 (a0 : Nat) (kx9 : St → Option St) (k9 : St → Int32 → Option St) (S : St) (x2 : Int32) : Option St :=
  (chk (ina S 10 a0 36)
  (if (37 + (162 * ((S.1 a0 (36 : Int32).toNatClampNeg) - 1))) ≤ x2 then
  (kx9 S)
  else (chk (ina S 10 a0 (x2 + 162))
  (chk (inw S 10 a0 x2) (vlt (upI S a0 x2.toNatClampNeg (S.1 a0 (x2 + 162).toNatClampNeg)) fun S_1 =>
  (k9 S_1 (x2 + 1)))))))
set_option maxRecDepth 100000 in
set_option maxHeartbeats 4000000 in
theorem w_X8_drops_B9 {X : CT} {g : GG} (C : CX X g cX8_drops RX8 none 3 rm_X8_drops) (a0 : Nat) (kx9 : St → Option St) (hkx9 : ∀ (S : St), J X g (Qm X g aU pU) (cw (0, 0)) 42 [(0, rv g a0)] [] S (kx9 S)) : ∀ (n : Nat) (S : St) (x2 : Int32), J X g (Qm X g aU pU) (cw (0, 0)) 9 [(0, rv g a0), (2, .int x2)] [] S (wl2 (f_X8_drops_B9 a0 kx9) n S x2) := by
  refine J.loop2 (lvf := fun (S : St) (x2 : Int32) => [(0, rv g a0), (2, .int x2)]) (Sf := fun (S : St) (x2 : Int32) => S) ?_
  intro k9 hk9 S x2
  show J X g _ _ 9 [(0, rv g a0), (2, .int x2)] [] S (f_X8_drops_B9 a0 kx9 k9 S x2)
  unfold f_X8_drops_B9
  refine J.iload_n (pc := 9) C dX8_drops_9 rfl rfl ?_
  refine J.bipush (pc := 10) C dX8_drops_10 kb_37 ?_
  refine J.sipush (pc := 12) C dX8_drops_12 ks_162 ?_
  refine J.aload_n (pc := 15) C (x := a0) dX8_drops_15 rfl rfl ?_
  refine J.bipush (pc := 16) C dX8_drops_16 kb_36 ?_
  refine J.iald (pc := 18) C dX8_drops_18 ?_
  refine J.iconst (pc := 19) C dX8_drops_19 ki_1 ?_
  refine J.isub (pc := 20) C dX8_drops_20 ?_
  refine J.imul (pc := 21) C dX8_drops_21 ?_
  refine J.iadd (pc := 22) C dX8_drops_22 ?_
  refine J.icmp_ge (pc := 23) C (tgt := 42) dX8_drops_23 rfl ?_ ?_
  · exact J.pick [0] rfl (hkx9 _)
  · refine J.aload_n (pc := 26) C (x := a0) dX8_drops_26 rfl rfl ?_
    refine J.iload_n (pc := 27) C dX8_drops_27 rfl rfl ?_
    refine J.aload_n (pc := 28) C (x := a0) dX8_drops_28 rfl rfl ?_
    refine J.iload_n (pc := 29) C dX8_drops_29 rfl rfl ?_
    refine J.sipush (pc := 30) C dX8_drops_30 ks_162 ?_
    refine J.iadd (pc := 33) C dX8_drops_33 ?_
    refine J.iald (pc := 34) C dX8_drops_34 ?_
    refine J.iasts (pc := 35) C dX8_drops_35 (fun S_1 => ?_)
    refine J.iinc (pc := 36) C (lv' := [(0, rv g a0), (2, .int (x2 + 1))]) dX8_drops_36 rfl (Nat.le_of_ble_eq_true rfl) ki_1 rfl ?_
    refine J.goto (pc := 39) C (tgt := 9) dX8_drops_39 rfl ?_
    exact (hk9 _ _)
def f_X8_drops (S : St) (a0 : Nat) (a1 : Int32) : Option St :=
  (wl2 (f_X8_drops_B9 a0 (fun (S_2 : St) => (chk (ina S_2 10 a0 36)
  (chk (inw S_2 10 a0 36) (vlt (upI S_2 a0 (36 : Int32).toNatClampNeg ((S_2.1 a0 (36 : Int32).toNatClampNeg) - 1)) fun S_3 =>
  (some S_3)))))) FU S (37 + (162 * a1)))
set_option maxRecDepth 100000 in
set_option maxHeartbeats 4000000 in
theorem c_X8_drops (l : Launch) (g : GG) (S : St) (a0 : Nat) (a1 : Int32) : Ct l yX8_drops cX8_drops 3 none rm_X8_drops g aU pU [rv g a0, .int a1] S (f_X8_drops S a0 a1) := by
  refine Ct.mk (cf := cw (0, 0)) (by decide +kernel) (cat_r (cat_i cat_n)) (Nat.le_of_ble_eq_true rfl) rfl ?_
  intro X hXl hin C
  show J X g _ _ 0 [(0, rv g a0), (1, .int a1)] [] S (f_X8_drops S a0 a1)
  unfold f_X8_drops
  refine J.bipush (pc := 0) C dX8_drops_0 kb_37 ?_
  refine J.sipush (pc := 2) C dX8_drops_2 ks_162 ?_
  refine J.iload_n (pc := 5) C dX8_drops_5 rfl rfl ?_
  refine J.imul (pc := 6) C dX8_drops_6 ?_
  refine J.iadd (pc := 7) C dX8_drops_7 ?_
  refine J.istore_n (pc := 8) C (lv' := [(0, rv g a0), (1, .int a1), (2, .int (37 + (162 * a1)))]) dX8_drops_8 rfl (Nat.le_of_ble_eq_true rfl) rfl ?_
  refine J.pick [0, 2] rfl ?_
  refine w_X8_drops_B9 C _ _ (fun S_2 => ?_) FU _ _
  refine J.aload_n (pc := 42) C (x := a0) dX8_drops_42 rfl rfl ?_
  refine J.bipush (pc := 43) C dX8_drops_43 kb_36 ?_
  refine J.dup2 (pc := 45) C dX8_drops_45 rfl (rv_cat g _) ?_
  refine J.iald (pc := 46) C dX8_drops_46 ?_
  refine J.iconst (pc := 47) C dX8_drops_47 ki_1 ?_
  refine J.isub (pc := 48) C dX8_drops_48 ?_
  refine J.iasts (pc := 49) C dX8_drops_49 (fun S_3 => ?_)
  exact J.vret (pc := 50) C rfl rfl ⟨Nat.le_refl _, Nat.le_refl _⟩ dX8_drops_50
abbrev rm_X8_takes : Room := { frames := 3, cells := 0, slots := 0, locals := 75 }
def f_X8_takes_B52 (a0 : Nat) (a1 : Int32) (a2 : Int32) (kx52 : St → Option St) (k52 : St → Int32 → Option St) (S : St) (x3 : Int32) : Option St :=
  (chk (ina S 10 a0 1)
  (if (S.1 a0 (1 : Int32).toNatClampNeg) ≤ x3 then
  (kx52 S)
  else (chk (ina S 10 a0 33)
  (chk (ina S 10 a0 2)
  (bnd (f_X8_shown S a0 a2 x3 ((S.1 a0 (33 : Int32).toNatClampNeg) + (a2 * (S.1 a0 (2 : Int32).toNatClampNeg)))) fun r4 =>
  (chk (inw S 10 a0 (((a1 + 2) + (16 * a2)) + x3)) (vlt (upI S a0 (((a1 + 2) + (16 * a2)) + x3).toNatClampNeg r4) fun S_5 =>
  (k52 S_5 (x3 + 1)))))))))
set_option maxRecDepth 100000 in
set_option maxHeartbeats 4000000 in
theorem w_X8_takes_B52 {X : CT} {g : GG} (C : CX X g cX8_takes RX8 none 4 rm_X8_takes) (a0 : Nat) (a1 : Int32) (a2 : Int32) (kx52 : St → Option St) (hkx52 : ∀ (S : St), J X g (Qm X g aU pU) (cw (0, 0)) 93 [(0, rv g a0), (1, .int a1), (2, .int a2)] [] S (kx52 S)) : ∀ (n : Nat) (S : St) (x3 : Int32), J X g (Qm X g aU pU) (cw (0, 0)) 52 [(0, rv g a0), (1, .int a1), (2, .int a2), (3, .int x3)] [] S (wl2 (f_X8_takes_B52 a0 a1 a2 kx52) n S x3) := by
  refine J.loop2 (lvf := fun (S : St) (x3 : Int32) => [(0, rv g a0), (1, .int a1), (2, .int a2), (3, .int x3)]) (Sf := fun (S : St) (x3 : Int32) => S) ?_
  intro k52 hk52 S x3
  show J X g _ _ 52 [(0, rv g a0), (1, .int a1), (2, .int a2), (3, .int x3)] [] S (f_X8_takes_B52 a0 a1 a2 kx52 k52 S x3)
  unfold f_X8_takes_B52
  refine J.iload_n (pc := 52) C dX8_takes_52 rfl rfl ?_
  refine J.aload_n (pc := 53) C (x := a0) dX8_takes_53 rfl rfl ?_
  refine J.iconst (pc := 54) C dX8_takes_54 ki_1 ?_
  refine J.iald (pc := 55) C dX8_takes_55 ?_
  refine J.icmp_ge (pc := 56) C (tgt := 93) dX8_takes_56 rfl ?_ ?_
  · exact J.pick [0, 1, 2] rfl (hkx52 _)
  · refine J.aload_n (pc := 59) C (x := a0) dX8_takes_59 rfl rfl ?_
    refine J.iload_n (pc := 60) C dX8_takes_60 rfl rfl ?_
    refine J.iconst (pc := 61) C dX8_takes_61 ki_2 ?_
    refine J.iadd (pc := 62) C dX8_takes_62 ?_
    refine J.bipush (pc := 63) C dX8_takes_63 kb_16 ?_
    refine J.iload_n (pc := 65) C dX8_takes_65 rfl rfl ?_
    refine J.imul (pc := 66) C dX8_takes_66 ?_
    refine J.iadd (pc := 67) C dX8_takes_67 ?_
    refine J.iload_n (pc := 68) C dX8_takes_68 rfl rfl ?_
    refine J.iadd (pc := 69) C dX8_takes_69 ?_
    refine J.aload_n (pc := 70) C (x := a0) dX8_takes_70 rfl rfl ?_
    refine J.iload_n (pc := 71) C dX8_takes_71 rfl rfl ?_
    refine J.iload_n (pc := 72) C dX8_takes_72 rfl rfl ?_
    refine J.aload_n (pc := 73) C (x := a0) dX8_takes_73 rfl rfl ?_
    refine J.bipush (pc := 74) C dX8_takes_74 kb_33 ?_
    refine J.iald (pc := 76) C dX8_takes_76 ?_
    refine J.iload_n (pc := 77) C dX8_takes_77 rfl rfl ?_
    refine J.aload_n (pc := 78) C (x := a0) dX8_takes_78 rfl rfl ?_
    refine J.iconst (pc := 79) C dX8_takes_79 ki_2 ?_
    refine J.iald (pc := 80) C dX8_takes_80 ?_
    refine J.imul (pc := 81) C dX8_takes_81 ?_
    refine J.iadd (pc := 82) C dX8_takes_82 ?_
    refine J.sI (pc := 83) C ms_X8_shown wm_RX8_85 (fun l => c_X8_shown l g S a0 a2 x3 ((S.1 a0 (33 : Int32).toNatClampNeg) + (a2 * (S.1 a0 (2 : Int32).toNatClampNeg)))) ⟨⟨Nat.zero_le _, Nat.zero_le _⟩, rfl, rfl⟩ rfl ⟨Nat.le_of_ble_eq_true rfl, Nat.le_of_ble_eq_true rfl⟩ rfl (cat_i (cat_r cat_n)) (Nat.le_of_ble_eq_true rfl) dX8_takes_83 (fun r4 => ?_)
    refine J.iasts (pc := 86) C dX8_takes_86 (fun S_5 => ?_)
    refine J.iinc (pc := 87) C (lv' := [(0, rv g a0), (1, .int a1), (2, .int a2), (3, .int (x3 + 1))]) dX8_takes_87 rfl (Nat.le_of_ble_eq_true rfl) ki_1 rfl ?_
    refine J.goto (pc := 90) C (tgt := 52) dX8_takes_90 rfl ?_
    exact (hk52 _ _)
def f_X8_takes_B43 (a0 : Nat) (a1 : Int32) (kx43 : St → Option St) (k43 : St → Int32 → Option St) (S : St) (x2 : Int32) : Option St :=
  (chk (ina S 10 a0 0)
  (if (S.1 a0 (0 : Int32).toNatClampNeg) ≤ x2 then
  (kx43 S)
  else (wl2 (f_X8_takes_B52 a0 a1 x2 (fun (S_6 : St) => (k43 S_6 (x2 + 1)))) FU S 0)))
set_option maxRecDepth 100000 in
set_option maxHeartbeats 4000000 in
theorem w_X8_takes_B43 {X : CT} {g : GG} (C : CX X g cX8_takes RX8 none 4 rm_X8_takes) (a0 : Nat) (a1 : Int32) (kx43 : St → Option St) (hkx43 : ∀ (S : St), J X g (Qm X g aU pU) (cw (0, 0)) 99 [(0, rv g a0)] [] S (kx43 S)) : ∀ (n : Nat) (S : St) (x2 : Int32), J X g (Qm X g aU pU) (cw (0, 0)) 43 [(0, rv g a0), (1, .int a1), (2, .int x2)] [] S (wl2 (f_X8_takes_B43 a0 a1 kx43) n S x2) := by
  refine J.loop2 (lvf := fun (S : St) (x2 : Int32) => [(0, rv g a0), (1, .int a1), (2, .int x2)]) (Sf := fun (S : St) (x2 : Int32) => S) ?_
  intro k43 hk43 S x2
  show J X g _ _ 43 [(0, rv g a0), (1, .int a1), (2, .int x2)] [] S (f_X8_takes_B43 a0 a1 kx43 k43 S x2)
  unfold f_X8_takes_B43
  refine J.iload_n (pc := 43) C dX8_takes_43 rfl rfl ?_
  refine J.aload_n (pc := 44) C (x := a0) dX8_takes_44 rfl rfl ?_
  refine J.iconst (pc := 45) C dX8_takes_45 ki_0 ?_
  refine J.iald (pc := 46) C dX8_takes_46 ?_
  refine J.icmp_ge (pc := 47) C (tgt := 99) dX8_takes_47 rfl ?_ ?_
  · exact J.pick [0] rfl (hkx43 _)
  · refine J.iconst (pc := 50) C dX8_takes_50 ki_0 ?_
    refine J.istore_n (pc := 51) C (lv' := [(0, rv g a0), (1, .int a1), (2, .int x2), (3, .int 0)]) dX8_takes_51 rfl (Nat.le_of_ble_eq_true rfl) rfl ?_
    refine w_X8_takes_B52 C _ _ _ _ (fun S_6 => ?_) FU _ _
    refine J.iinc (pc := 93) C (lv' := [(0, rv g a0), (1, .int a1), (2, .int (x2 + 1))]) dX8_takes_93 rfl (Nat.le_of_ble_eq_true rfl) ki_1 rfl ?_
    refine J.goto (pc := 96) C (tgt := 43) dX8_takes_96 rfl ?_
    exact (hk43 _ _)
def f_X8_takes_J13 (S : St) (x0 : Nat) : Option St :=
  (chk (ina S 10 x0 36)
  (vlt (37 + (162 * (S.1 x0 (36 : Int32).toNatClampNeg))) fun v1 =>
  (chk (ina S 10 x0 33)
  (chk (inw S 10 x0 v1) (vlt (upI S x0 v1.toNatClampNeg (S.1 x0 (33 : Int32).toNatClampNeg)) fun S_2 =>
  (chk (ina S_2 10 x0 34)
  (chk (inw S_2 10 x0 (v1 + 1)) (vlt (upI S_2 x0 (v1 + 1).toNatClampNeg (S_2.1 x0 (34 : Int32).toNatClampNeg)) fun S_3 =>
  (wl2 (f_X8_takes_B43 x0 v1 (fun (S_7 : St) => (chk (ina S_7 10 x0 36)
  (chk (inw S_7 10 x0 36) (vlt (upI S_7 x0 (36 : Int32).toNatClampNeg ((S_7.1 x0 (36 : Int32).toNatClampNeg) + 1)) fun S_8 =>
  (chk (ina S_8 10 x0 35)
  (chk (inw S_8 10 x0 35) (vlt (upI S_8 x0 (35 : Int32).toNatClampNeg ((S_8.1 x0 (35 : Int32).toNatClampNeg) + 1)) fun S_9 =>
  (some S_9))))))))) FU S_3 0)))))))))
set_option maxRecDepth 100000 in
set_option maxHeartbeats 4000000 in
theorem w_X8_takes_J13 {X : CT} {g : GG} (C : CX X g cX8_takes RX8 none 4 rm_X8_takes) (S : St) (x0 : Nat) : J X g (Qm X g aU pU) (cw (0, 0)) 13 [(0, rv g x0)] [] S (f_X8_takes_J13 S x0) := by
  unfold f_X8_takes_J13
  refine J.bipush (pc := 13) C dX8_takes_13 kb_37 ?_
  refine J.sipush (pc := 15) C dX8_takes_15 ks_162 ?_
  refine J.aload_n (pc := 18) C (x := x0) dX8_takes_18 rfl rfl ?_
  refine J.bipush (pc := 19) C dX8_takes_19 kb_36 ?_
  refine J.iald (pc := 21) C dX8_takes_21 ?_
  refine J.imul (pc := 22) C dX8_takes_22 ?_
  refine J.iadd (pc := 23) C dX8_takes_23 ?_
  refine J.topi (fun v1 => ?_)
  refine J.istore_n (pc := 24) C (lv' := [(0, rv g x0), (1, .int v1)]) dX8_takes_24 rfl (Nat.le_of_ble_eq_true rfl) rfl ?_
  refine J.aload_n (pc := 25) C (x := x0) dX8_takes_25 rfl rfl ?_
  refine J.iload_n (pc := 26) C dX8_takes_26 rfl rfl ?_
  refine J.aload_n (pc := 27) C (x := x0) dX8_takes_27 rfl rfl ?_
  refine J.bipush (pc := 28) C dX8_takes_28 kb_33 ?_
  refine J.iald (pc := 30) C dX8_takes_30 ?_
  refine J.iasts (pc := 31) C dX8_takes_31 (fun S_2 => ?_)
  refine J.aload_n (pc := 32) C (x := x0) dX8_takes_32 rfl rfl ?_
  refine J.iload_n (pc := 33) C dX8_takes_33 rfl rfl ?_
  refine J.iconst (pc := 34) C dX8_takes_34 ki_1 ?_
  refine J.iadd (pc := 35) C dX8_takes_35 ?_
  refine J.aload_n (pc := 36) C (x := x0) dX8_takes_36 rfl rfl ?_
  refine J.bipush (pc := 37) C dX8_takes_37 kb_34 ?_
  refine J.iald (pc := 39) C dX8_takes_39 ?_
  refine J.iasts (pc := 40) C dX8_takes_40 (fun S_3 => ?_)
  refine J.iconst (pc := 41) C dX8_takes_41 ki_0 ?_
  refine J.istore_n (pc := 42) C (lv' := [(0, rv g x0), (1, .int v1), (2, .int 0)]) dX8_takes_42 rfl (Nat.le_of_ble_eq_true rfl) rfl ?_
  refine w_X8_takes_B43 C _ _ _ (fun S_7 => ?_) FU _ _
  refine J.aload_n (pc := 99) C (x := x0) dX8_takes_99 rfl rfl ?_
  refine J.bipush (pc := 100) C dX8_takes_100 kb_36 ?_
  refine J.dup2 (pc := 102) C dX8_takes_102 rfl (rv_cat g _) ?_
  refine J.iald (pc := 103) C dX8_takes_103 ?_
  refine J.iconst (pc := 104) C dX8_takes_104 ki_1 ?_
  refine J.iadd (pc := 105) C dX8_takes_105 ?_
  refine J.iasts (pc := 106) C dX8_takes_106 (fun S_8 => ?_)
  refine J.aload_n (pc := 107) C (x := x0) dX8_takes_107 rfl rfl ?_
  refine J.bipush (pc := 108) C dX8_takes_108 kb_35 ?_
  refine J.dup2 (pc := 110) C dX8_takes_110 rfl (rv_cat g _) ?_
  refine J.iald (pc := 111) C dX8_takes_111 ?_
  refine J.iconst (pc := 112) C dX8_takes_112 ki_1 ?_
  refine J.iadd (pc := 113) C dX8_takes_113 ?_
  refine J.iasts (pc := 114) C dX8_takes_114 (fun S_9 => ?_)
  exact J.vret (pc := 115) C rfl rfl ⟨Nat.le_refl _, Nat.le_refl _⟩ dX8_takes_115
def f_X8_takes (S : St) (a0 : Nat) : Option St :=
  (chk (ina S 10 a0 36)
  (if (S.1 a0 (36 : Int32).toNatClampNeg) = 5 then
  (bnd (f_X8_drops S a0 0) fun S_10 =>
  (f_X8_takes_J13 S_10 a0))
  else (f_X8_takes_J13 S a0)))
set_option maxRecDepth 100000 in
set_option maxHeartbeats 4000000 in
theorem c_X8_takes (l : Launch) (g : GG) (S : St) (a0 : Nat) : Ct l yX8_takes cX8_takes 4 none rm_X8_takes g aU pU [rv g a0] S (f_X8_takes S a0) := by
  refine Ct.mk (cf := cw (0, 0)) (by decide +kernel) (cat_r cat_n) (Nat.le_of_ble_eq_true rfl) rfl ?_
  intro X hXl hin C
  show J X g _ _ 0 [(0, rv g a0)] [] S (f_X8_takes S a0)
  unfold f_X8_takes
  refine J.aload_n (pc := 0) C (x := a0) dX8_takes_0 rfl rfl ?_
  refine J.bipush (pc := 1) C dX8_takes_1 kb_36 ?_
  refine J.iald (pc := 3) C dX8_takes_3 ?_
  refine J.iconst (pc := 4) C dX8_takes_4 ki_5 ?_
  refine J.icmp_ne (pc := 5) C (tgt := 13) dX8_takes_5 rfl ?_ ?_
  · exact (w_X8_takes_J13 C _ _)
  · refine J.aload_n (pc := 8) C (x := a0) dX8_takes_8 rfl rfl ?_
    refine J.iconst (pc := 9) C dX8_takes_9 ki_0 ?_
    refine J.sU (pc := 10) C ms_X8_drops wm_RX8_89 (fun l => c_X8_drops l g S a0 0) ⟨⟨Nat.zero_le _, Nat.zero_le _⟩, rfl, rfl⟩ rfl ⟨Nat.le_of_ble_eq_true rfl, Nat.le_of_ble_eq_true rfl⟩ rfl cat_n (Nat.le_of_ble_eq_true rfl) dX8_takes_10 (fun S_10 => ?_)
    exact (w_X8_takes_J13 C _ _)
abbrev rm_X8_does : Room := { frames := 4, cells := 0, slots := 0, locals := 98 }
def f_X8_does (S : St) (a0 : Nat) (a1 : Nat) (a2 : Int32) : Option St :=
  (if a2 = 103 then
  (chk (ina S 10 a1 33)
  (chk (okc S 8 a0)
  (chk (ina S 10 (S.2.1 a0 13) 0)
  (chk (inw S 10 a1 33) (vlt (upI S a1 (33 : Int32).toNatClampNeg ((S.1 a1 (33 : Int32).toNatClampNeg) + (S.1 (S.2.1 a0 13) (0 : Int32).toNatClampNeg))) fun S_1 =>
  (some S_1))))))
  else (if a2 = 115 then
  (bnd (f_X8_takes S a1) fun S_2 =>
  (some S_2))
  else (if a2 = 116 then
  (chk (okc S 8 a0)
  (chk (ina S 10 (S.2.1 a0 13) 0)
  (chk (okc S 8 a0)
  (chk (ina S 10 (S.2.1 a0 13) 1)
  (chk (okc S 8 a0)
  (chk (ina S 10 (S.2.1 a0 13) 2)
  (chk (okc S 8 a0)
  (chk (ina S 10 (S.2.1 a0 13) 3)
  (chk (okc S 8 a0)
  (chk (ina S 10 (S.2.1 a0 13) 4)
  (chk (okc S 8 a0)
  (chk (ina S 10 (S.2.1 a0 13) 5)
  (bnd (f_X8_adds S a1 (S.1 (S.2.1 a0 13) (0 : Int32).toNatClampNeg) (S.1 (S.2.1 a0 13) (1 : Int32).toNatClampNeg) (S.1 (S.2.1 a0 13) (2 : Int32).toNatClampNeg) (S.1 (S.2.1 a0 13) (3 : Int32).toNatClampNeg) (S.1 (S.2.1 a0 13) (4 : Int32).toNatClampNeg) (S.1 (S.2.1 a0 13) (5 : Int32).toNatClampNeg)) fun S_3 =>
  (some S_3))))))))))))))
  else (chk (ina S 10 a1 34)
  (chk (okc S 8 a0)
  (chk (ina S 10 (S.2.1 a0 13) 0)
  (chk (inw S 10 a1 34) (vlt (upI S a1 (34 : Int32).toNatClampNeg ((S.1 a1 (34 : Int32).toNatClampNeg) ^^^ (1 <<< ((S.1 (S.2.1 a0 13) (0 : Int32).toNatClampNeg) &&& 31)))) fun S_4 =>
  (some S_4)))))))))
set_option maxRecDepth 100000 in
set_option maxHeartbeats 4000000 in
theorem c_X8_does (l : Launch) (g : GG) (S : St) (a0 : Nat) (a1 : Nat) (a2 : Int32) : Ct l yX8_does cX8_does 3 none rm_X8_does g aU pU [rv g a0, rv g a1, .int a2] S (f_X8_does S a0 a1 a2) := by
  refine Ct.mk (cf := cw (0, 0)) (by decide +kernel) (cat_r (cat_r (cat_i cat_n))) (Nat.le_of_ble_eq_true rfl) rfl ?_
  intro X hXl hin C
  show J X g _ _ 0 [(0, rv g a0), (1, rv g a1), (2, .int a2)] [] S (f_X8_does S a0 a1 a2)
  unfold f_X8_does
  refine J.iload_n (pc := 0) C dX8_does_0 rfl rfl ?_
  refine J.ite (fun h0 => ?_) (fun h0 => ?_)
  · refine J.lsw (pc := 1) C (off := 78) (tgt := 79) dX8_does_1 rfl (by first | (rw [h0]; rfl) | (rw [h0])) rfl ?_
    refine J.aload_n (pc := 79) C (x := a1) dX8_does_79 rfl rfl ?_
    refine J.bipush (pc := 80) C dX8_does_80 kb_33 ?_
    refine J.dup2 (pc := 82) C dX8_does_82 rfl (rv_cat g _) ?_
    refine J.iald (pc := 83) C dX8_does_83 ?_
    refine J.aload_n (pc := 84) C (x := a0) dX8_does_84 rfl rfl ?_
    refine J.getR (pc := 85) C fl_RX8_25 rfl dX8_does_85 ?_
    refine J.iconst (pc := 88) C dX8_does_88 ki_0 ?_
    refine J.iald (pc := 89) C dX8_does_89 ?_
    refine J.iadd (pc := 90) C dX8_does_90 ?_
    refine J.iasts (pc := 91) C dX8_does_91 (fun S_1 => ?_)
    refine J.goto (pc := 92) C (tgt := 117) dX8_does_92 rfl ?_
    exact J.vret (pc := 117) C rfl rfl ⟨Nat.le_refl _, Nat.le_refl _⟩ dX8_does_117
  · refine J.ite (fun h1 => ?_) (fun h1 => ?_)
    · refine J.lsw (pc := 1) C (off := 94) (tgt := 95) dX8_does_1 rfl (by first | (rw [h1]; rfl) | (rw [h1])) rfl ?_
      refine J.aload_n (pc := 95) C (x := a1) dX8_does_95 rfl rfl ?_
      refine J.sU (pc := 96) C ms_X8_takes wm_RX8_93 (fun l => c_X8_takes l g S a1) ⟨⟨Nat.zero_le _, Nat.zero_le _⟩, rfl, rfl⟩ rfl ⟨Nat.le_of_ble_eq_true rfl, Nat.le_of_ble_eq_true rfl⟩ rfl cat_n (Nat.le_of_ble_eq_true rfl) dX8_does_96 (fun S_2 => ?_)
      refine J.goto (pc := 99) C (tgt := 117) dX8_does_99 rfl ?_
      exact J.vret (pc := 117) C rfl rfl ⟨Nat.le_refl _, Nat.le_refl _⟩ dX8_does_117
    · refine J.ite (fun h2 => ?_) (fun h2 => ?_)
      · refine J.lsw (pc := 1) C (off := 35) (tgt := 36) dX8_does_1 rfl (by first | (rw [h2]; rfl) | (rw [h2])) rfl ?_
        refine J.aload_n (pc := 36) C (x := a1) dX8_does_36 rfl rfl ?_
        refine J.aload_n (pc := 37) C (x := a0) dX8_does_37 rfl rfl ?_
        refine J.getR (pc := 38) C fl_RX8_25 rfl dX8_does_38 ?_
        refine J.iconst (pc := 41) C dX8_does_41 ki_0 ?_
        refine J.iald (pc := 42) C dX8_does_42 ?_
        refine J.aload_n (pc := 43) C (x := a0) dX8_does_43 rfl rfl ?_
        refine J.getR (pc := 44) C fl_RX8_25 rfl dX8_does_44 ?_
        refine J.iconst (pc := 47) C dX8_does_47 ki_1 ?_
        refine J.iald (pc := 48) C dX8_does_48 ?_
        refine J.aload_n (pc := 49) C (x := a0) dX8_does_49 rfl rfl ?_
        refine J.getR (pc := 50) C fl_RX8_25 rfl dX8_does_50 ?_
        refine J.iconst (pc := 53) C dX8_does_53 ki_2 ?_
        refine J.iald (pc := 54) C dX8_does_54 ?_
        refine J.aload_n (pc := 55) C (x := a0) dX8_does_55 rfl rfl ?_
        refine J.getR (pc := 56) C fl_RX8_25 rfl dX8_does_56 ?_
        refine J.iconst (pc := 59) C dX8_does_59 ki_3 ?_
        refine J.iald (pc := 60) C dX8_does_60 ?_
        refine J.aload_n (pc := 61) C (x := a0) dX8_does_61 rfl rfl ?_
        refine J.getR (pc := 62) C fl_RX8_25 rfl dX8_does_62 ?_
        refine J.iconst (pc := 65) C dX8_does_65 ki_4 ?_
        refine J.iald (pc := 66) C dX8_does_66 ?_
        refine J.aload_n (pc := 67) C (x := a0) dX8_does_67 rfl rfl ?_
        refine J.getR (pc := 68) C fl_RX8_25 rfl dX8_does_68 ?_
        refine J.iconst (pc := 71) C dX8_does_71 ki_5 ?_
        refine J.iald (pc := 72) C dX8_does_72 ?_
        refine J.sU (pc := 73) C ms_X8_adds wm_RX8_55 (fun l => c_X8_adds l g S a1 (S.1 (S.2.1 a0 13) (0 : Int32).toNatClampNeg) (S.1 (S.2.1 a0 13) (1 : Int32).toNatClampNeg) (S.1 (S.2.1 a0 13) (2 : Int32).toNatClampNeg) (S.1 (S.2.1 a0 13) (3 : Int32).toNatClampNeg) (S.1 (S.2.1 a0 13) (4 : Int32).toNatClampNeg) (S.1 (S.2.1 a0 13) (5 : Int32).toNatClampNeg)) ⟨⟨Nat.zero_le _, Nat.zero_le _⟩, rfl, rfl⟩ rfl ⟨Nat.le_of_ble_eq_true rfl, Nat.le_of_ble_eq_true rfl⟩ rfl cat_n (Nat.le_of_ble_eq_true rfl) dX8_does_73 (fun S_3 => ?_)
        refine J.goto (pc := 76) C (tgt := 117) dX8_does_76 rfl ?_
        exact J.vret (pc := 117) C rfl rfl ⟨Nat.le_refl _, Nat.le_refl _⟩ dX8_does_117
      · refine J.lsw (pc := 1) C (off := 101) (tgt := 102) dX8_does_1 rfl (by show Op.lookupswitch.offset [(103, 78), (115, 94), (116, 35)] 101 _ = 101; first | (rw [lv_osw (a := 103) h0 rfl, lv_osw (a := 115) h1 rfl, lv_osw (a := 116) h2 rfl]; rfl) | (rw [lv_osw (a := 103) h0 rfl, lv_osw (a := 115) h1 rfl, lv_osw (a := 116) h2 rfl])) rfl ?_
        refine J.aload_n (pc := 102) C (x := a1) dX8_does_102 rfl rfl ?_
        refine J.bipush (pc := 103) C dX8_does_103 kb_34 ?_
        refine J.dup2 (pc := 105) C dX8_does_105 rfl (rv_cat g _) ?_
        refine J.iald (pc := 106) C dX8_does_106 ?_
        refine J.iconst (pc := 107) C dX8_does_107 ki_1 ?_
        refine J.aload_n (pc := 108) C (x := a0) dX8_does_108 rfl rfl ?_
        refine J.getR (pc := 109) C fl_RX8_25 rfl dX8_does_109 ?_
        refine J.iconst (pc := 112) C dX8_does_112 ki_0 ?_
        refine J.iald (pc := 113) C dX8_does_113 ?_
        refine J.ishl (pc := 114) C dX8_does_114 ?_
        refine J.ixor (pc := 115) C dX8_does_115 ?_
        refine J.iasts (pc := 116) C dX8_does_116 (fun S_4 => ?_)
        exact J.vret (pc := 117) C rfl rfl ⟨Nat.le_refl _, Nat.le_refl _⟩ dX8_does_117
abbrev rm_X8_faults : Room := { frames := 0, cells := 0, slots := 0, locals := 0 }
def f_X8_faults (S : St) (a0 : Nat) (a1 : Int32) (a2 : Int32) (a3 : Int32) : Option St :=
  (chk (okc S 8 a0) (vlt (upI S a0 15 a1) fun S_1 =>
  (chk (okc S_1 8 a0) (vlt (upI S_1 a0 16 a2) fun S_2 =>
  (chk (okc S_2 8 a0) (vlt (upI S_2 a0 17 a3) fun S_3 =>
  (some S_3)))))))
set_option maxRecDepth 100000 in
set_option maxHeartbeats 4000000 in
theorem c_X8_faults (l : Launch) (g : GG) (S : St) (a0 : Nat) (a1 : Int32) (a2 : Int32) (a3 : Int32) : Ct l yX8_faults cX8_faults 4 none rm_X8_faults g aU pU [rv g a0, .int a1, .int a2, .int a3] S (f_X8_faults S a0 a1 a2 a3) := by
  refine Ct.mk (cf := cw (0, 0)) (by decide +kernel) (cat_r (cat_i (cat_i (cat_i cat_n)))) (Nat.le_of_ble_eq_true rfl) rfl ?_
  intro X hXl hin C
  show J X g _ _ 0 [(0, rv g a0), (1, .int a1), (2, .int a2), (3, .int a3)] [] S (f_X8_faults S a0 a1 a2 a3)
  unfold f_X8_faults
  refine J.aload_n (pc := 0) C (x := a0) dX8_faults_0 rfl rfl ?_
  refine J.iload_n (pc := 1) C dX8_faults_1 rfl rfl ?_
  refine J.putIs (pc := 2) C fl_RX8_209 rfl (fun r h => by cases h; rfl) rfl rfl dX8_faults_2 (fun S_1 => ?_)
  refine J.aload_n (pc := 5) C (x := a0) dX8_faults_5 rfl rfl ?_
  refine J.iload_n (pc := 6) C dX8_faults_6 rfl rfl ?_
  refine J.putIs (pc := 7) C fl_RX8_212 rfl (fun r h => by cases h; rfl) rfl rfl dX8_faults_7 (fun S_2 => ?_)
  refine J.aload_n (pc := 10) C (x := a0) dX8_faults_10 rfl rfl ?_
  refine J.iload_n (pc := 11) C dX8_faults_11 rfl rfl ?_
  refine J.putIs (pc := 12) C fl_RX8_215 rfl (fun r h => by cases h; rfl) rfl rfl dX8_faults_12 (fun S_3 => ?_)
  exact J.vret (pc := 15) C rfl rfl ⟨Nat.le_refl _, Nat.le_refl _⟩ dX8_faults_15
abbrev rm_X8_look : Room := { frames := 0, cells := 0, slots := 0, locals := 0 }
def f_X8_look (S : St) (a0 : Nat) : Option Int32 :=
  (chk (okc S 8 a0)
  (chk (okc S 8 a0)
  (if (S.1 a0 5) ≤ (S.1 a0 12) then
  (some (-1000000))
  else (chk (okc S 8 a0)
  (chk (okc S 8 a0)
  (chk (ina S 10 (S.2.1 a0 4) (S.1 a0 12))
  (some (S.1 (S.2.1 a0 4) (S.1 a0 12).toNatClampNeg))))))))
set_option maxRecDepth 100000 in
set_option maxHeartbeats 4000000 in
theorem c_X8_look (l : Launch) (g : GG) (S : St) (a0 : Nat) : Ct l yX8_look cX8_look 1 (some .int) rm_X8_look g aI (pK S) [rv g a0] S (f_X8_look S a0) := by
  refine Ct.mk (cf := cw (0, 0)) (by decide +kernel) (cat_r cat_n) (Nat.le_of_ble_eq_true rfl) rfl ?_
  intro X hXl hin C
  show J X g _ _ 0 [(0, rv g a0)] [] S (f_X8_look S a0)
  unfold f_X8_look
  refine J.aload_n (pc := 0) C (x := a0) dX8_look_0 rfl rfl ?_
  refine J.getI (pc := 1) C fl_RX8_194 rfl dX8_look_1 ?_
  refine J.aload_n (pc := 4) C (x := a0) dX8_look_4 rfl rfl ?_
  refine J.getI (pc := 5) C fl_RX8_191 rfl dX8_look_5 ?_
  refine J.icmp_ge (pc := 8) C (tgt := 23) dX8_look_8 rfl ?_ ?_
  · refine J.ldc (pc := 23) C wc_RX8_49 dX8_look_23 ?_
    exact J.iret (pc := 25) C rfl rfl ⟨Nat.le_refl _, Nat.le_refl _⟩ dX8_look_25
  · refine J.aload_n (pc := 11) C (x := a0) dX8_look_11 rfl rfl ?_
    refine J.getR (pc := 12) C fl_RX8_19 rfl dX8_look_12 ?_
    refine J.aload_n (pc := 15) C (x := a0) dX8_look_15 rfl rfl ?_
    refine J.getI (pc := 16) C fl_RX8_194 rfl dX8_look_16 ?_
    refine J.iald (pc := 19) C dX8_look_19 ?_
    refine J.goto (pc := 20) C (tgt := 25) dX8_look_20 rfl ?_
    exact J.iret (pc := 25) C rfl rfl ⟨Nat.le_refl _, Nat.le_refl _⟩ dX8_look_25
abbrev rm_X8_number : Room := { frames := 1, cells := 0, slots := 0, locals := 22 }
def f_X8_number_B50 (a0 : Nat) (a1 : Int32) (a2 : Int32) (a3 : Int32) (kx50 : St → Int32 → Option St) (k50 : St → Int32 → Option St) (S : St) (x4 : Int32) : Option St :=
  (chk (okc S 8 a0)
  (if (S.1 a0 14) = (-1000000) then
  (chk (okc S 8 a0)
  (if (5 : Int32) ≤ ((S.1 a0 12) - a3) then
  (kx50 S x4)
  else (chk (okc S 8 a0) (bnd (f_X8_look S a0) fun r2 =>
  (bnd (f_X8_in r2 48 57) fun r3 =>
  (if r3 = 0 then
  (kx50 S x4)
  else (chk (okc S 8 a0) (bnd (f_X8_look S a0) fun r4 =>
  (chk (okc S 8 a0)
  (chk (okc S 8 a0) (vlt (upI S a0 12 ((S.1 a0 12) + 1)) fun S_5 =>
  (k50 S_5 (((10 * x4) + r4) - 48)))))))))))))
  else (kx50 S x4)))
set_option maxRecDepth 100000 in
set_option maxHeartbeats 4000000 in
theorem w_X8_number_B50 {X : CT} {g : GG} (C : CX X g cX8_number RX8 none 5 rm_X8_number) (a0 : Nat) (a1 : Int32) (a2 : Int32) (a3 : Int32) (kx50 : St → Int32 → Option St) (hkx50 : ∀ (S : St) (x4 : Int32), J X g (Qm X g aU pU) (cw (0, 0)) 111 [(0, rv g a0), (1, .int a1), (2, .int a2), (3, .int a3), (4, .int x4)] [] S (kx50 S x4)) : ∀ (n : Nat) (S : St) (x4 : Int32), J X g (Qm X g aU pU) (cw (0, 0)) 50 [(0, rv g a0), (1, .int a1), (2, .int a2), (3, .int a3), (4, .int x4)] [] S (wl2 (f_X8_number_B50 a0 a1 a2 a3 kx50) n S x4) := by
  refine J.loop2 (lvf := fun (S : St) (x4 : Int32) => [(0, rv g a0), (1, .int a1), (2, .int a2), (3, .int a3), (4, .int x4)]) (Sf := fun (S : St) (x4 : Int32) => S) ?_
  intro k50 hk50 S x4
  show J X g _ _ 50 [(0, rv g a0), (1, .int a1), (2, .int a2), (3, .int a3), (4, .int x4)] [] S (f_X8_number_B50 a0 a1 a2 a3 kx50 k50 S x4)
  unfold f_X8_number_B50
  refine J.aload_n (pc := 50) C (x := a0) dX8_number_50 rfl rfl ?_
  refine J.getI (pc := 51) C fl_RX8_197 rfl dX8_number_51 ?_
  refine J.ldc (pc := 54) C wc_RX8_49 dX8_number_54 ?_
  refine J.icmp_ne (pc := 56) C (tgt := 111) dX8_number_56 rfl ?_ ?_
  · exact (hkx50 _ _)
  · refine J.aload_n (pc := 59) C (x := a0) dX8_number_59 rfl rfl ?_
    refine J.getI (pc := 60) C fl_RX8_194 rfl dX8_number_60 ?_
    refine J.iload_n (pc := 63) C dX8_number_63 rfl rfl ?_
    refine J.isub (pc := 64) C dX8_number_64 ?_
    refine J.iconst (pc := 65) C dX8_number_65 ki_5 ?_
    refine J.icmp_ge (pc := 66) C (tgt := 111) dX8_number_66 rfl ?_ ?_
    · exact (hkx50 _ _)
    · refine J.aload_n (pc := 69) C (x := a0) dX8_number_69 rfl rfl ?_
      refine J.vI (pc := 70) C mv_X8_look wm_RX8_200 (fun l => c_X8_look l g S a0) ⟨⟨Nat.zero_le _, Nat.zero_le _⟩, rfl, rfl⟩ rfl ⟨Nat.le_of_ble_eq_true rfl, Nat.le_of_ble_eq_true rfl⟩ rfl cat_n (Nat.le_of_ble_eq_true rfl) dX8_number_70 (fun r2 => ?_)
      refine J.bipush (pc := 73) C dX8_number_73 kb_48 ?_
      refine J.bipush (pc := 75) C dX8_number_75 kb_57 ?_
      refine J.sI (pc := 77) C ms_X8_in wm_RX8_36 (fun l => c_X8_in l g S r2 48 57) ⟨⟨Nat.zero_le _, Nat.zero_le _⟩, rfl, rfl⟩ rfl ⟨Nat.le_of_ble_eq_true rfl, Nat.le_of_ble_eq_true rfl⟩ rfl cat_n (Nat.le_of_ble_eq_true rfl) dX8_number_77 (fun r3 => ?_)
      refine J.if_eq (pc := 80) C (tgt := 111) dX8_number_80 rfl ?_ ?_
      · exact (hkx50 _ _)
      · refine J.bipush (pc := 83) C dX8_number_83 kb_10 ?_
        refine J.iload (pc := 85) C dX8_number_85 rfl ?_
        refine J.imul (pc := 87) C dX8_number_87 ?_
        refine J.aload_n (pc := 88) C (x := a0) dX8_number_88 rfl rfl ?_
        refine J.vI (pc := 89) C mv_X8_look wm_RX8_200 (fun l => c_X8_look l g S a0) ⟨⟨Nat.zero_le _, Nat.zero_le _⟩, rfl, rfl⟩ rfl ⟨Nat.le_of_ble_eq_true rfl, Nat.le_of_ble_eq_true rfl⟩ rfl (cat_i cat_n) (Nat.le_of_ble_eq_true rfl) dX8_number_89 (fun r4 => ?_)
        refine J.iadd (pc := 92) C dX8_number_92 ?_
        refine J.bipush (pc := 93) C dX8_number_93 kb_48 ?_
        refine J.isub (pc := 95) C dX8_number_95 ?_
        refine J.istore (pc := 96) C (lv' := [(0, rv g a0), (1, .int a1), (2, .int a2), (3, .int a3), (4, .int (((10 * x4) + r4) - 48))]) dX8_number_96 (Nat.le_of_ble_eq_true rfl) rfl ?_
        refine J.aload_n (pc := 98) C (x := a0) dX8_number_98 rfl rfl ?_
        refine J.dup (pc := 99) C dX8_number_99 (rv_cat g _) ?_
        refine J.getI (pc := 100) C fl_RX8_194 rfl dX8_number_100 ?_
        refine J.iconst (pc := 103) C dX8_number_103 ki_1 ?_
        refine J.iadd (pc := 104) C dX8_number_104 ?_
        refine J.putIs (pc := 105) C fl_RX8_194 rfl (fun r h => by cases h; rfl) rfl rfl dX8_number_105 (fun S_5 => ?_)
        refine J.goto (pc := 108) C (tgt := 50) dX8_number_108 rfl ?_
        exact (hk50 _ _)
def f_X8_number_J111 (S : St) (x0 : Nat) (x1 : Int32) (x2 : Int32) (x3 : Int32) (x4 : Int32) : Option St :=
  (chk (okc S 8 x0)
  (if (S.1 x0 14) = (-1000000) then
  (chk (okc S 8 x0)
  (if (S.1 x0 12) = x3 then
  (chk (okc S 8 x0)
  (chk (okc S 8 x0) (vlt (upI S x0 14 (S.1 x0 12)) fun S_12 =>
  (chk (okc S_12 8 x0)
  (if x2 = 0 then
  (chk (inw S_12 10 (S_12.2.1 x0 13) x1) (vlt (upI S_12 (S_12.2.1 x0 13) x1.toNatClampNeg x4) fun S_13 =>
  (some S_13)))
  else (chk (inw S_12 10 (S_12.2.1 x0 13) x1) (vlt (upI S_12 (S_12.2.1 x0 13) x1.toNatClampNeg (-x4)) fun S_14 =>
  (some S_14))))))))
  else (chk (okc S 8 x0)
  (if x2 = 0 then
  (chk (inw S 10 (S.2.1 x0 13) x1) (vlt (upI S (S.2.1 x0 13) x1.toNatClampNeg x4) fun S_10 =>
  (some S_10)))
  else (chk (inw S 10 (S.2.1 x0 13) x1) (vlt (upI S (S.2.1 x0 13) x1.toNatClampNeg (-x4)) fun S_11 =>
  (some S_11)))))))
  else (chk (okc S 8 x0)
  (if x2 = 0 then
  (chk (inw S 10 (S.2.1 x0 13) x1) (vlt (upI S (S.2.1 x0 13) x1.toNatClampNeg x4) fun S_8 =>
  (some S_8)))
  else (chk (inw S 10 (S.2.1 x0 13) x1) (vlt (upI S (S.2.1 x0 13) x1.toNatClampNeg (-x4)) fun S_9 =>
  (some S_9)))))))
set_option maxRecDepth 100000 in
set_option maxHeartbeats 4000000 in
theorem w_X8_number_J111 {X : CT} {g : GG} (C : CX X g cX8_number RX8 none 5 rm_X8_number) (S : St) (x0 : Nat) (x1 : Int32) (x2 : Int32) (x3 : Int32) (x4 : Int32) : J X g (Qm X g aU pU) (cw (0, 0)) 111 [(0, rv g x0), (1, .int x1), (2, .int x2), (3, .int x3), (4, .int x4)] [] S (f_X8_number_J111 S x0 x1 x2 x3 x4) := by
  unfold f_X8_number_J111
  refine J.aload_n (pc := 111) C (x := x0) dX8_number_111 rfl rfl ?_
  refine J.getI (pc := 112) C fl_RX8_197 rfl dX8_number_112 ?_
  refine J.ldc (pc := 115) C wc_RX8_49 dX8_number_115 ?_
  refine J.icmp_ne (pc := 117) C (tgt := 136) dX8_number_117 rfl ?_ ?_
  · refine J.aload_n (pc := 136) C (x := x0) dX8_number_136 rfl rfl ?_
    refine J.getR (pc := 137) C fl_RX8_25 rfl dX8_number_137 ?_
    refine J.iload_n (pc := 140) C dX8_number_140 rfl rfl ?_
    refine J.iload_n (pc := 141) C dX8_number_141 rfl rfl ?_
    refine J.if_eq (pc := 142) C (tgt := 151) dX8_number_142 rfl ?_ ?_
    · refine J.iload (pc := 151) C dX8_number_151 rfl ?_
      refine J.iasts (pc := 153) C dX8_number_153 (fun S_8 => ?_)
      exact J.vret (pc := 154) C rfl rfl ⟨Nat.le_refl _, Nat.le_refl _⟩ dX8_number_154
    · refine J.iload (pc := 145) C dX8_number_145 rfl ?_
      refine J.ineg (pc := 147) C dX8_number_147 ?_
      refine J.goto (pc := 148) C (tgt := 153) dX8_number_148 rfl ?_
      refine J.iasts (pc := 153) C dX8_number_153 (fun S_9 => ?_)
      exact J.vret (pc := 154) C rfl rfl ⟨Nat.le_refl _, Nat.le_refl _⟩ dX8_number_154
  · refine J.aload_n (pc := 120) C (x := x0) dX8_number_120 rfl rfl ?_
    refine J.getI (pc := 121) C fl_RX8_194 rfl dX8_number_121 ?_
    refine J.iload_n (pc := 124) C dX8_number_124 rfl rfl ?_
    refine J.icmp_ne (pc := 125) C (tgt := 136) dX8_number_125 rfl ?_ ?_
    · refine J.aload_n (pc := 136) C (x := x0) dX8_number_136 rfl rfl ?_
      refine J.getR (pc := 137) C fl_RX8_25 rfl dX8_number_137 ?_
      refine J.iload_n (pc := 140) C dX8_number_140 rfl rfl ?_
      refine J.iload_n (pc := 141) C dX8_number_141 rfl rfl ?_
      refine J.if_eq (pc := 142) C (tgt := 151) dX8_number_142 rfl ?_ ?_
      · refine J.iload (pc := 151) C dX8_number_151 rfl ?_
        refine J.iasts (pc := 153) C dX8_number_153 (fun S_10 => ?_)
        exact J.vret (pc := 154) C rfl rfl ⟨Nat.le_refl _, Nat.le_refl _⟩ dX8_number_154
      · refine J.iload (pc := 145) C dX8_number_145 rfl ?_
        refine J.ineg (pc := 147) C dX8_number_147 ?_
        refine J.goto (pc := 148) C (tgt := 153) dX8_number_148 rfl ?_
        refine J.iasts (pc := 153) C dX8_number_153 (fun S_11 => ?_)
        exact J.vret (pc := 154) C rfl rfl ⟨Nat.le_refl _, Nat.le_refl _⟩ dX8_number_154
    · refine J.aload_n (pc := 128) C (x := x0) dX8_number_128 rfl rfl ?_
      refine J.aload_n (pc := 129) C (x := x0) dX8_number_129 rfl rfl ?_
      refine J.getI (pc := 130) C fl_RX8_194 rfl dX8_number_130 ?_
      refine J.putIs (pc := 133) C fl_RX8_197 rfl (fun r h => by cases h; rfl) rfl rfl dX8_number_133 (fun S_12 => ?_)
      refine J.aload_n (pc := 136) C (x := x0) dX8_number_136 rfl rfl ?_
      refine J.getR (pc := 137) C fl_RX8_25 rfl dX8_number_137 ?_
      refine J.iload_n (pc := 140) C dX8_number_140 rfl rfl ?_
      refine J.iload_n (pc := 141) C dX8_number_141 rfl rfl ?_
      refine J.if_eq (pc := 142) C (tgt := 151) dX8_number_142 rfl ?_ ?_
      · refine J.iload (pc := 151) C dX8_number_151 rfl ?_
        refine J.iasts (pc := 153) C dX8_number_153 (fun S_13 => ?_)
        exact J.vret (pc := 154) C rfl rfl ⟨Nat.le_refl _, Nat.le_refl _⟩ dX8_number_154
      · refine J.iload (pc := 145) C dX8_number_145 rfl ?_
        refine J.ineg (pc := 147) C dX8_number_147 ?_
        refine J.goto (pc := 148) C (tgt := 153) dX8_number_148 rfl ?_
        refine J.iasts (pc := 153) C dX8_number_153 (fun S_14 => ?_)
        exact J.vret (pc := 154) C rfl rfl ⟨Nat.le_refl _, Nat.le_refl _⟩ dX8_number_154
def f_X8_number_J38 (S : St) (x0 : Nat) (x1 : Int32) (x2 : Int32) (t0 : Int32) (t1 : Int32) (t2 : Nat) : Option St :=
  (chk (okc S 8 t2) (vlt (upI S t2 12 (t1 + t0)) fun S_1 =>
  (chk (okc S_1 8 x0)
  (wl2 (f_X8_number_B50 x0 x1 x2 (S_1.1 x0 12) (fun (S_7 : St) (y4_6 : Int32) => (f_X8_number_J111 S_7 x0 x1 x2 (S_1.1 x0 12) y4_6))) FU S_1 0))))
set_option maxRecDepth 100000 in
set_option maxHeartbeats 4000000 in
theorem w_X8_number_J38 {X : CT} {g : GG} (C : CX X g cX8_number RX8 none 5 rm_X8_number) (S : St) (x0 : Nat) (x1 : Int32) (x2 : Int32) (t0 : Int32) (t1 : Int32) (t2 : Nat) : J X g (Qm X g aU pU) (cw (0, 0)) 38 [(0, rv g x0), (1, .int x1), (2, .int x2)] [.int t0, .int t1, rv g t2] S (f_X8_number_J38 S x0 x1 x2 t0 t1 t2) := by
  unfold f_X8_number_J38
  refine J.iadd (pc := 38) C dX8_number_38 ?_
  refine J.putIs (pc := 39) C fl_RX8_194 rfl (fun r h => by cases h; rfl) rfl rfl dX8_number_39 (fun S_1 => ?_)
  refine J.aload_n (pc := 42) C (x := x0) dX8_number_42 rfl rfl ?_
  refine J.getI (pc := 43) C fl_RX8_194 rfl dX8_number_43 ?_
  refine J.istore_n (pc := 46) C (lv' := [(0, rv g x0), (1, .int x1), (2, .int x2), (3, .int (S_1.1 x0 12))]) dX8_number_46 rfl (Nat.le_of_ble_eq_true rfl) rfl ?_
  refine J.iconst (pc := 47) C dX8_number_47 ki_0 ?_
  refine J.istore (pc := 48) C (lv' := [(0, rv g x0), (1, .int x1), (2, .int x2), (3, .int (S_1.1 x0 12)), (4, .int 0)]) dX8_number_48 (Nat.le_of_ble_eq_true rfl) rfl ?_
  refine w_X8_number_B50 C _ _ _ _ _ (fun S_7 y4_6 => ?_) FU _ _
  exact (w_X8_number_J111 C _ _ _ _ _ _)
def f_X8_number_J23 (S : St) (x0 : Nat) (x1 : Int32) (t0 : Int32) : Option St :=
  (chk (okc S 8 x0)
  (if t0 = 0 then
  (f_X8_number_J38 S x0 x1 t0 0 (S.1 x0 12) x0)
  else (f_X8_number_J38 S x0 x1 t0 1 (S.1 x0 12) x0)))
set_option maxRecDepth 100000 in
set_option maxHeartbeats 4000000 in
theorem w_X8_number_J23 {X : CT} {g : GG} (C : CX X g cX8_number RX8 none 5 rm_X8_number) (S : St) (x0 : Nat) (x1 : Int32) (t0 : Int32) : J X g (Qm X g aU pU) (cw (0, 0)) 23 [(0, rv g x0), (1, .int x1)] [.int t0] S (f_X8_number_J23 S x0 x1 t0) := by
  unfold f_X8_number_J23
  refine J.istore_n (pc := 23) C (lv' := [(0, rv g x0), (1, .int x1), (2, .int t0)]) dX8_number_23 rfl (Nat.le_of_ble_eq_true rfl) rfl ?_
  refine J.aload_n (pc := 24) C (x := x0) dX8_number_24 rfl rfl ?_
  refine J.dup (pc := 25) C dX8_number_25 (rv_cat g _) ?_
  refine J.getI (pc := 26) C fl_RX8_194 rfl dX8_number_26 ?_
  refine J.iload_n (pc := 29) C dX8_number_29 rfl rfl ?_
  refine J.if_eq (pc := 30) C (tgt := 37) dX8_number_30 rfl ?_ ?_
  · refine J.iconst (pc := 37) C dX8_number_37 ki_0 ?_
    exact (w_X8_number_J38 C _ _ _ _ _ _ _)
  · refine J.iconst (pc := 33) C dX8_number_33 ki_1 ?_
    refine J.goto (pc := 34) C (tgt := 38) dX8_number_34 rfl ?_
    exact (w_X8_number_J38 C _ _ _ _ _ _ _)
def f_X8_number_J22 (S : St) (x0 : Nat) (x1 : Int32) : Option St :=
  (f_X8_number_J23 S x0 x1 0)
set_option maxRecDepth 100000 in
set_option maxHeartbeats 4000000 in
theorem w_X8_number_J22 {X : CT} {g : GG} (C : CX X g cX8_number RX8 none 5 rm_X8_number) (S : St) (x0 : Nat) (x1 : Int32) : J X g (Qm X g aU pU) (cw (0, 0)) 22 [(0, rv g x0), (1, .int x1)] [] S (f_X8_number_J22 S x0 x1) := by
  unfold f_X8_number_J22
  refine J.iconst (pc := 22) C dX8_number_22 ki_0 ?_
  exact (w_X8_number_J23 C _ _ _ _)
def f_X8_number (S : St) (a0 : Nat) (a1 : Int32) : Option St :=
  (chk (okc S 8 a0)
  (if (S.1 a0 14) = (-1000000) then
  (chk (okc S 8 a0) (bnd (f_X8_look S a0) fun r15 =>
  (if r15 = 45 then
  (f_X8_number_J23 S a0 a1 1)
  else (f_X8_number_J22 S a0 a1))))
  else (f_X8_number_J22 S a0 a1)))
set_option maxRecDepth 100000 in
set_option maxHeartbeats 4000000 in
theorem c_X8_number (l : Launch) (g : GG) (S : St) (a0 : Nat) (a1 : Int32) : Ct l yX8_number cX8_number 5 none rm_X8_number g aU pU [rv g a0, .int a1] S (f_X8_number S a0 a1) := by
  refine Ct.mk (cf := cw (0, 0)) (by decide +kernel) (cat_r (cat_i cat_n)) (Nat.le_of_ble_eq_true rfl) rfl ?_
  intro X hXl hin C
  show J X g _ _ 0 [(0, rv g a0), (1, .int a1)] [] S (f_X8_number S a0 a1)
  unfold f_X8_number
  refine J.aload_n (pc := 0) C (x := a0) dX8_number_0 rfl rfl ?_
  refine J.getI (pc := 1) C fl_RX8_197 rfl dX8_number_1 ?_
  refine J.ldc (pc := 4) C wc_RX8_49 dX8_number_4 ?_
  refine J.icmp_ne (pc := 6) C (tgt := 22) dX8_number_6 rfl ?_ ?_
  · exact (w_X8_number_J22 C _ _ _)
  · refine J.aload_n (pc := 9) C (x := a0) dX8_number_9 rfl rfl ?_
    refine J.vI (pc := 10) C mv_X8_look wm_RX8_200 (fun l => c_X8_look l g S a0) ⟨⟨Nat.zero_le _, Nat.zero_le _⟩, rfl, rfl⟩ rfl ⟨Nat.le_of_ble_eq_true rfl, Nat.le_of_ble_eq_true rfl⟩ rfl cat_n (Nat.le_of_ble_eq_true rfl) dX8_number_10 (fun r15 => ?_)
    refine J.bipush (pc := 13) C dX8_number_13 kb_45 ?_
    refine J.icmp_ne (pc := 15) C (tgt := 22) dX8_number_15 rfl ?_ ?_
    · exact (w_X8_number_J22 C _ _ _)
    · refine J.iconst (pc := 18) C dX8_number_18 ki_1 ?_
      refine J.goto (pc := 19) C (tgt := 23) dX8_number_19 rfl ?_
      exact (w_X8_number_J23 C _ _ _ _)
abbrev rm_X8_sign : Room := { frames := 1, cells := 0, slots := 0, locals := 20 }
def f_X8_sign (S : St) (a0 : Nat) (a1 : Int32) : Option St :=
  (chk (okc S 8 a0)
  (if (S.1 a0 14) = (-1000000) then
  (chk (okc S 8 a0) (bnd (f_X8_look S a0) fun r2 =>
  (if r2 = a1 then
  (chk (okc S 8 a0)
  (chk (okc S 8 a0) (vlt (upI S a0 12 ((S.1 a0 12) + 1)) fun S_4 =>
  (some S_4))))
  else (chk (okc S 8 a0)
  (if (S.1 a0 14) = (-1000000) then
  (chk (okc S 8 a0)
  (chk (okc S 8 a0) (vlt (upI S a0 14 (S.1 a0 12)) fun S_3 =>
  (some S_3))))
  else (some S))))))
  else (chk (okc S 8 a0)
  (if (S.1 a0 14) = (-1000000) then
  (chk (okc S 8 a0)
  (chk (okc S 8 a0) (vlt (upI S a0 14 (S.1 a0 12)) fun S_1 =>
  (some S_1))))
  else (some S)))))
set_option maxRecDepth 100000 in
set_option maxHeartbeats 4000000 in
theorem c_X8_sign (l : Launch) (g : GG) (S : St) (a0 : Nat) (a1 : Int32) : Ct l yX8_sign cX8_sign 2 none rm_X8_sign g aU pU [rv g a0, .int a1] S (f_X8_sign S a0 a1) := by
  refine Ct.mk (cf := cw (0, 0)) (by decide +kernel) (cat_r (cat_i cat_n)) (Nat.le_of_ble_eq_true rfl) rfl ?_
  intro X hXl hin C
  show J X g _ _ 0 [(0, rv g a0), (1, .int a1)] [] S (f_X8_sign S a0 a1)
  unfold f_X8_sign
  refine J.aload_n (pc := 0) C (x := a0) dX8_sign_0 rfl rfl ?_
  refine J.getI (pc := 1) C fl_RX8_197 rfl dX8_sign_1 ?_
  refine J.ldc (pc := 4) C wc_RX8_49 dX8_sign_4 ?_
  refine J.icmp_ne (pc := 6) C (tgt := 30) dX8_sign_6 rfl ?_ ?_
  · refine J.aload_n (pc := 30) C (x := a0) dX8_sign_30 rfl rfl ?_
    refine J.getI (pc := 31) C fl_RX8_197 rfl dX8_sign_31 ?_
    refine J.ldc (pc := 34) C wc_RX8_49 dX8_sign_34 ?_
    refine J.icmp_ne (pc := 36) C (tgt := 47) dX8_sign_36 rfl ?_ ?_
    · exact J.vret (pc := 47) C rfl rfl ⟨Nat.le_refl _, Nat.le_refl _⟩ dX8_sign_47
    · refine J.aload_n (pc := 39) C (x := a0) dX8_sign_39 rfl rfl ?_
      refine J.aload_n (pc := 40) C (x := a0) dX8_sign_40 rfl rfl ?_
      refine J.getI (pc := 41) C fl_RX8_194 rfl dX8_sign_41 ?_
      refine J.putIs (pc := 44) C fl_RX8_197 rfl (fun r h => by cases h; rfl) rfl rfl dX8_sign_44 (fun S_1 => ?_)
      exact J.vret (pc := 47) C rfl rfl ⟨Nat.le_refl _, Nat.le_refl _⟩ dX8_sign_47
  · refine J.aload_n (pc := 9) C (x := a0) dX8_sign_9 rfl rfl ?_
    refine J.vI (pc := 10) C mv_X8_look wm_RX8_200 (fun l => c_X8_look l g S a0) ⟨⟨Nat.zero_le _, Nat.zero_le _⟩, rfl, rfl⟩ rfl ⟨Nat.le_of_ble_eq_true rfl, Nat.le_of_ble_eq_true rfl⟩ rfl cat_n (Nat.le_of_ble_eq_true rfl) dX8_sign_10 (fun r2 => ?_)
    refine J.iload_n (pc := 13) C dX8_sign_13 rfl rfl ?_
    refine J.icmp_ne (pc := 14) C (tgt := 30) dX8_sign_14 rfl ?_ ?_
    · refine J.aload_n (pc := 30) C (x := a0) dX8_sign_30 rfl rfl ?_
      refine J.getI (pc := 31) C fl_RX8_197 rfl dX8_sign_31 ?_
      refine J.ldc (pc := 34) C wc_RX8_49 dX8_sign_34 ?_
      refine J.icmp_ne (pc := 36) C (tgt := 47) dX8_sign_36 rfl ?_ ?_
      · exact J.vret (pc := 47) C rfl rfl ⟨Nat.le_refl _, Nat.le_refl _⟩ dX8_sign_47
      · refine J.aload_n (pc := 39) C (x := a0) dX8_sign_39 rfl rfl ?_
        refine J.aload_n (pc := 40) C (x := a0) dX8_sign_40 rfl rfl ?_
        refine J.getI (pc := 41) C fl_RX8_194 rfl dX8_sign_41 ?_
        refine J.putIs (pc := 44) C fl_RX8_197 rfl (fun r h => by cases h; rfl) rfl rfl dX8_sign_44 (fun S_3 => ?_)
        exact J.vret (pc := 47) C rfl rfl ⟨Nat.le_refl _, Nat.le_refl _⟩ dX8_sign_47
    · refine J.aload_n (pc := 17) C (x := a0) dX8_sign_17 rfl rfl ?_
      refine J.dup (pc := 18) C dX8_sign_18 (rv_cat g _) ?_
      refine J.getI (pc := 19) C fl_RX8_194 rfl dX8_sign_19 ?_
      refine J.iconst (pc := 22) C dX8_sign_22 ki_1 ?_
      refine J.iadd (pc := 23) C dX8_sign_23 ?_
      refine J.putIs (pc := 24) C fl_RX8_194 rfl (fun r h => by cases h; rfl) rfl rfl dX8_sign_24 (fun S_4 => ?_)
      refine J.goto (pc := 27) C (tgt := 47) dX8_sign_27 rfl ?_
      exact J.vret (pc := 47) C rfl rfl ⟨Nat.le_refl _, Nat.le_refl _⟩ dX8_sign_47
abbrev rm_X8_form : Room := { frames := 2, cells := 0, slots := 0, locals := 46 }
def f_X8_form_B74 (a0 : Nat) (a1 : Int32) (kx74 : St → Option (Int32 × St)) (k74 : St → Int32 → Option (Int32 × St)) (S : St) (x2 : Int32) : Option (Int32 × St) :=
  (if (6 : Int32) ≤ x2 then
  (kx74 S)
  else (if a1 = 116 then
  (chk (okc S 8 a0) (bnd (f_X8_sign S a0 44) fun S_4 =>
  (chk (okc S_4 8 a0) (bnd (f_X8_number S_4 a0 x2) fun S_5 =>
  (k74 S_5 (x2 + 1))))))
  else (kx74 S)))
set_option maxRecDepth 100000 in
set_option maxHeartbeats 4000000 in
theorem w_X8_form_B74 {X : CT} {g : GG} (C : CX X g cX8_form RX8 (some .int) 3 rm_X8_form) (a0 : Nat) (a1 : Int32) (kx74 : St → Option (Int32 × St)) (hkx74 : ∀ (S : St), J X g (Qm X g aW pW) (cw (0, 0)) 103 [(0, rv g a0), (1, .int a1)] [] S (kx74 S)) : ∀ (n : Nat) (S : St) (x2 : Int32), J X g (Qm X g aW pW) (cw (0, 0)) 74 [(0, rv g a0), (1, .int a1), (2, .int x2)] [] S (wl2 (f_X8_form_B74 a0 a1 kx74) n S x2) := by
  refine J.loop2 (lvf := fun (S : St) (x2 : Int32) => [(0, rv g a0), (1, .int a1), (2, .int x2)]) (Sf := fun (S : St) (x2 : Int32) => S) ?_
  intro k74 hk74 S x2
  show J X g _ _ 74 [(0, rv g a0), (1, .int a1), (2, .int x2)] [] S (f_X8_form_B74 a0 a1 kx74 k74 S x2)
  unfold f_X8_form_B74
  refine J.iload_n (pc := 74) C dX8_form_74 rfl rfl ?_
  refine J.bipush (pc := 75) C dX8_form_75 kb_6 ?_
  refine J.icmp_ge (pc := 77) C (tgt := 103) dX8_form_77 rfl ?_ ?_
  · exact J.pick [0, 1] rfl (hkx74 _)
  · refine J.iload_n (pc := 80) C dX8_form_80 rfl rfl ?_
    refine J.bipush (pc := 81) C dX8_form_81 kb_116 ?_
    refine J.icmp_ne (pc := 83) C (tgt := 103) dX8_form_83 rfl ?_ ?_
    · exact J.pick [0, 1] rfl (hkx74 _)
    · refine J.aload_n (pc := 86) C (x := a0) dX8_form_86 rfl rfl ?_
      refine J.bipush (pc := 87) C dX8_form_87 kb_44 ?_
      refine J.vU (pc := 89) C mv_X8_sign wm_RX8_206 (fun l => c_X8_sign l g S a0 44) ⟨⟨Nat.zero_le _, Nat.zero_le _⟩, rfl, rfl⟩ rfl ⟨Nat.le_of_ble_eq_true rfl, Nat.le_of_ble_eq_true rfl⟩ rfl cat_n (Nat.le_of_ble_eq_true rfl) dX8_form_89 (fun S_4 => ?_)
      refine J.aload_n (pc := 92) C (x := a0) dX8_form_92 rfl rfl ?_
      refine J.iload_n (pc := 93) C dX8_form_93 rfl rfl ?_
      refine J.vU (pc := 94) C mv_X8_number wm_RX8_203 (fun l => c_X8_number l g S_4 a0 x2) ⟨⟨Nat.zero_le _, Nat.zero_le _⟩, rfl, rfl⟩ rfl ⟨Nat.le_of_ble_eq_true rfl, Nat.le_of_ble_eq_true rfl⟩ rfl cat_n (Nat.le_of_ble_eq_true rfl) dX8_form_94 (fun S_5 => ?_)
      refine J.iinc (pc := 97) C (lv' := [(0, rv g a0), (1, .int a1), (2, .int (x2 + 1))]) dX8_form_97 rfl (Nat.le_of_ble_eq_true rfl) ki_1 rfl ?_
      refine J.goto (pc := 100) C (tgt := 74) dX8_form_100 rfl ?_
      exact (hk74 _ _)
def f_X8_form_J103 (S : St) (x0 : Nat) (x1 : Int32) : Option (Int32 × St) :=
  (chk (okc S 8 x0) (bnd (f_X8_sign S x0 59) fun S_7 =>
  (some (x1, S_7))))
set_option maxRecDepth 100000 in
set_option maxHeartbeats 4000000 in
theorem w_X8_form_J103 {X : CT} {g : GG} (C : CX X g cX8_form RX8 (some .int) 3 rm_X8_form) (S : St) (x0 : Nat) (x1 : Int32) : J X g (Qm X g aW pW) (cw (0, 0)) 103 [(0, rv g x0), (1, .int x1)] [] S (f_X8_form_J103 S x0 x1) := by
  unfold f_X8_form_J103
  refine J.aload_n (pc := 103) C (x := x0) dX8_form_103 rfl rfl ?_
  refine J.bipush (pc := 104) C dX8_form_104 kb_59 ?_
  refine J.vU (pc := 106) C mv_X8_sign wm_RX8_206 (fun l => c_X8_sign l g S x0 59) ⟨⟨Nat.zero_le _, Nat.zero_le _⟩, rfl, rfl⟩ rfl ⟨Nat.le_of_ble_eq_true rfl, Nat.le_of_ble_eq_true rfl⟩ rfl cat_n (Nat.le_of_ble_eq_true rfl) dX8_form_106 (fun S_7 => ?_)
  refine J.iload_n (pc := 109) C dX8_form_109 rfl rfl ?_
  exact J.iret (pc := 110) C rfl rfl ⟨Nat.le_refl _, Nat.le_refl _⟩ dX8_form_110
def f_X8_form_J72 (S : St) (x0 : Nat) (x1 : Int32) : Option (Int32 × St) :=
  (wl2 (f_X8_form_B74 x0 x1 (fun (S_6 : St) => (f_X8_form_J103 S_6 x0 x1))) FU S 1)
set_option maxRecDepth 100000 in
set_option maxHeartbeats 4000000 in
theorem w_X8_form_J72 {X : CT} {g : GG} (C : CX X g cX8_form RX8 (some .int) 3 rm_X8_form) (S : St) (x0 : Nat) (x1 : Int32) : J X g (Qm X g aW pW) (cw (0, 0)) 72 [(0, rv g x0), (1, .int x1)] [] S (f_X8_form_J72 S x0 x1) := by
  unfold f_X8_form_J72
  refine J.iconst (pc := 72) C dX8_form_72 ki_1 ?_
  refine J.istore_n (pc := 73) C (lv' := [(0, rv g x0), (1, .int x1), (2, .int 1)]) dX8_form_73 rfl (Nat.le_of_ble_eq_true rfl) rfl ?_
  refine w_X8_form_B74 C _ _ _ (fun S_6 => ?_) FU _ _
  exact (w_X8_form_J103 C _ _ _)
def f_X8_form_J51 (S : St) (x0 : Nat) (x1 : Int32) : Option (Int32 × St) :=
  (chk (okc S 8 x0)
  (chk (okc S 8 x0) (vlt (upI S x0 12 ((S.1 x0 12) + 1)) fun S_3 =>
  (if x1 = 115 then
  (f_X8_form_J72 S_3 x0 x1)
  else (chk (okc S_3 8 x0) (bnd (f_X8_number S_3 x0 0) fun S_8 =>
  (f_X8_form_J72 S_8 x0 x1)))))))
set_option maxRecDepth 100000 in
set_option maxHeartbeats 4000000 in
theorem w_X8_form_J51 {X : CT} {g : GG} (C : CX X g cX8_form RX8 (some .int) 3 rm_X8_form) (S : St) (x0 : Nat) (x1 : Int32) : J X g (Qm X g aW pW) (cw (0, 0)) 51 [(0, rv g x0), (1, .int x1)] [] S (f_X8_form_J51 S x0 x1) := by
  unfold f_X8_form_J51
  refine J.aload_n (pc := 51) C (x := x0) dX8_form_51 rfl rfl ?_
  refine J.dup (pc := 52) C dX8_form_52 (rv_cat g _) ?_
  refine J.getI (pc := 53) C fl_RX8_194 rfl dX8_form_53 ?_
  refine J.iconst (pc := 56) C dX8_form_56 ki_1 ?_
  refine J.iadd (pc := 57) C dX8_form_57 ?_
  refine J.putIs (pc := 58) C fl_RX8_194 rfl (fun r h => by cases h; rfl) rfl rfl dX8_form_58 (fun S_3 => ?_)
  refine J.iload_n (pc := 61) C dX8_form_61 rfl rfl ?_
  refine J.bipush (pc := 62) C dX8_form_62 kb_115 ?_
  refine J.icmp_eq (pc := 64) C (tgt := 72) dX8_form_64 rfl ?_ ?_
  · exact (w_X8_form_J72 C _ _ _)
  · refine J.aload_n (pc := 67) C (x := x0) dX8_form_67 rfl rfl ?_
    refine J.iconst (pc := 68) C dX8_form_68 ki_0 ?_
    refine J.vU (pc := 69) C mv_X8_number wm_RX8_203 (fun l => c_X8_number l g S_3 x0 0) ⟨⟨Nat.zero_le _, Nat.zero_le _⟩, rfl, rfl⟩ rfl ⟨Nat.le_of_ble_eq_true rfl, Nat.le_of_ble_eq_true rfl⟩ rfl cat_n (Nat.le_of_ble_eq_true rfl) dX8_form_69 (fun S_8 => ?_)
    exact (w_X8_form_J72 C _ _ _)
def f_X8_form (S : St) (a0 : Nat) : Option (Int32 × St) :=
  (chk (okc S 8 a0) (vlt (upI S a0 14 (-1000000)) fun S_1 =>
  (chk (okc S_1 8 a0) (bnd (f_X8_look S_1 a0) fun r2 =>
  (if r2 = 116 then
  (f_X8_form_J51 S_1 a0 r2)
  else (if r2 = 103 then
  (f_X8_form_J51 S_1 a0 r2)
  else (if r2 = 115 then
  (f_X8_form_J51 S_1 a0 r2)
  else (if r2 = 98 then
  (f_X8_form_J51 S_1 a0 r2)
  else (if r2 = 117 then
  (f_X8_form_J51 S_1 a0 r2)
  else (chk (okc S_1 8 a0)
  (chk (okc S_1 8 a0) (vlt (upI S_1 a0 14 (S_1.1 a0 12)) fun S_9 =>
  (some (r2, S_9))))))))))))))
set_option maxRecDepth 100000 in
set_option maxHeartbeats 4000000 in
theorem c_X8_form (l : Launch) (g : GG) (S : St) (a0 : Nat) : Ct l yX8_form cX8_form 3 (some .int) rm_X8_form g aW pW [rv g a0] S (f_X8_form S a0) := by
  refine Ct.mk (cf := cw (0, 0)) (by decide +kernel) (cat_r cat_n) (Nat.le_of_ble_eq_true rfl) rfl ?_
  intro X hXl hin C
  show J X g _ _ 0 [(0, rv g a0)] [] S (f_X8_form S a0)
  unfold f_X8_form
  refine J.aload_n (pc := 0) C (x := a0) dX8_form_0 rfl rfl ?_
  refine J.ldc (pc := 1) C wc_RX8_49 dX8_form_1 ?_
  refine J.putIs (pc := 3) C fl_RX8_197 rfl (fun r h => by cases h; rfl) rfl rfl dX8_form_3 (fun S_1 => ?_)
  refine J.aload_n (pc := 6) C (x := a0) dX8_form_6 rfl rfl ?_
  refine J.vI (pc := 7) C mv_X8_look wm_RX8_200 (fun l => c_X8_look l g S_1 a0) ⟨⟨Nat.zero_le _, Nat.zero_le _⟩, rfl, rfl⟩ rfl ⟨Nat.le_of_ble_eq_true rfl, Nat.le_of_ble_eq_true rfl⟩ rfl cat_n (Nat.le_of_ble_eq_true rfl) dX8_form_7 (fun r2 => ?_)
  refine J.istore_n (pc := 10) C (lv' := [(0, rv g a0), (1, .int r2)]) dX8_form_10 rfl (Nat.le_of_ble_eq_true rfl) rfl ?_
  refine J.iload_n (pc := 11) C dX8_form_11 rfl rfl ?_
  refine J.bipush (pc := 12) C dX8_form_12 kb_116 ?_
  refine J.icmp_eq (pc := 14) C (tgt := 51) dX8_form_14 rfl ?_ ?_
  · exact (w_X8_form_J51 C _ _ _)
  · refine J.iload_n (pc := 17) C dX8_form_17 rfl rfl ?_
    refine J.bipush (pc := 18) C dX8_form_18 kb_103 ?_
    refine J.icmp_eq (pc := 20) C (tgt := 51) dX8_form_20 rfl ?_ ?_
    · exact (w_X8_form_J51 C _ _ _)
    · refine J.iload_n (pc := 23) C dX8_form_23 rfl rfl ?_
      refine J.bipush (pc := 24) C dX8_form_24 kb_115 ?_
      refine J.icmp_eq (pc := 26) C (tgt := 51) dX8_form_26 rfl ?_ ?_
      · exact (w_X8_form_J51 C _ _ _)
      · refine J.iload_n (pc := 29) C dX8_form_29 rfl rfl ?_
        refine J.bipush (pc := 30) C dX8_form_30 kb_98 ?_
        refine J.icmp_eq (pc := 32) C (tgt := 51) dX8_form_32 rfl ?_ ?_
        · exact (w_X8_form_J51 C _ _ _)
        · refine J.iload_n (pc := 35) C dX8_form_35 rfl rfl ?_
          refine J.bipush (pc := 36) C dX8_form_36 kb_117 ?_
          refine J.icmp_eq (pc := 38) C (tgt := 51) dX8_form_38 rfl ?_ ?_
          · exact (w_X8_form_J51 C _ _ _)
          · refine J.aload_n (pc := 41) C (x := a0) dX8_form_41 rfl rfl ?_
            refine J.aload_n (pc := 42) C (x := a0) dX8_form_42 rfl rfl ?_
            refine J.getI (pc := 43) C fl_RX8_194 rfl dX8_form_43 ?_
            refine J.putIs (pc := 46) C fl_RX8_197 rfl (fun r h => by cases h; rfl) rfl rfl dX8_form_46 (fun S_9 => ?_)
            refine J.iload_n (pc := 49) C dX8_form_49 rfl rfl ?_
            exact J.iret (pc := 50) C rfl rfl ⟨Nat.le_refl _, Nat.le_refl _⟩ dX8_form_50
abbrev rm_X8_wrongNumber : Room := { frames := 1, cells := 0, slots := 0, locals := 22 }
def f_X8_wrongNumber (a0 : Int32) (a1 : Int32) (a2 : Int32) (a3 : Int32) (a4 : Int32) (a5 : Int32) : Option Int32 :=
  (bnd (f_X8_in a0 0 9) fun r1 =>
  (if r1 = 0 then
  (some 0)
  else (bnd (f_X8_in a1 a0 9) fun r2 =>
  (if r2 = 0 then
  (some 1)
  else (bnd (f_X8_in a2 (-20000) 20000) fun r3 =>
  (if r3 = 0 then
  (some 2)
  else (bnd (f_X8_in a3 (-200) 200) fun r4 =>
  (if r4 = 0 then
  (some 3)
  else (bnd (f_X8_in a4 50 1600) fun r5 =>
  (if r5 = 0 then
  (some 4)
  else (bnd (f_X8_in a5 0 255) fun r6 =>
  (if r6 = 0 then
  (some 5)
  else (some (-1000000))))))))))))))
set_option maxRecDepth 100000 in
set_option maxHeartbeats 4000000 in
theorem c_X8_wrongNumber (l : Launch) (g : GG) (S : St) (a0 : Int32) (a1 : Int32) (a2 : Int32) (a3 : Int32) (a4 : Int32) (a5 : Int32) : Ct l yX8_wrongNumber cX8_wrongNumber 6 (some .int) rm_X8_wrongNumber g aI (pK S) [.int a0, .int a1, .int a2, .int a3, .int a4, .int a5] S (f_X8_wrongNumber a0 a1 a2 a3 a4 a5) := by
  refine Ct.mk (cf := cw (0, 0)) (by decide +kernel) (cat_i (cat_i (cat_i (cat_i (cat_i (cat_i cat_n)))))) (Nat.le_of_ble_eq_true rfl) rfl ?_
  intro X hXl hin C
  show J X g _ _ 0 [(0, .int a0), (1, .int a1), (2, .int a2), (3, .int a3), (4, .int a4), (5, .int a5)] [] S (f_X8_wrongNumber a0 a1 a2 a3 a4 a5)
  unfold f_X8_wrongNumber
  refine J.iload_n (pc := 0) C dX8_wrongNumber_0 rfl rfl ?_
  refine J.iconst (pc := 1) C dX8_wrongNumber_1 ki_0 ?_
  refine J.bipush (pc := 2) C dX8_wrongNumber_2 kb_9 ?_
  refine J.sI (pc := 4) C ms_X8_in wm_RX8_36 (fun l => c_X8_in l g S a0 0 9) ⟨⟨Nat.zero_le _, Nat.zero_le _⟩, rfl, rfl⟩ rfl ⟨Nat.le_of_ble_eq_true rfl, Nat.le_of_ble_eq_true rfl⟩ rfl cat_n (Nat.le_of_ble_eq_true rfl) dX8_wrongNumber_4 (fun r1 => ?_)
  refine J.if_ne (pc := 7) C (tgt := 12) dX8_wrongNumber_7 rfl ?_ ?_
  · refine J.iload_n (pc := 12) C dX8_wrongNumber_12 rfl rfl ?_
    refine J.iload_n (pc := 13) C dX8_wrongNumber_13 rfl rfl ?_
    refine J.bipush (pc := 14) C dX8_wrongNumber_14 kb_9 ?_
    refine J.sI (pc := 16) C ms_X8_in wm_RX8_36 (fun l => c_X8_in l g S a1 a0 9) ⟨⟨Nat.zero_le _, Nat.zero_le _⟩, rfl, rfl⟩ rfl ⟨Nat.le_of_ble_eq_true rfl, Nat.le_of_ble_eq_true rfl⟩ rfl cat_n (Nat.le_of_ble_eq_true rfl) dX8_wrongNumber_16 (fun r2 => ?_)
    refine J.if_ne (pc := 19) C (tgt := 24) dX8_wrongNumber_19 rfl ?_ ?_
    · refine J.iload_n (pc := 24) C dX8_wrongNumber_24 rfl rfl ?_
      refine J.sipush (pc := 25) C dX8_wrongNumber_25 ks_m20000 ?_
      refine J.sipush (pc := 28) C dX8_wrongNumber_28 ks_20000 ?_
      refine J.sI (pc := 31) C ms_X8_in wm_RX8_36 (fun l => c_X8_in l g S a2 (-20000) 20000) ⟨⟨Nat.zero_le _, Nat.zero_le _⟩, rfl, rfl⟩ rfl ⟨Nat.le_of_ble_eq_true rfl, Nat.le_of_ble_eq_true rfl⟩ rfl cat_n (Nat.le_of_ble_eq_true rfl) dX8_wrongNumber_31 (fun r3 => ?_)
      refine J.if_ne (pc := 34) C (tgt := 39) dX8_wrongNumber_34 rfl ?_ ?_
      · refine J.iload_n (pc := 39) C dX8_wrongNumber_39 rfl rfl ?_
        refine J.sipush (pc := 40) C dX8_wrongNumber_40 ks_m200 ?_
        refine J.sipush (pc := 43) C dX8_wrongNumber_43 ks_200 ?_
        refine J.sI (pc := 46) C ms_X8_in wm_RX8_36 (fun l => c_X8_in l g S a3 (-200) 200) ⟨⟨Nat.zero_le _, Nat.zero_le _⟩, rfl, rfl⟩ rfl ⟨Nat.le_of_ble_eq_true rfl, Nat.le_of_ble_eq_true rfl⟩ rfl cat_n (Nat.le_of_ble_eq_true rfl) dX8_wrongNumber_46 (fun r4 => ?_)
        refine J.if_ne (pc := 49) C (tgt := 54) dX8_wrongNumber_49 rfl ?_ ?_
        · refine J.iload (pc := 54) C dX8_wrongNumber_54 rfl ?_
          refine J.bipush (pc := 56) C dX8_wrongNumber_56 kb_50 ?_
          refine J.sipush (pc := 58) C dX8_wrongNumber_58 ks_1600 ?_
          refine J.sI (pc := 61) C ms_X8_in wm_RX8_36 (fun l => c_X8_in l g S a4 50 1600) ⟨⟨Nat.zero_le _, Nat.zero_le _⟩, rfl, rfl⟩ rfl ⟨Nat.le_of_ble_eq_true rfl, Nat.le_of_ble_eq_true rfl⟩ rfl cat_n (Nat.le_of_ble_eq_true rfl) dX8_wrongNumber_61 (fun r5 => ?_)
          refine J.if_ne (pc := 64) C (tgt := 69) dX8_wrongNumber_64 rfl ?_ ?_
          · refine J.iload (pc := 69) C dX8_wrongNumber_69 rfl ?_
            refine J.iconst (pc := 71) C dX8_wrongNumber_71 ki_0 ?_
            refine J.sipush (pc := 72) C dX8_wrongNumber_72 ks_255 ?_
            refine J.sI (pc := 75) C ms_X8_in wm_RX8_36 (fun l => c_X8_in l g S a5 0 255) ⟨⟨Nat.zero_le _, Nat.zero_le _⟩, rfl, rfl⟩ rfl ⟨Nat.le_of_ble_eq_true rfl, Nat.le_of_ble_eq_true rfl⟩ rfl cat_n (Nat.le_of_ble_eq_true rfl) dX8_wrongNumber_75 (fun r6 => ?_)
            refine J.if_eq (pc := 78) C (tgt := 86) dX8_wrongNumber_78 rfl ?_ ?_
            · refine J.iconst (pc := 86) C dX8_wrongNumber_86 ki_5 ?_
              exact J.iret (pc := 87) C rfl rfl ⟨Nat.le_refl _, Nat.le_refl _⟩ dX8_wrongNumber_87
            · refine J.ldc (pc := 81) C wc_RX8_49 dX8_wrongNumber_81 ?_
              refine J.goto (pc := 83) C (tgt := 87) dX8_wrongNumber_83 rfl ?_
              exact J.iret (pc := 87) C rfl rfl ⟨Nat.le_refl _, Nat.le_refl _⟩ dX8_wrongNumber_87
          · refine J.iconst (pc := 67) C dX8_wrongNumber_67 ki_4 ?_
            exact J.iret (pc := 68) C rfl rfl ⟨Nat.le_refl _, Nat.le_refl _⟩ dX8_wrongNumber_68
        · refine J.iconst (pc := 52) C dX8_wrongNumber_52 ki_3 ?_
          exact J.iret (pc := 53) C rfl rfl ⟨Nat.le_refl _, Nat.le_refl _⟩ dX8_wrongNumber_53
      · refine J.iconst (pc := 37) C dX8_wrongNumber_37 ki_2 ?_
        exact J.iret (pc := 38) C rfl rfl ⟨Nat.le_refl _, Nat.le_refl _⟩ dX8_wrongNumber_38
    · refine J.iconst (pc := 22) C dX8_wrongNumber_22 ki_1 ?_
      exact J.iret (pc := 23) C rfl rfl ⟨Nat.le_refl _, Nat.le_refl _⟩ dX8_wrongNumber_23
  · refine J.iconst (pc := 10) C dX8_wrongNumber_10 ki_0 ?_
    exact J.iret (pc := 11) C rfl rfl ⟨Nat.le_refl _, Nat.le_refl _⟩ dX8_wrongNumber_11
abbrev rm_X8_wrongIn : Room := { frames := 2, cells := 0, slots := 0, locals := 47 }
def f_X8_wrongIn (S : St) (a0 : Nat) (a1 : Int32) : Option Int32 :=
  (if a1 = 103 then
  (chk (okc S 8 a0)
  (chk (ina S 10 (S.2.1 a0 13) 0)
  (bnd (f_X8_in (S.1 (S.2.1 a0 13) (0 : Int32).toNatClampNeg) 1 200) fun r1 =>
  (if r1 = 0 then
  (some 0)
  else (some (-1000000))))))
  else (if a1 = 115 then
  (some (-1000000))
  else (if a1 = 116 then
  (chk (okc S 8 a0)
  (chk (ina S 10 (S.2.1 a0 13) 0)
  (chk (okc S 8 a0)
  (chk (ina S 10 (S.2.1 a0 13) 1)
  (chk (okc S 8 a0)
  (chk (ina S 10 (S.2.1 a0 13) 2)
  (chk (okc S 8 a0)
  (chk (ina S 10 (S.2.1 a0 13) 3)
  (chk (okc S 8 a0)
  (chk (ina S 10 (S.2.1 a0 13) 4)
  (chk (okc S 8 a0)
  (chk (ina S 10 (S.2.1 a0 13) 5)
  (bnd (f_X8_wrongNumber (S.1 (S.2.1 a0 13) (0 : Int32).toNatClampNeg) (S.1 (S.2.1 a0 13) (1 : Int32).toNatClampNeg) (S.1 (S.2.1 a0 13) (2 : Int32).toNatClampNeg) (S.1 (S.2.1 a0 13) (3 : Int32).toNatClampNeg) (S.1 (S.2.1 a0 13) (4 : Int32).toNatClampNeg) (S.1 (S.2.1 a0 13) (5 : Int32).toNatClampNeg)) fun r2 =>
  (some r2))))))))))))))
  else (chk (okc S 8 a0)
  (chk (ina S 10 (S.2.1 a0 13) 0)
  (bnd (f_X8_in (S.1 (S.2.1 a0 13) (0 : Int32).toNatClampNeg) 0 9) fun r3 =>
  (if r3 = 0 then
  (some 0)
  else (some (-1000000)))))))))
set_option maxRecDepth 100000 in
set_option maxHeartbeats 4000000 in
theorem c_X8_wrongIn (l : Launch) (g : GG) (S : St) (a0 : Nat) (a1 : Int32) : Ct l yX8_wrongIn cX8_wrongIn 2 (some .int) rm_X8_wrongIn g aI (pK S) [rv g a0, .int a1] S (f_X8_wrongIn S a0 a1) := by
  refine Ct.mk (cf := cw (0, 0)) (by decide +kernel) (cat_r (cat_i cat_n)) (Nat.le_of_ble_eq_true rfl) rfl ?_
  intro X hXl hin C
  show J X g _ _ 0 [(0, rv g a0), (1, .int a1)] [] S (f_X8_wrongIn S a0 a1)
  unfold f_X8_wrongIn
  refine J.iload_n (pc := 0) C dX8_wrongIn_0 rfl rfl ?_
  refine J.ite (fun h0 => ?_) (fun h0 => ?_)
  · refine J.lsw (pc := 1) C (off := 75) (tgt := 76) dX8_wrongIn_1 rfl (by first | (rw [h0]; rfl) | (rw [h0])) rfl ?_
    refine J.aload_n (pc := 76) C (x := a0) dX8_wrongIn_76 rfl rfl ?_
    refine J.getR (pc := 77) C fl_RX8_25 rfl dX8_wrongIn_77 ?_
    refine J.iconst (pc := 80) C dX8_wrongIn_80 ki_0 ?_
    refine J.iald (pc := 81) C dX8_wrongIn_81 ?_
    refine J.iconst (pc := 82) C dX8_wrongIn_82 ki_1 ?_
    refine J.sipush (pc := 83) C dX8_wrongIn_83 ks_200 ?_
    refine J.sI (pc := 86) C ms_X8_in wm_RX8_36 (fun l => c_X8_in l g S (S.1 (S.2.1 a0 13) (0 : Int32).toNatClampNeg) 1 200) ⟨⟨Nat.zero_le _, Nat.zero_le _⟩, rfl, rfl⟩ rfl ⟨Nat.le_of_ble_eq_true rfl, Nat.le_of_ble_eq_true rfl⟩ rfl cat_n (Nat.le_of_ble_eq_true rfl) dX8_wrongIn_86 (fun r1 => ?_)
    refine J.if_eq (pc := 89) C (tgt := 97) dX8_wrongIn_89 rfl ?_ ?_
    · refine J.iconst (pc := 97) C dX8_wrongIn_97 ki_0 ?_
      exact J.iret (pc := 98) C rfl rfl ⟨Nat.le_refl _, Nat.le_refl _⟩ dX8_wrongIn_98
    · refine J.ldc (pc := 92) C wc_RX8_49 dX8_wrongIn_92 ?_
      refine J.goto (pc := 94) C (tgt := 98) dX8_wrongIn_94 rfl ?_
      exact J.iret (pc := 98) C rfl rfl ⟨Nat.le_refl _, Nat.le_refl _⟩ dX8_wrongIn_98
  · refine J.ite (fun h1 => ?_) (fun h1 => ?_)
    · refine J.lsw (pc := 1) C (off := 98) (tgt := 99) dX8_wrongIn_1 rfl (by first | (rw [h1]; rfl) | (rw [h1])) rfl ?_
      refine J.ldc (pc := 99) C wc_RX8_49 dX8_wrongIn_99 ?_
      exact J.iret (pc := 101) C rfl rfl ⟨Nat.le_refl _, Nat.le_refl _⟩ dX8_wrongIn_101
    · refine J.ite (fun h2 => ?_) (fun h2 => ?_)
      · refine J.lsw (pc := 1) C (off := 35) (tgt := 36) dX8_wrongIn_1 rfl (by first | (rw [h2]; rfl) | (rw [h2])) rfl ?_
        refine J.aload_n (pc := 36) C (x := a0) dX8_wrongIn_36 rfl rfl ?_
        refine J.getR (pc := 37) C fl_RX8_25 rfl dX8_wrongIn_37 ?_
        refine J.iconst (pc := 40) C dX8_wrongIn_40 ki_0 ?_
        refine J.iald (pc := 41) C dX8_wrongIn_41 ?_
        refine J.aload_n (pc := 42) C (x := a0) dX8_wrongIn_42 rfl rfl ?_
        refine J.getR (pc := 43) C fl_RX8_25 rfl dX8_wrongIn_43 ?_
        refine J.iconst (pc := 46) C dX8_wrongIn_46 ki_1 ?_
        refine J.iald (pc := 47) C dX8_wrongIn_47 ?_
        refine J.aload_n (pc := 48) C (x := a0) dX8_wrongIn_48 rfl rfl ?_
        refine J.getR (pc := 49) C fl_RX8_25 rfl dX8_wrongIn_49 ?_
        refine J.iconst (pc := 52) C dX8_wrongIn_52 ki_2 ?_
        refine J.iald (pc := 53) C dX8_wrongIn_53 ?_
        refine J.aload_n (pc := 54) C (x := a0) dX8_wrongIn_54 rfl rfl ?_
        refine J.getR (pc := 55) C fl_RX8_25 rfl dX8_wrongIn_55 ?_
        refine J.iconst (pc := 58) C dX8_wrongIn_58 ki_3 ?_
        refine J.iald (pc := 59) C dX8_wrongIn_59 ?_
        refine J.aload_n (pc := 60) C (x := a0) dX8_wrongIn_60 rfl rfl ?_
        refine J.getR (pc := 61) C fl_RX8_25 rfl dX8_wrongIn_61 ?_
        refine J.iconst (pc := 64) C dX8_wrongIn_64 ki_4 ?_
        refine J.iald (pc := 65) C dX8_wrongIn_65 ?_
        refine J.aload_n (pc := 66) C (x := a0) dX8_wrongIn_66 rfl rfl ?_
        refine J.getR (pc := 67) C fl_RX8_25 rfl dX8_wrongIn_67 ?_
        refine J.iconst (pc := 70) C dX8_wrongIn_70 ki_5 ?_
        refine J.iald (pc := 71) C dX8_wrongIn_71 ?_
        refine J.sI (pc := 72) C ms_X8_wrongNumber wm_RX8_50 (fun l => c_X8_wrongNumber l g S (S.1 (S.2.1 a0 13) (0 : Int32).toNatClampNeg) (S.1 (S.2.1 a0 13) (1 : Int32).toNatClampNeg) (S.1 (S.2.1 a0 13) (2 : Int32).toNatClampNeg) (S.1 (S.2.1 a0 13) (3 : Int32).toNatClampNeg) (S.1 (S.2.1 a0 13) (4 : Int32).toNatClampNeg) (S.1 (S.2.1 a0 13) (5 : Int32).toNatClampNeg)) ⟨⟨Nat.zero_le _, Nat.zero_le _⟩, rfl, rfl⟩ rfl ⟨Nat.le_of_ble_eq_true rfl, Nat.le_of_ble_eq_true rfl⟩ rfl cat_n (Nat.le_of_ble_eq_true rfl) dX8_wrongIn_72 (fun r2 => ?_)
        exact J.iret (pc := 75) C rfl rfl ⟨Nat.le_refl _, Nat.le_refl _⟩ dX8_wrongIn_75
      · refine J.lsw (pc := 1) C (off := 101) (tgt := 102) dX8_wrongIn_1 rfl (by show Op.lookupswitch.offset [(103, 75), (115, 98), (116, 35)] 101 _ = 101; first | (rw [lv_osw (a := 103) h0 rfl, lv_osw (a := 115) h1 rfl, lv_osw (a := 116) h2 rfl]; rfl) | (rw [lv_osw (a := 103) h0 rfl, lv_osw (a := 115) h1 rfl, lv_osw (a := 116) h2 rfl])) rfl ?_
        refine J.aload_n (pc := 102) C (x := a0) dX8_wrongIn_102 rfl rfl ?_
        refine J.getR (pc := 103) C fl_RX8_25 rfl dX8_wrongIn_103 ?_
        refine J.iconst (pc := 106) C dX8_wrongIn_106 ki_0 ?_
        refine J.iald (pc := 107) C dX8_wrongIn_107 ?_
        refine J.iconst (pc := 108) C dX8_wrongIn_108 ki_0 ?_
        refine J.bipush (pc := 109) C dX8_wrongIn_109 kb_9 ?_
        refine J.sI (pc := 111) C ms_X8_in wm_RX8_36 (fun l => c_X8_in l g S (S.1 (S.2.1 a0 13) (0 : Int32).toNatClampNeg) 0 9) ⟨⟨Nat.zero_le _, Nat.zero_le _⟩, rfl, rfl⟩ rfl ⟨Nat.le_of_ble_eq_true rfl, Nat.le_of_ble_eq_true rfl⟩ rfl cat_n (Nat.le_of_ble_eq_true rfl) dX8_wrongIn_111 (fun r3 => ?_)
        refine J.if_eq (pc := 114) C (tgt := 122) dX8_wrongIn_114 rfl ?_ ?_
        · refine J.iconst (pc := 122) C dX8_wrongIn_122 ki_0 ?_
          exact J.iret (pc := 123) C rfl rfl ⟨Nat.le_refl _, Nat.le_refl _⟩ dX8_wrongIn_123
        · refine J.ldc (pc := 117) C wc_RX8_49 dX8_wrongIn_117 ?_
          refine J.goto (pc := 119) C (tgt := 123) dX8_wrongIn_119 rfl ?_
          exact J.iret (pc := 123) C rfl rfl ⟨Nat.le_refl _, Nat.le_refl _⟩ dX8_wrongIn_123
