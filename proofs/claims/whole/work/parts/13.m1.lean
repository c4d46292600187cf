abbrev rm_X0_become : Room := { frames := 0, cells := 0, slots := 0, locals := 0 }
def f_X0_become_B18 (a0 : Nat) (a1 : Nat) (kx18 : St → Option St) (k18 : St → Int32 → Option St) (S : St) (x2 : Int32) : Option St :=
  (chk (okc S 0 a0)
  (chk (okc S 10 (S.2.1 a0 2))
  (if (Int32.ofNat (ln (S.2.1 a0 2))) ≤ x2 then
  (kx18 S)
  else (chk (okc S 0 a1)
  (chk (okc S 10 (S.2.1 a1 2))
  (if (Int32.ofNat (ln (S.2.1 a1 2))) ≤ x2 then
  (kx18 S)
  else (chk (okc S 0 a0)
  (chk (okc S 0 a1)
  (chk (ina S 10 (S.2.1 a1 2) x2)
  (chk (inw S 10 (S.2.1 a0 2) x2) (vlt (upI S (S.2.1 a0 2) x2.toNatClampNeg (S.1 (S.2.1 a1 2) x2.toNatClampNeg)) fun S_3 =>
  (k18 S_3 (x2 + 1)))))))))))))
set_option maxRecDepth 100000 in
set_option maxHeartbeats 4000000 in
theorem w_X0_become_B18 {X : CT} {g : GG} (C : CX X g cX0_become RX0 none 3 rm_X0_become) (a0 : Nat) (a1 : Nat) (kx18 : St → Option St) (hkx18 : ∀ (S : St), J X g (Qm X g aU pU) (cw (0, 0)) 54 [] [] S (kx18 S)) : ∀ (n : Nat) (S : St) (x2 : Int32), J X g (Qm X g aU pU) (cw (0, 0)) 18 [(0, rv g a0), (1, rv g a1), (2, .int x2)] [] S (wl2 (f_X0_become_B18 a0 a1 kx18) n S x2) := by
  refine J.loop2 (lvf := fun (S : St) (x2 : Int32) => [(0, rv g a0), (1, rv g a1), (2, .int x2)]) (Sf := fun (S : St) (x2 : Int32) => S) ?_
  intro k18 hk18 S x2
  show J X g _ _ 18 [(0, rv g a0), (1, rv g a1), (2, .int x2)] [] S (f_X0_become_B18 a0 a1 kx18 k18 S x2)
  unfold f_X0_become_B18
  refine J.iload_n (pc := 18) C dX0_become_18 rfl rfl ?_
  refine J.aload_n (pc := 19) C (x := a0) dX0_become_19 rfl rfl ?_
  refine J.getR (pc := 20) C fl_RX0_9 rfl dX0_become_20 ?_
  refine J.alen (pc := 23) C 10 (by decide) dX0_become_23 ?_
  refine J.icmp_ge (pc := 24) C (tgt := 54) dX0_become_24 rfl ?_ ?_
  · exact J.pick [] rfl (hkx18 _)
  · refine J.iload_n (pc := 27) C dX0_become_27 rfl rfl ?_
    refine J.aload_n (pc := 28) C (x := a1) dX0_become_28 rfl rfl ?_
    refine J.getR (pc := 29) C fl_RX0_9 rfl dX0_become_29 ?_
    refine J.alen (pc := 32) C 10 (by decide) dX0_become_32 ?_
    refine J.icmp_ge (pc := 33) C (tgt := 54) dX0_become_33 rfl ?_ ?_
    · exact J.pick [] rfl (hkx18 _)
    · refine J.aload_n (pc := 36) C (x := a0) dX0_become_36 rfl rfl ?_
      refine J.getR (pc := 37) C fl_RX0_9 rfl dX0_become_37 ?_
      refine J.iload_n (pc := 40) C dX0_become_40 rfl rfl ?_
      refine J.aload_n (pc := 41) C (x := a1) dX0_become_41 rfl rfl ?_
      refine J.getR (pc := 42) C fl_RX0_9 rfl dX0_become_42 ?_
      refine J.iload_n (pc := 45) C dX0_become_45 rfl rfl ?_
      refine J.iald (pc := 46) C dX0_become_46 ?_
      refine J.iasts (pc := 47) C dX0_become_47 (fun S_3 => ?_)
      refine J.iinc (pc := 48) C (lv' := [(0, rv g a0), (1, rv g a1), (2, .int (x2 + 1))]) dX0_become_48 rfl (Nat.le_of_ble_eq_true rfl) ki_1 rfl ?_
      refine J.goto (pc := 51) C (tgt := 18) dX0_become_51 rfl ?_
      exact (hk18 _ _)
def f_X0_become (S : St) (a0 : Nat) (a1 : Nat) : Option St :=
  (chk (okc S 0 a1)
  (chk (okc S 0 a0) (vlt (upI S a0 0 (S.1 a1 0)) fun S_1 =>
  (chk (okc S_1 0 a1)
  (chk (okc S_1 0 a0) (vlt (upI S_1 a0 1 (S_1.1 a1 1)) fun S_2 =>
  (wl2 (f_X0_become_B18 a0 a1 (fun (S_4 : St) => (some S_4))) FU S_2 0)))))))
set_option maxRecDepth 100000 in
set_option maxHeartbeats 4000000 in
theorem c_X0_become (l : Launch) (g : GG) (S : St) (a0 : Nat) (a1 : Nat) : Ct l yX0_become cX0_become 3 none rm_X0_become g aU pU [rv g a0, rv g a1] S (f_X0_become S a0 a1) := by
  refine Ct.mk (cf := cw (0, 0)) (by decide +kernel) (cat_r (cat_r cat_n)) (Nat.le_of_ble_eq_true rfl) rfl ?_
  intro X hXl hin C
  show J X g _ _ 0 [(0, rv g a0), (1, rv g a1)] [] S (f_X0_become S a0 a1)
  unfold f_X0_become
  refine J.aload_n (pc := 0) C (x := a0) dX0_become_0 rfl rfl ?_
  refine J.aload_n (pc := 1) C (x := a1) dX0_become_1 rfl rfl ?_
  refine J.getI (pc := 2) C fl_RX0_15 rfl dX0_become_2 ?_
  refine J.putIs (pc := 5) C fl_RX0_15 rfl (fun r h => by cases h; rfl) rfl rfl dX0_become_5 (fun S_1 => ?_)
  refine J.aload_n (pc := 8) C (x := a0) dX0_become_8 rfl rfl ?_
  refine J.aload_n (pc := 9) C (x := a1) dX0_become_9 rfl rfl ?_
  refine J.getI (pc := 10) C fl_RX0_19 rfl dX0_become_10 ?_
  refine J.putIs (pc := 13) C fl_RX0_19 rfl (fun r h => by cases h; rfl) rfl rfl dX0_become_13 (fun S_2 => ?_)
  refine J.iconst (pc := 16) C dX0_become_16 ki_0 ?_
  refine J.istore_n (pc := 17) C (lv' := [(0, rv g a0), (1, rv g a1), (2, .int 0)]) dX0_become_17 rfl (Nat.le_of_ble_eq_true rfl) rfl ?_
  refine w_X0_become_B18 C _ _ _ (fun S_4 => ?_) FU _ _
  exact J.vret (pc := 54) C rfl rfl ⟨Nat.le_refl _, Nat.le_refl _⟩ dX0_become_54
abbrev rm_X3_becomeInFrames : Room := { frames := 1, cells := 0, slots := 0, locals := 22 }
def f_X3_becomeInFrames_B18 (a0 : Nat) (a1 : Nat) (kx18 : St → Option St) (k18 : St → Int32 → Option St) (S : St) (x2 : Int32) : Option St :=
  (chk (okc S 3 a0)
  (if (S.1 a0 4) ≤ x2 then
  (kx18 S)
  else (chk (okc S 3 a0) (bnd (f_X3_frameAt S a0 x2) fun r3 =>
  (chk (okc S 3 a1) (bnd (f_X3_frameAt S a1 x2) fun r4 =>
  (if r3 = 0 then
  (k18 S (x2 + 1))
  else (if r4 = 0 then
  (k18 S (x2 + 1))
  else (chk (okc S 0 r3) (bnd (f_X0_become S r3 r4) fun S_5 =>
  (k18 S_5 (x2 + 1))))))))))))
set_option maxRecDepth 100000 in
set_option maxHeartbeats 4000000 in
theorem w_X3_becomeInFrames_B18 {X : CT} {g : GG} (C : CX X g cX3_becomeInFrames RX3 none 5 rm_X3_becomeInFrames) (a0 : Nat) (a1 : Nat) (kx18 : St → Option St) (hkx18 : ∀ (S : St), J X g (Qm X g aU pU) (cw (0, 0)) 60 [] [] S (kx18 S)) : ∀ (n : Nat) (S : St) (x2 : Int32), J X g (Qm X g aU pU) (cw (0, 0)) 18 [(0, rv g a0), (1, rv g a1), (2, .int x2)] [] S (wl2 (f_X3_becomeInFrames_B18 a0 a1 kx18) n S x2) := by
  refine J.loop2 (lvf := fun (S : St) (x2 : Int32) => [(0, rv g a0), (1, rv g a1), (2, .int x2)]) (Sf := fun (S : St) (x2 : Int32) => S) ?_
  intro k18 hk18 S x2
  show J X g _ _ 18 [(0, rv g a0), (1, rv g a1), (2, .int x2)] [] S (f_X3_becomeInFrames_B18 a0 a1 kx18 k18 S x2)
  unfold f_X3_becomeInFrames_B18
  refine J.iload_n (pc := 18) C dX3_becomeInFrames_18 rfl rfl ?_
  refine J.aload_n (pc := 19) C (x := a0) dX3_becomeInFrames_19 rfl rfl ?_
  refine J.getI (pc := 20) C fl_RX3_67 rfl dX3_becomeInFrames_20 ?_
  refine J.icmp_ge (pc := 23) C (tgt := 60) dX3_becomeInFrames_23 rfl ?_ ?_
  · exact J.pick [] rfl (hkx18 _)
  · refine J.aload_n (pc := 26) C (x := a0) dX3_becomeInFrames_26 rfl rfl ?_
    refine J.iload_n (pc := 27) C dX3_becomeInFrames_27 rfl rfl ?_
    refine J.vR (pc := 28) C mv_X3_frameAt wm_RX3_73 (fun l => c_X3_frameAt l g S a0 x2) ⟨⟨Nat.zero_le _, Nat.zero_le _⟩, rfl, rfl⟩ rfl ⟨Nat.le_of_ble_eq_true rfl, Nat.le_of_ble_eq_true rfl⟩ rfl cat_n (Nat.le_of_ble_eq_true rfl) dX3_becomeInFrames_28 (fun r3 => ?_)
    refine J.astore_n (pc := 31) C (lv' := [(0, rv g a0), (1, rv g a1), (2, .int x2), (3, rv g r3)]) dX3_becomeInFrames_31 rfl (Nat.le_of_ble_eq_true rfl) rfl ?_
    refine J.aload_n (pc := 32) C (x := a1) dX3_becomeInFrames_32 rfl rfl ?_
    refine J.iload_n (pc := 33) C dX3_becomeInFrames_33 rfl rfl ?_
    refine J.vR (pc := 34) C mv_X3_frameAt wm_RX3_73 (fun l => c_X3_frameAt l g S a1 x2) ⟨⟨Nat.zero_le _, Nat.zero_le _⟩, rfl, rfl⟩ rfl ⟨Nat.le_of_ble_eq_true rfl, Nat.le_of_ble_eq_true rfl⟩ rfl cat_n (Nat.le_of_ble_eq_true rfl) dX3_becomeInFrames_34 (fun r4 => ?_)
    refine J.astore (pc := 37) C (lv' := [(0, rv g a0), (1, rv g a1), (2, .int x2), (3, rv g r3), (4, rv g r4)]) dX3_becomeInFrames_37 (Nat.le_of_ble_eq_true rfl) rfl ?_
    refine J.aload_n (pc := 39) C (x := r3) dX3_becomeInFrames_39 rfl rfl ?_
    refine J.ifnull (pc := 40) C (tgt := 54) dX3_becomeInFrames_40 rfl ?_ ?_
    · refine J.iinc (pc := 54) C (lv' := [(0, rv g a0), (1, rv g a1), (2, .int (x2 + 1)), (3, rv g r3), (4, rv g r4)]) dX3_becomeInFrames_54 rfl (Nat.le_of_ble_eq_true rfl) ki_1 rfl ?_
      refine J.goto (pc := 57) C (tgt := 18) dX3_becomeInFrames_57 rfl ?_
      exact J.pick [0, 1, 2] rfl (hk18 _ _)
    · refine J.aload (pc := 43) C (x := r4) dX3_becomeInFrames_43 rfl ?_
      refine J.ifnull (pc := 45) C (tgt := 54) dX3_becomeInFrames_45 rfl ?_ ?_
      · refine J.iinc (pc := 54) C (lv' := [(0, rv g a0), (1, rv g a1), (2, .int (x2 + 1)), (3, rv g r3), (4, rv g r4)]) dX3_becomeInFrames_54 rfl (Nat.le_of_ble_eq_true rfl) ki_1 rfl ?_
        refine J.goto (pc := 57) C (tgt := 18) dX3_becomeInFrames_57 rfl ?_
        exact J.pick [0, 1, 2] rfl (hk18 _ _)
      · refine J.aload_n (pc := 48) C (x := r3) dX3_becomeInFrames_48 rfl rfl ?_
        refine J.aload (pc := 49) C (x := r4) dX3_becomeInFrames_49 rfl ?_
        refine J.vU (pc := 51) C mv_X0_become wm_RX3_77 (fun l => c_X0_become l g S r3 r4) ⟨⟨Nat.zero_le _, Nat.zero_le _⟩, rfl, rfl⟩ rfl ⟨Nat.le_of_ble_eq_true rfl, Nat.le_of_ble_eq_true rfl⟩ rfl cat_n (Nat.le_of_ble_eq_true rfl) dX3_becomeInFrames_51 (fun S_5 => ?_)
        refine J.iinc (pc := 54) C (lv' := [(0, rv g a0), (1, rv g a1), (2, .int (x2 + 1)), (3, rv g r3), (4, rv g r4)]) dX3_becomeInFrames_54 rfl (Nat.le_of_ble_eq_true rfl) ki_1 rfl ?_
        refine J.goto (pc := 57) C (tgt := 18) dX3_becomeInFrames_57 rfl ?_
        exact J.pick [0, 1, 2] rfl (hk18 _ _)
def f_X3_becomeInFrames (S : St) (a0 : Nat) (a1 : Nat) : Option St :=
  (chk (okc S 3 a1)
  (chk (okc S 3 a0) (vlt (upI S a0 4 (S.1 a1 4)) fun S_1 =>
  (chk (okc S_1 3 a1)
  (chk (okc S_1 3 a0) (vlt (upI S_1 a0 5 (S_1.1 a1 5)) fun S_2 =>
  (wl2 (f_X3_becomeInFrames_B18 a0 a1 (fun (S_6 : St) => (some S_6))) FU S_2 0)))))))
set_option maxRecDepth 100000 in
set_option maxHeartbeats 4000000 in
theorem c_X3_becomeInFrames (l : Launch) (g : GG) (S : St) (a0 : Nat) (a1 : Nat) : Ct l yX3_becomeInFrames cX3_becomeInFrames 5 none rm_X3_becomeInFrames g aU pU [rv g a0, rv g a1] S (f_X3_becomeInFrames S a0 a1) := by
  refine Ct.mk (cf := cw (0, 0)) (by decide +kernel) (cat_r (cat_r cat_n)) (Nat.le_of_ble_eq_true rfl) rfl ?_
  intro X hXl hin C
  show J X g _ _ 0 [(0, rv g a0), (1, rv g a1)] [] S (f_X3_becomeInFrames S a0 a1)
  unfold f_X3_becomeInFrames
  refine J.aload_n (pc := 0) C (x := a0) dX3_becomeInFrames_0 rfl rfl ?_
  refine J.aload_n (pc := 1) C (x := a1) dX3_becomeInFrames_1 rfl rfl ?_
  refine J.getI (pc := 2) C fl_RX3_67 rfl dX3_becomeInFrames_2 ?_
  refine J.putIs (pc := 5) C fl_RX3_67 rfl (fun r h => by cases h; rfl) rfl rfl dX3_becomeInFrames_5 (fun S_1 => ?_)
  refine J.aload_n (pc := 8) C (x := a0) dX3_becomeInFrames_8 rfl rfl ?_
  refine J.aload_n (pc := 9) C (x := a1) dX3_becomeInFrames_9 rfl rfl ?_
  refine J.getI (pc := 10) C fl_RX3_70 rfl dX3_becomeInFrames_10 ?_
  refine J.putIs (pc := 13) C fl_RX3_70 rfl (fun r h => by cases h; rfl) rfl rfl dX3_becomeInFrames_13 (fun S_2 => ?_)
  refine J.iconst (pc := 16) C dX3_becomeInFrames_16 ki_0 ?_
  refine J.istore_n (pc := 17) C (lv' := [(0, rv g a0), (1, rv g a1), (2, .int 0)]) dX3_becomeInFrames_17 rfl (Nat.le_of_ble_eq_true rfl) rfl ?_
  refine w_X3_becomeInFrames_B18 C _ _ _ (fun S_6 => ?_) FU _ _
  exact J.vret (pc := 60) C rfl rfl ⟨Nat.le_refl _, Nat.le_refl _⟩ dX3_becomeInFrames_60
abbrev rm_X5_become : Room := { frames := 0, cells := 0, slots := 0, locals := 0 }
def f_X5_become (S : St) (a0 : Nat) (a1 : Nat) : Option St :=
  (chk (okc S 5 a1)
  (chk (okc S 5 a0) (vlt (upI S a0 0 (S.1 a1 0)) fun S_1 =>
  (chk (okc S_1 5 a1)
  (chk (okc S_1 5 a0) (vlt (upI S_1 a0 1 (S_1.1 a1 1)) fun S_2 =>
  (chk (okc S_2 5 a1)
  (chk (okc S_2 5 a0) (vlt (upI S_2 a0 2 (S_2.1 a1 2)) fun S_3 =>
  (chk (okc S_3 5 a1)
  (chk (okc S_3 5 a0) (vlt (upI S_3 a0 3 (S_3.1 a1 3)) fun S_4 =>
  (chk (okc S_4 5 a1)
  (chk (okc S_4 5 a0) (vlt (upI S_4 a0 4 (S_4.1 a1 4)) fun S_5 =>
  (chk (okc S_5 5 a1)
  (chk (okc S_5 5 a0) (vlt (upI S_5 a0 5 (S_5.1 a1 5)) fun S_6 =>
  (some S_6)))))))))))))))))))
set_option maxRecDepth 100000 in
set_option maxHeartbeats 4000000 in
theorem c_X5_become (l : Launch) (g : GG) (S : St) (a0 : Nat) (a1 : Nat) : Ct l yX5_become cX5_become 2 none rm_X5_become g aU pU [rv g a0, rv g a1] S (f_X5_become S a0 a1) := by
  refine Ct.mk (cf := cw (0, 0)) (by decide +kernel) (cat_r (cat_r cat_n)) (Nat.le_of_ble_eq_true rfl) rfl ?_
  intro X hXl hin C
  show J X g _ _ 0 [(0, rv g a0), (1, rv g a1)] [] S (f_X5_become S a0 a1)
  unfold f_X5_become
  refine J.aload_n (pc := 0) C (x := a0) dX5_become_0 rfl rfl ?_
  refine J.aload_n (pc := 1) C (x := a1) dX5_become_1 rfl rfl ?_
  refine J.getI (pc := 2) C fl_RX5_7 rfl dX5_become_2 ?_
  refine J.putIs (pc := 5) C fl_RX5_7 rfl (fun r h => by cases h; rfl) rfl rfl dX5_become_5 (fun S_1 => ?_)
  refine J.aload_n (pc := 8) C (x := a0) dX5_become_8 rfl rfl ?_
  refine J.aload_n (pc := 9) C (x := a1) dX5_become_9 rfl rfl ?_
  refine J.getI (pc := 10) C fl_RX5_13 rfl dX5_become_10 ?_
  refine J.putIs (pc := 13) C fl_RX5_13 rfl (fun r h => by cases h; rfl) rfl rfl dX5_become_13 (fun S_2 => ?_)
  refine J.aload_n (pc := 16) C (x := a0) dX5_become_16 rfl rfl ?_
  refine J.aload_n (pc := 17) C (x := a1) dX5_become_17 rfl rfl ?_
  refine J.getI (pc := 18) C fl_RX5_16 rfl dX5_become_18 ?_
  refine J.putIs (pc := 21) C fl_RX5_16 rfl (fun r h => by cases h; rfl) rfl rfl dX5_become_21 (fun S_3 => ?_)
  refine J.aload_n (pc := 24) C (x := a0) dX5_become_24 rfl rfl ?_
  refine J.aload_n (pc := 25) C (x := a1) dX5_become_25 rfl rfl ?_
  refine J.getI (pc := 26) C fl_RX5_19 rfl dX5_become_26 ?_
  refine J.putIs (pc := 29) C fl_RX5_19 rfl (fun r h => by cases h; rfl) rfl rfl dX5_become_29 (fun S_4 => ?_)
  refine J.aload_n (pc := 32) C (x := a0) dX5_become_32 rfl rfl ?_
  refine J.aload_n (pc := 33) C (x := a1) dX5_become_33 rfl rfl ?_
  refine J.getI (pc := 34) C fl_RX5_22 rfl dX5_become_34 ?_
  refine J.putIs (pc := 37) C fl_RX5_22 rfl (fun r h => by cases h; rfl) rfl rfl dX5_become_37 (fun S_5 => ?_)
  refine J.aload_n (pc := 40) C (x := a0) dX5_become_40 rfl rfl ?_
  refine J.aload_n (pc := 41) C (x := a1) dX5_become_41 rfl rfl ?_
  refine J.getI (pc := 42) C fl_RX5_25 rfl dX5_become_42 ?_
  refine J.putIs (pc := 45) C fl_RX5_25 rfl (fun r h => by cases h; rfl) rfl rfl dX5_become_45 (fun S_6 => ?_)
  exact J.vret (pc := 48) C rfl rfl ⟨Nat.le_refl _, Nat.le_refl _⟩ dX5_become_48
abbrev rm_X3_becomeInThings : Room := { frames := 1, cells := 0, slots := 0, locals := 21 }
def f_X3_becomeInThings_B10 (a0 : Nat) (a1 : Nat) (kx10 : St → Option St) (k10 : St → Int32 → Option St) (S : St) (x2 : Int32) : Option St :=
  (chk (okc S 3 a0)
  (if (S.1 a0 2) ≤ x2 then
  (kx10 S)
  else (chk (okc S 3 a0) (bnd (f_X3_thingAt S a0 x2) fun r2 =>
  (chk (okc S 3 a1) (bnd (f_X3_thingAt S a1 x2) fun r3 =>
  (if r2 = 0 then
  (k10 S (x2 + 1))
  else (if r3 = 0 then
  (k10 S (x2 + 1))
  else (chk (okc S 5 r2) (bnd (f_X5_become S r2 r3) fun S_4 =>
  (k10 S_4 (x2 + 1))))))))))))
set_option maxRecDepth 100000 in
set_option maxHeartbeats 4000000 in
theorem w_X3_becomeInThings_B10 {X : CT} {g : GG} (C : CX X g cX3_becomeInThings RX3 none 5 rm_X3_becomeInThings) (a0 : Nat) (a1 : Nat) (kx10 : St → Option St) (hkx10 : ∀ (S : St), J X g (Qm X g aU pU) (cw (0, 0)) 52 [] [] S (kx10 S)) : ∀ (n : Nat) (S : St) (x2 : Int32), J X g (Qm X g aU pU) (cw (0, 0)) 10 [(0, rv g a0), (1, rv g a1), (2, .int x2)] [] S (wl2 (f_X3_becomeInThings_B10 a0 a1 kx10) n S x2) := by
  refine J.loop2 (lvf := fun (S : St) (x2 : Int32) => [(0, rv g a0), (1, rv g a1), (2, .int x2)]) (Sf := fun (S : St) (x2 : Int32) => S) ?_
  intro k10 hk10 S x2
  show J X g _ _ 10 [(0, rv g a0), (1, rv g a1), (2, .int x2)] [] S (f_X3_becomeInThings_B10 a0 a1 kx10 k10 S x2)
  unfold f_X3_becomeInThings_B10
  refine J.iload_n (pc := 10) C dX3_becomeInThings_10 rfl rfl ?_
  refine J.aload_n (pc := 11) C (x := a0) dX3_becomeInThings_11 rfl rfl ?_
  refine J.getI (pc := 12) C fl_RX3_56 rfl dX3_becomeInThings_12 ?_
  refine J.icmp_ge (pc := 15) C (tgt := 52) dX3_becomeInThings_15 rfl ?_ ?_
  · exact J.pick [] rfl (hkx10 _)
  · refine J.aload_n (pc := 18) C (x := a0) dX3_becomeInThings_18 rfl rfl ?_
    refine J.iload_n (pc := 19) C dX3_becomeInThings_19 rfl rfl ?_
    refine J.vR (pc := 20) C mv_X3_thingAt wm_RX3_59 (fun l => c_X3_thingAt l g S a0 x2) ⟨⟨Nat.zero_le _, Nat.zero_le _⟩, rfl, rfl⟩ rfl ⟨Nat.le_of_ble_eq_true rfl, Nat.le_of_ble_eq_true rfl⟩ rfl cat_n (Nat.le_of_ble_eq_true rfl) dX3_becomeInThings_20 (fun r2 => ?_)
    refine J.astore_n (pc := 23) C (lv' := [(0, rv g a0), (1, rv g a1), (2, .int x2), (3, rv g r2)]) dX3_becomeInThings_23 rfl (Nat.le_of_ble_eq_true rfl) rfl ?_
    refine J.aload_n (pc := 24) C (x := a1) dX3_becomeInThings_24 rfl rfl ?_
    refine J.iload_n (pc := 25) C dX3_becomeInThings_25 rfl rfl ?_
    refine J.vR (pc := 26) C mv_X3_thingAt wm_RX3_59 (fun l => c_X3_thingAt l g S a1 x2) ⟨⟨Nat.zero_le _, Nat.zero_le _⟩, rfl, rfl⟩ rfl ⟨Nat.le_of_ble_eq_true rfl, Nat.le_of_ble_eq_true rfl⟩ rfl cat_n (Nat.le_of_ble_eq_true rfl) dX3_becomeInThings_26 (fun r3 => ?_)
    refine J.astore (pc := 29) C (lv' := [(0, rv g a0), (1, rv g a1), (2, .int x2), (3, rv g r2), (4, rv g r3)]) dX3_becomeInThings_29 (Nat.le_of_ble_eq_true rfl) rfl ?_
    refine J.aload_n (pc := 31) C (x := r2) dX3_becomeInThings_31 rfl rfl ?_
    refine J.ifnull (pc := 32) C (tgt := 46) dX3_becomeInThings_32 rfl ?_ ?_
    · refine J.iinc (pc := 46) C (lv' := [(0, rv g a0), (1, rv g a1), (2, .int (x2 + 1)), (3, rv g r2), (4, rv g r3)]) dX3_becomeInThings_46 rfl (Nat.le_of_ble_eq_true rfl) ki_1 rfl ?_
      refine J.goto (pc := 49) C (tgt := 10) dX3_becomeInThings_49 rfl ?_
      exact J.pick [0, 1, 2] rfl (hk10 _ _)
    · refine J.aload (pc := 35) C (x := r3) dX3_becomeInThings_35 rfl ?_
      refine J.ifnull (pc := 37) C (tgt := 46) dX3_becomeInThings_37 rfl ?_ ?_
      · refine J.iinc (pc := 46) C (lv' := [(0, rv g a0), (1, rv g a1), (2, .int (x2 + 1)), (3, rv g r2), (4, rv g r3)]) dX3_becomeInThings_46 rfl (Nat.le_of_ble_eq_true rfl) ki_1 rfl ?_
        refine J.goto (pc := 49) C (tgt := 10) dX3_becomeInThings_49 rfl ?_
        exact J.pick [0, 1, 2] rfl (hk10 _ _)
      · refine J.aload_n (pc := 40) C (x := r2) dX3_becomeInThings_40 rfl rfl ?_
        refine J.aload (pc := 41) C (x := r3) dX3_becomeInThings_41 rfl ?_
        refine J.vU (pc := 43) C mv_X5_become wm_RX3_63 (fun l => c_X5_become l g S r2 r3) ⟨⟨Nat.zero_le _, Nat.zero_le _⟩, rfl, rfl⟩ rfl ⟨Nat.le_of_ble_eq_true rfl, Nat.le_of_ble_eq_true rfl⟩ rfl cat_n (Nat.le_of_ble_eq_true rfl) dX3_becomeInThings_43 (fun S_4 => ?_)
        refine J.iinc (pc := 46) C (lv' := [(0, rv g a0), (1, rv g a1), (2, .int (x2 + 1)), (3, rv g r2), (4, rv g r3)]) dX3_becomeInThings_46 rfl (Nat.le_of_ble_eq_true rfl) ki_1 rfl ?_
        refine J.goto (pc := 49) C (tgt := 10) dX3_becomeInThings_49 rfl ?_
        exact J.pick [0, 1, 2] rfl (hk10 _ _)
def f_X3_becomeInThings (S : St) (a0 : Nat) (a1 : Nat) : Option St :=
  (chk (okc S 3 a1)
  (chk (okc S 3 a0) (vlt (upI S a0 2 (S.1 a1 2)) fun S_1 =>
  (wl2 (f_X3_becomeInThings_B10 a0 a1 (fun (S_5 : St) => (some S_5))) FU S_1 0))))
set_option maxRecDepth 100000 in
set_option maxHeartbeats 4000000 in
theorem c_X3_becomeInThings (l : Launch) (g : GG) (S : St) (a0 : Nat) (a1 : Nat) : Ct l yX3_becomeInThings cX3_becomeInThings 5 none rm_X3_becomeInThings g aU pU [rv g a0, rv g a1] S (f_X3_becomeInThings S a0 a1) := by
  refine Ct.mk (cf := cw (0, 0)) (by decide +kernel) (cat_r (cat_r cat_n)) (Nat.le_of_ble_eq_true rfl) rfl ?_
  intro X hXl hin C
  show J X g _ _ 0 [(0, rv g a0), (1, rv g a1)] [] S (f_X3_becomeInThings S a0 a1)
  unfold f_X3_becomeInThings
  refine J.aload_n (pc := 0) C (x := a0) dX3_becomeInThings_0 rfl rfl ?_
  refine J.aload_n (pc := 1) C (x := a1) dX3_becomeInThings_1 rfl rfl ?_
  refine J.getI (pc := 2) C fl_RX3_56 rfl dX3_becomeInThings_2 ?_
  refine J.putIs (pc := 5) C fl_RX3_56 rfl (fun r h => by cases h; rfl) rfl rfl dX3_becomeInThings_5 (fun S_1 => ?_)
  refine J.iconst (pc := 8) C dX3_becomeInThings_8 ki_0 ?_
  refine J.istore_n (pc := 9) C (lv' := [(0, rv g a0), (1, rv g a1), (2, .int 0)]) dX3_becomeInThings_9 rfl (Nat.le_of_ble_eq_true rfl) rfl ?_
  refine w_X3_becomeInThings_B10 C _ _ _ (fun S_5 => ?_) FU _ _
  exact J.vret (pc := 52) C rfl rfl ⟨Nat.le_refl _, Nat.le_refl _⟩ dX3_becomeInThings_52
abbrev rm_X3_become : Room := { frames := 2, cells := 0, slots := 0, locals := 46 }
def f_X3_become_B7 (a0 : Nat) (a1 : Nat) (kx7 : St → Option St) (k7 : St → Int32 → Option St) (S : St) (x2 : Int32) : Option St :=
  (chk (okc S 3 a0)
  (chk (okc S 10 (S.2.1 a0 0))
  (if (Int32.ofNat (ln (S.2.1 a0 0))) ≤ x2 then
  (kx7 S)
  else (chk (okc S 3 a0)
  (chk (okc S 3 a1)
  (bnd (f_X7_numberIn S (S.2.1 a1 0) x2) fun r1 =>
  (chk (inw S 10 (S.2.1 a0 0) x2) (vlt (upI S (S.2.1 a0 0) x2.toNatClampNeg r1) fun S_2 =>
  (k7 S_2 (x2 + 1))))))))))
set_option maxRecDepth 100000 in
set_option maxHeartbeats 4000000 in
theorem w_X3_become_B7 {X : CT} {g : GG} (C : CX X g cX3_become RX3 none 3 rm_X3_become) (a0 : Nat) (a1 : Nat) (kx7 : St → Option St) (hkx7 : ∀ (S : St), J X g (Qm X g aU pU) (cw (0, 0)) 36 [(0, rv g a0), (1, rv g a1)] [] S (kx7 S)) : ∀ (n : Nat) (S : St) (x2 : Int32), J X g (Qm X g aU pU) (cw (0, 0)) 7 [(0, rv g a0), (1, rv g a1), (2, .int x2)] [] S (wl2 (f_X3_become_B7 a0 a1 kx7) n S x2) := by
  refine J.loop2 (lvf := fun (S : St) (x2 : Int32) => [(0, rv g a0), (1, rv g a1), (2, .int x2)]) (Sf := fun (S : St) (x2 : Int32) => S) ?_
  intro k7 hk7 S x2
  show J X g _ _ 7 [(0, rv g a0), (1, rv g a1), (2, .int x2)] [] S (f_X3_become_B7 a0 a1 kx7 k7 S x2)
  unfold f_X3_become_B7
  refine J.iload_n (pc := 7) C dX3_become_7 rfl rfl ?_
  refine J.aload_n (pc := 8) C (x := a0) dX3_become_8 rfl rfl ?_
  refine J.getR (pc := 9) C fl_RX3_9 rfl dX3_become_9 ?_
  refine J.alen (pc := 12) C 10 (by decide) dX3_become_12 ?_
  refine J.icmp_ge (pc := 13) C (tgt := 36) dX3_become_13 rfl ?_ ?_
  · exact J.pick [0, 1] rfl (hkx7 _)
  · refine J.aload_n (pc := 16) C (x := a0) dX3_become_16 rfl rfl ?_
    refine J.getR (pc := 17) C fl_RX3_9 rfl dX3_become_17 ?_
    refine J.iload_n (pc := 20) C dX3_become_20 rfl rfl ?_
    refine J.aload_n (pc := 21) C (x := a1) dX3_become_21 rfl rfl ?_
    refine J.getR (pc := 22) C fl_RX3_9 rfl dX3_become_22 ?_
    refine J.iload_n (pc := 25) C dX3_become_25 rfl rfl ?_
    refine J.snI (pc := 26) C ms_X7_numberIn wn_RX3_36 (fun l => c_X7_numberIn l g S (S.2.1 a1 0) x2) ⟨⟨Nat.zero_le _, Nat.zero_le _⟩, rfl, rfl⟩ rfl ⟨Nat.le_of_ble_eq_true rfl, Nat.le_of_ble_eq_true rfl⟩ rfl (cat_i (cat_r cat_n)) (Nat.le_of_ble_eq_true rfl) dX3_become_26 (fun r1 => ?_)
    refine J.iasts (pc := 29) C dX3_become_29 (fun S_2 => ?_)
    refine J.iinc (pc := 30) C (lv' := [(0, rv g a0), (1, rv g a1), (2, .int (x2 + 1))]) dX3_become_30 rfl (Nat.le_of_ble_eq_true rfl) ki_1 rfl ?_
    refine J.goto (pc := 33) C (tgt := 7) dX3_become_33 rfl ?_
    exact (hk7 _ _)
def f_X3_become_B64 (a0 : Nat) (a1 : Nat) (kx64 : St → Option St) (k64 : St → Int32 → Option St) (S : St) (x2 : Int32) : Option St :=
  (chk (okc S 3 a0)
  (chk (okc S 10 (S.2.1 a0 8))
  (if (Int32.ofNat (ln (S.2.1 a0 8))) ≤ x2 then
  (kx64 S)
  else (chk (okc S 3 a0)
  (chk (okc S 10 (S.2.1 a0 9))
  (if (Int32.ofNat (ln (S.2.1 a0 9))) ≤ x2 then
  (kx64 S)
  else (chk (okc S 3 a0)
  (chk (okc S 3 a1)
  (bnd (f_X7_numberIn S (S.2.1 a1 8) x2) fun r8 =>
  (chk (inw S 10 (S.2.1 a0 8) x2) (vlt (upI S (S.2.1 a0 8) x2.toNatClampNeg r8) fun S_9 =>
  (chk (okc S_9 3 a0)
  (chk (okc S_9 3 a1)
  (bnd (f_X7_numberIn S_9 (S_9.2.1 a1 9) x2) fun r10 =>
  (chk (inw S_9 10 (S_9.2.1 a0 9) x2) (vlt (upI S_9 (S_9.2.1 a0 9) x2.toNatClampNeg r10) fun S_11 =>
  (k64 S_11 (x2 + 1))))))))))))))))))
set_option maxRecDepth 100000 in
set_option maxHeartbeats 4000000 in
theorem w_X3_become_B64 {X : CT} {g : GG} (C : CX X g cX3_become RX3 none 3 rm_X3_become) (a0 : Nat) (a1 : Nat) (kx64 : St → Option St) (hkx64 : ∀ (S : St), J X g (Qm X g aU pU) (cw (0, 0)) 116 [] [] S (kx64 S)) : ∀ (n : Nat) (S : St) (x2 : Int32), J X g (Qm X g aU pU) (cw (0, 0)) 64 [(0, rv g a0), (1, rv g a1), (2, .int x2)] [] S (wl2 (f_X3_become_B64 a0 a1 kx64) n S x2) := by
  refine J.loop2 (lvf := fun (S : St) (x2 : Int32) => [(0, rv g a0), (1, rv g a1), (2, .int x2)]) (Sf := fun (S : St) (x2 : Int32) => S) ?_
  intro k64 hk64 S x2
  show J X g _ _ 64 [(0, rv g a0), (1, rv g a1), (2, .int x2)] [] S (f_X3_become_B64 a0 a1 kx64 k64 S x2)
  unfold f_X3_become_B64
  refine J.iload_n (pc := 64) C dX3_become_64 rfl rfl ?_
  refine J.aload_n (pc := 65) C (x := a0) dX3_become_65 rfl rfl ?_
  refine J.getR (pc := 66) C fl_RX3_27 rfl dX3_become_66 ?_
  refine J.alen (pc := 69) C 10 (by decide) dX3_become_69 ?_
  refine J.icmp_ge (pc := 70) C (tgt := 116) dX3_become_70 rfl ?_ ?_
  · exact J.pick [] rfl (hkx64 _)
  · refine J.iload_n (pc := 73) C dX3_become_73 rfl rfl ?_
    refine J.aload_n (pc := 74) C (x := a0) dX3_become_74 rfl rfl ?_
    refine J.getR (pc := 75) C fl_RX3_30 rfl dX3_become_75 ?_
    refine J.alen (pc := 78) C 10 (by decide) dX3_become_78 ?_
    refine J.icmp_ge (pc := 79) C (tgt := 116) dX3_become_79 rfl ?_ ?_
    · exact J.pick [] rfl (hkx64 _)
    · refine J.aload_n (pc := 82) C (x := a0) dX3_become_82 rfl rfl ?_
      refine J.getR (pc := 83) C fl_RX3_27 rfl dX3_become_83 ?_
      refine J.iload_n (pc := 86) C dX3_become_86 rfl rfl ?_
      refine J.aload_n (pc := 87) C (x := a1) dX3_become_87 rfl rfl ?_
      refine J.getR (pc := 88) C fl_RX3_27 rfl dX3_become_88 ?_
      refine J.iload_n (pc := 91) C dX3_become_91 rfl rfl ?_
      refine J.snI (pc := 92) C ms_X7_numberIn wn_RX3_36 (fun l => c_X7_numberIn l g S (S.2.1 a1 8) x2) ⟨⟨Nat.zero_le _, Nat.zero_le _⟩, rfl, rfl⟩ rfl ⟨Nat.le_of_ble_eq_true rfl, Nat.le_of_ble_eq_true rfl⟩ rfl (cat_i (cat_r cat_n)) (Nat.le_of_ble_eq_true rfl) dX3_become_92 (fun r8 => ?_)
      refine J.iasts (pc := 95) C dX3_become_95 (fun S_9 => ?_)
      refine J.aload_n (pc := 96) C (x := a0) dX3_become_96 rfl rfl ?_
      refine J.getR (pc := 97) C fl_RX3_30 rfl dX3_become_97 ?_
      refine J.iload_n (pc := 100) C dX3_become_100 rfl rfl ?_
      refine J.aload_n (pc := 101) C (x := a1) dX3_become_101 rfl rfl ?_
      refine J.getR (pc := 102) C fl_RX3_30 rfl dX3_become_102 ?_
      refine J.iload_n (pc := 105) C dX3_become_105 rfl rfl ?_
      refine J.snI (pc := 106) C ms_X7_numberIn wn_RX3_36 (fun l => c_X7_numberIn l g S_9 (S_9.2.1 a1 9) x2) ⟨⟨Nat.zero_le _, Nat.zero_le _⟩, rfl, rfl⟩ rfl ⟨Nat.le_of_ble_eq_true rfl, Nat.le_of_ble_eq_true rfl⟩ rfl (cat_i (cat_r cat_n)) (Nat.le_of_ble_eq_true rfl) dX3_become_106 (fun r10 => ?_)
      refine J.iasts (pc := 109) C dX3_become_109 (fun S_11 => ?_)
      refine J.iinc (pc := 110) C (lv' := [(0, rv g a0), (1, rv g a1), (2, .int (x2 + 1))]) dX3_become_110 rfl (Nat.le_of_ble_eq_true rfl) ki_1 rfl ?_
      refine J.goto (pc := 113) C (tgt := 64) dX3_become_113 rfl ?_
      exact (hk64 _ _)
def f_X3_become (S : St) (a0 : Nat) (a1 : Nat) : Option St :=
  (if a1 = 0 then
  (some S)
  else (wl2 (f_X3_become_B7 a0 a1 (fun (S_3 : St) => (chk (okc S_3 3 a0) (bnd (f_X3_becomeInThings S_3 a0 a1) fun S_4 =>
  (chk (okc S_4 3 a0) (bnd (f_X3_becomeInFrames S_4 a0 a1) fun S_5 =>
  (chk (okc S_5 3 a1)
  (chk (okc S_5 3 a0) (vlt (upI S_5 a0 6 (S_5.1 a1 6)) fun S_6 =>
  (chk (okc S_6 3 a1)
  (chk (okc S_6 3 a0) (vlt (upI S_6 a0 7 (S_6.1 a1 7)) fun S_7 =>
  (wl2 (f_X3_become_B64 a0 a1 (fun (S_12 : St) => (some S_12))) FU S_7 0))))))))))))) FU S 0))
set_option maxRecDepth 100000 in
set_option maxHeartbeats 4000000 in
theorem c_X3_become (l : Launch) (g : GG) (S : St) (a0 : Nat) (a1 : Nat) : Ct l yX3_become cX3_become 3 none rm_X3_become g aU pU [rv g a0, rv g a1] S (f_X3_become S a0 a1) := by
  refine Ct.mk (cf := cw (0, 0)) (by decide +kernel) (cat_r (cat_r cat_n)) (Nat.le_of_ble_eq_true rfl) rfl ?_
  intro X hXl hin C
  show J X g _ _ 0 [(0, rv g a0), (1, rv g a1)] [] S (f_X3_become S a0 a1)
  unfold f_X3_become
  refine J.aload_n (pc := 0) C (x := a1) dX3_become_0 rfl rfl ?_
  refine J.ifnonnull (pc := 1) C (tgt := 5) dX3_become_1 rfl ?_ ?_
  · refine J.iconst (pc := 5) C dX3_become_5 ki_0 ?_
    refine J.istore_n (pc := 6) C (lv' := [(0, rv g a0), (1, rv g a1), (2, .int 0)]) dX3_become_6 rfl (Nat.le_of_ble_eq_true rfl) rfl ?_
    refine w_X3_become_B7 C _ _ _ (fun S_3 => ?_) FU _ _
    refine J.aload_n (pc := 36) C (x := a0) dX3_become_36 rfl rfl ?_
    refine J.aload_n (pc := 37) C (x := a1) dX3_become_37 rfl rfl ?_
    refine J.vU (pc := 38) C mv_X3_becomeInThings wm_RX3_42 (fun l => c_X3_becomeInThings l g S_3 a0 a1) ⟨⟨Nat.zero_le _, Nat.zero_le _⟩, rfl, rfl⟩ rfl ⟨Nat.le_of_ble_eq_true rfl, Nat.le_of_ble_eq_true rfl⟩ rfl cat_n (Nat.le_of_ble_eq_true rfl) dX3_become_38 (fun S_4 => ?_)
    refine J.aload_n (pc := 41) C (x := a0) dX3_become_41 rfl rfl ?_
    refine J.aload_n (pc := 42) C (x := a1) dX3_become_42 rfl rfl ?_
    refine J.vU (pc := 43) C mv_X3_becomeInFrames wm_RX3_46 (fun l => c_X3_becomeInFrames l g S_4 a0 a1) ⟨⟨Nat.zero_le _, Nat.zero_le _⟩, rfl, rfl⟩ rfl ⟨Nat.le_of_ble_eq_true rfl, Nat.le_of_ble_eq_true rfl⟩ rfl cat_n (Nat.le_of_ble_eq_true rfl) dX3_become_43 (fun S_5 => ?_)
    refine J.aload_n (pc := 46) C (x := a0) dX3_become_46 rfl rfl ?_
    refine J.aload_n (pc := 47) C (x := a1) dX3_become_47 rfl rfl ?_
    refine J.getI (pc := 48) C fl_RX3_49 rfl dX3_become_48 ?_
    refine J.putIs (pc := 51) C fl_RX3_49 rfl (fun r h => by cases h; rfl) rfl rfl dX3_become_51 (fun S_6 => ?_)
    refine J.aload_n (pc := 54) C (x := a0) dX3_become_54 rfl rfl ?_
    refine J.aload_n (pc := 55) C (x := a1) dX3_become_55 rfl rfl ?_
    refine J.getI (pc := 56) C fl_RX3_53 rfl dX3_become_56 ?_
    refine J.putIs (pc := 59) C fl_RX3_53 rfl (fun r h => by cases h; rfl) rfl rfl dX3_become_59 (fun S_7 => ?_)
    refine J.iconst (pc := 62) C dX3_become_62 ki_0 ?_
    refine J.istore_n (pc := 63) C (lv' := [(0, rv g a0), (1, rv g a1), (2, .int 0)]) dX3_become_63 rfl (Nat.le_of_ble_eq_true rfl) rfl ?_
    refine w_X3_become_B64 C _ _ _ (fun S_12 => ?_) FU _ _
    exact J.vret (pc := 116) C rfl rfl ⟨Nat.le_refl _, Nat.le_refl _⟩ dX3_become_116
  · exact J.vret (pc := 4) C rfl rfl ⟨Nat.le_refl _, Nat.le_refl _⟩ dX3_become_4
abbrev rm_X7_dropOldestState : Room := { frames := 0, cells := 0, slots := 0, locals := 0 }
def f_X7_dropOldestState_B2 (a0 : Nat) (kx2 : St → Option St) (k2 : St → Int32 → Option St) (S : St) (x1 : Int32) : Option St :=
  (chk (okc S 7 a0)
  (chk (okc S 13 (S.2.1 a0 1))
  (if (Int32.ofNat (ln (S.2.1 a0 1))) ≤ x1 then
  (kx2 S)
  else (chk (okc S 7 a0)
  (chk (ina S 13 (S.2.1 a0 1) (x1 - 1))
  (chk (okc S 7 a0)
  (chk (okc S 7 a0)
  (chk (ina S 13 (S.2.1 a0 1) x1)
  (chk (inw S 13 (S.2.1 a0 1) (x1 - 1) ∧ okc S 3 (S.2.1 (S.2.1 a0 1) x1.toNatClampNeg)) (vlt (upR S (S.2.1 a0 1) (x1 - 1).toNatClampNeg (S.2.1 (S.2.1 a0 1) x1.toNatClampNeg)) fun S_1 =>
  (chk (okc S_1 7 a0)
  (chk (inw S_1 13 (S_1.2.1 a0 1) x1 ∧ okc S_1 3 (S.2.1 (S.2.1 a0 1) (x1 - 1).toNatClampNeg)) (vlt (upR S_1 (S_1.2.1 a0 1) x1.toNatClampNeg (S.2.1 (S.2.1 a0 1) (x1 - 1).toNatClampNeg)) fun S_2 =>
  (k2 S_2 (x1 + 1)))))))))))))))
set_option maxRecDepth 100000 in
set_option maxHeartbeats 4000000 in
theorem w_X7_dropOldestState_B2 {X : CT} {g : GG} (C : CX X g cX7_dropOldestState RX7 none 3 rm_X7_dropOldestState) (a0 : Nat) (kx2 : St → Option St) (hkx2 : ∀ (S : St), J X g (Qm X g aU pU) (cw (0, 0)) 47 [(0, rv g a0)] [] S (kx2 S)) : ∀ (n : Nat) (S : St) (x1 : Int32), J X g (Qm X g aU pU) (cw (0, 0)) 2 [(0, rv g a0), (1, .int x1)] [] S (wl2 (f_X7_dropOldestState_B2 a0 kx2) n S x1) := by
  refine J.loop2 (lvf := fun (S : St) (x1 : Int32) => [(0, rv g a0), (1, .int x1)]) (Sf := fun (S : St) (x1 : Int32) => S) ?_
  intro k2 hk2 S x1
  show J X g _ _ 2 [(0, rv g a0), (1, .int x1)] [] S (f_X7_dropOldestState_B2 a0 kx2 k2 S x1)
  unfold f_X7_dropOldestState_B2
  refine J.iload_n (pc := 2) C dX7_dropOldestState_2 rfl rfl ?_
  refine J.aload_n (pc := 3) C (x := a0) dX7_dropOldestState_3 rfl rfl ?_
  refine J.getR (pc := 4) C fl_RX7_16 rfl dX7_dropOldestState_4 ?_
  refine J.alen (pc := 7) C 13 (by decide) dX7_dropOldestState_7 ?_
  refine J.icmp_ge (pc := 8) C (tgt := 47) dX7_dropOldestState_8 rfl ?_ ?_
  · exact J.pick [0] rfl (hkx2 _)
  · refine J.aload_n (pc := 11) C (x := a0) dX7_dropOldestState_11 rfl rfl ?_
    refine J.getR (pc := 12) C fl_RX7_16 rfl dX7_dropOldestState_12 ?_
    refine J.iload_n (pc := 15) C dX7_dropOldestState_15 rfl rfl ?_
    refine J.iconst (pc := 16) C dX7_dropOldestState_16 ki_1 ?_
    refine J.isub (pc := 17) C dX7_dropOldestState_17 ?_
    refine J.aald (pc := 18) C 13 (by decide) (fun _ => rfl) rfl dX7_dropOldestState_18 ?_
    refine J.astore_n (pc := 19) C (lv' := [(0, rv g a0), (1, .int x1), (2, rv g (S.2.1 (S.2.1 a0 1) (x1 - 1).toNatClampNeg))]) dX7_dropOldestState_19 rfl (Nat.le_of_ble_eq_true rfl) rfl ?_
    refine J.aload_n (pc := 20) C (x := a0) dX7_dropOldestState_20 rfl rfl ?_
    refine J.getR (pc := 21) C fl_RX7_16 rfl dX7_dropOldestState_21 ?_
    refine J.iload_n (pc := 24) C dX7_dropOldestState_24 rfl rfl ?_
    refine J.iconst (pc := 25) C dX7_dropOldestState_25 ki_1 ?_
    refine J.isub (pc := 26) C dX7_dropOldestState_26 ?_
    refine J.aload_n (pc := 27) C (x := a0) dX7_dropOldestState_27 rfl rfl ?_
    refine J.getR (pc := 28) C fl_RX7_16 rfl dX7_dropOldestState_28 ?_
    refine J.iload_n (pc := 31) C dX7_dropOldestState_31 rfl rfl ?_
    refine J.aald (pc := 32) C 13 (by decide) (fun _ => rfl) rfl dX7_dropOldestState_32 ?_
    refine J.aasts (pc := 33) C 13 3 (by decide) (fun _ => rfl) rfl rfl dX7_dropOldestState_33 (fun S_1 => ?_)
    refine J.aload_n (pc := 34) C (x := a0) dX7_dropOldestState_34 rfl rfl ?_
    refine J.getR (pc := 35) C fl_RX7_16 rfl dX7_dropOldestState_35 ?_
    refine J.iload_n (pc := 38) C dX7_dropOldestState_38 rfl rfl ?_
    refine J.aload_n (pc := 39) C (x := S.2.1 (S.2.1 a0 1) (x1 - 1).toNatClampNeg) dX7_dropOldestState_39 rfl rfl ?_
    refine J.aasts (pc := 40) C 13 3 (by decide) (fun _ => rfl) rfl rfl dX7_dropOldestState_40 (fun S_2 => ?_)
    refine J.iinc (pc := 41) C (lv' := [(0, rv g a0), (1, .int (x1 + 1)), (2, rv g (S.2.1 (S.2.1 a0 1) (x1 - 1).toNatClampNeg))]) dX7_dropOldestState_41 rfl (Nat.le_of_ble_eq_true rfl) ki_1 rfl ?_
    refine J.goto (pc := 44) C (tgt := 2) dX7_dropOldestState_44 rfl ?_
    exact J.pick [0, 1] rfl (hk2 _ _)
def f_X7_dropOldestState (S : St) (a0 : Nat) : Option St :=
  (wl2 (f_X7_dropOldestState_B2 a0 (fun (S_3 : St) => (chk (okc S_3 7 a0)
  (chk (okc S_3 13 (S_3.2.1 a0 1))
  (chk (okc S_3 7 a0) (vlt (upI S_3 a0 2 ((Int32.ofNat (ln (S_3.2.1 a0 1))) - 1)) fun S_4 =>
  (some S_4))))))) FU S 1)
set_option maxRecDepth 100000 in
set_option maxHeartbeats 4000000 in
theorem c_X7_dropOldestState (l : Launch) (g : GG) (S : St) (a0 : Nat) : Ct l yX7_dropOldestState cX7_dropOldestState 3 none rm_X7_dropOldestState g aU pU [rv g a0] S (f_X7_dropOldestState S a0) := by
  refine Ct.mk (cf := cw (0, 0)) (by decide +kernel) (cat_r cat_n) (Nat.le_of_ble_eq_true rfl) rfl ?_
  intro X hXl hin C
  show J X g _ _ 0 [(0, rv g a0)] [] S (f_X7_dropOldestState S a0)
  unfold f_X7_dropOldestState
  refine J.iconst (pc := 0) C dX7_dropOldestState_0 ki_1 ?_
  refine J.istore_n (pc := 1) C (lv' := [(0, rv g a0), (1, .int 1)]) dX7_dropOldestState_1 rfl (Nat.le_of_ble_eq_true rfl) rfl ?_
  refine w_X7_dropOldestState_B2 C _ _ (fun S_3 => ?_) FU _ _
  refine J.aload_n (pc := 47) C (x := a0) dX7_dropOldestState_47 rfl rfl ?_
  refine J.aload_n (pc := 48) C (x := a0) dX7_dropOldestState_48 rfl rfl ?_
  refine J.getR (pc := 49) C fl_RX7_16 rfl dX7_dropOldestState_49 ?_
  refine J.alen (pc := 52) C 13 (by decide) dX7_dropOldestState_52 ?_
  refine J.iconst (pc := 53) C dX7_dropOldestState_53 ki_1 ?_
  refine J.isub (pc := 54) C dX7_dropOldestState_54 ?_
  refine J.putIs (pc := 55) C fl_RX7_20 rfl (fun r h => by cases h; rfl) rfl rfl dX7_dropOldestState_55 (fun S_4 => ?_)
  exact J.vret (pc := 58) C rfl rfl ⟨Nat.le_refl _, Nat.le_refl _⟩ dX7_dropOldestState_58
abbrev rm_X7_recordState : Room := { frames := 3, cells := 0, slots := 0, locals := 68 }
def f_X7_recordState_J16 (S : St) (x0 : Nat) : Option St :=
  (chk (okc S 7 x0)
  (if (S.1 x0 2) < 0 then
  (some S)
  else (chk (okc S 7 x0)
  (chk (okc S 7 x0)
  (chk (okc S 13 (S.2.1 x0 1))
  (if (Int32.ofNat (ln (S.2.1 x0 1))) ≤ (S.1 x0 2) then
  (some S)
  else (chk (okc S 7 x0)
  (chk (okc S 7 x0)
  (chk (ina S 13 (S.2.1 x0 1) (S.1 x0 2))
  (if (S.2.1 (S.2.1 x0 1) (S.1 x0 2).toNatClampNeg) = 0 then
  (some S)
  else (chk (okc S 7 x0)
  (chk (okc S 7 x0)
  (chk (ina S 13 (S.2.1 x0 1) (S.1 x0 2))
  (chk (okc S 7 x0)
  (chk (okc S 3 (S.2.1 (S.2.1 x0 1) (S.1 x0 2).toNatClampNeg)) (bnd (f_X3_become S (S.2.1 (S.2.1 x0 1) (S.1 x0 2).toNatClampNeg) (S.2.1 x0 0)) fun S_1 =>
  (chk (okc S_1 7 x0)
  (chk (okc S_1 7 x0) (vlt (upI S_1 x0 2 ((S_1.1 x0 2) + 1)) fun S_2 =>
  (some S_2))))))))))))))))))))
set_option maxRecDepth 100000 in
set_option maxHeartbeats 4000000 in
theorem w_X7_recordState_J16 {X : CT} {g : GG} (C : CX X g cX7_recordState RX7 none 1 rm_X7_recordState) (S : St) (x0 : Nat) : J X g (Qm X g aU pU) (cw (0, 0)) 16 [(0, rv g x0)] [] S (f_X7_recordState_J16 S x0) := by
  unfold f_X7_recordState_J16
  refine J.aload_n (pc := 16) C (x := x0) dX7_recordState_16 rfl rfl ?_
  refine J.getI (pc := 17) C fl_RX7_20 rfl dX7_recordState_17 ?_
  refine J.if_lt (pc := 20) C (tgt := 73) dX7_recordState_20 rfl ?_ ?_
  · exact J.vret (pc := 73) C rfl rfl ⟨Nat.le_refl _, Nat.le_refl _⟩ dX7_recordState_73
  · refine J.aload_n (pc := 23) C (x := x0) dX7_recordState_23 rfl rfl ?_
    refine J.getI (pc := 24) C fl_RX7_20 rfl dX7_recordState_24 ?_
    refine J.aload_n (pc := 27) C (x := x0) dX7_recordState_27 rfl rfl ?_
    refine J.getR (pc := 28) C fl_RX7_16 rfl dX7_recordState_28 ?_
    refine J.alen (pc := 31) C 13 (by decide) dX7_recordState_31 ?_
    refine J.icmp_ge (pc := 32) C (tgt := 73) dX7_recordState_32 rfl ?_ ?_
    · exact J.vret (pc := 73) C rfl rfl ⟨Nat.le_refl _, Nat.le_refl _⟩ dX7_recordState_73
    · refine J.aload_n (pc := 35) C (x := x0) dX7_recordState_35 rfl rfl ?_
      refine J.getR (pc := 36) C fl_RX7_16 rfl dX7_recordState_36 ?_
      refine J.aload_n (pc := 39) C (x := x0) dX7_recordState_39 rfl rfl ?_
      refine J.getI (pc := 40) C fl_RX7_20 rfl dX7_recordState_40 ?_
      refine J.aald (pc := 43) C 13 (by decide) (fun _ => rfl) rfl dX7_recordState_43 ?_
      refine J.ifnull (pc := 44) C (tgt := 73) dX7_recordState_44 rfl ?_ ?_
      · exact J.vret (pc := 73) C rfl rfl ⟨Nat.le_refl _, Nat.le_refl _⟩ dX7_recordState_73
      · refine J.aload_n (pc := 47) C (x := x0) dX7_recordState_47 rfl rfl ?_
        refine J.getR (pc := 48) C fl_RX7_16 rfl dX7_recordState_48 ?_
        refine J.aload_n (pc := 51) C (x := x0) dX7_recordState_51 rfl rfl ?_
        refine J.getI (pc := 52) C fl_RX7_20 rfl dX7_recordState_52 ?_
        refine J.aald (pc := 55) C 13 (by decide) (fun _ => rfl) rfl dX7_recordState_55 ?_
        refine J.aload_n (pc := 56) C (x := x0) dX7_recordState_56 rfl rfl ?_
        refine J.getR (pc := 57) C fl_RX7_12 rfl dX7_recordState_57 ?_
        refine J.vU (pc := 60) C mv_X3_become wm_RX7_257 (fun l => c_X3_become l g S (S.2.1 (S.2.1 x0 1) (S.1 x0 2).toNatClampNeg) (S.2.1 x0 0)) ⟨⟨Nat.zero_le _, Nat.zero_le _⟩, rfl, rfl⟩ rfl ⟨Nat.le_of_ble_eq_true rfl, Nat.le_of_ble_eq_true rfl⟩ rfl cat_n (Nat.le_of_ble_eq_true rfl) dX7_recordState_60 (fun S_1 => ?_)
        refine J.aload_n (pc := 63) C (x := x0) dX7_recordState_63 rfl rfl ?_
        refine J.dup (pc := 64) C dX7_recordState_64 (rv_cat g _) ?_
        refine J.getI (pc := 65) C fl_RX7_20 rfl dX7_recordState_65 ?_
        refine J.iconst (pc := 68) C dX7_recordState_68 ki_1 ?_
        refine J.iadd (pc := 69) C dX7_recordState_69 ?_
        refine J.putIs (pc := 70) C fl_RX7_20 rfl (fun r h => by cases h; rfl) rfl rfl dX7_recordState_70 (fun S_2 => ?_)
        exact J.vret (pc := 73) C rfl rfl ⟨Nat.le_refl _, Nat.le_refl _⟩ dX7_recordState_73
def f_X7_recordState (S : St) (a0 : Nat) : Option St :=
  (chk (okc S 7 a0)
  (chk (okc S 7 a0)
  (chk (okc S 13 (S.2.1 a0 1))
  (if (S.1 a0 2) < (Int32.ofNat (ln (S.2.1 a0 1))) then
  (f_X7_recordState_J16 S a0)
  else (chk (okc S 7 a0) (bnd (f_X7_dropOldestState S a0) fun S_3 =>
  (f_X7_recordState_J16 S_3 a0)))))))
set_option maxRecDepth 100000 in
set_option maxHeartbeats 4000000 in
theorem c_X7_recordState (l : Launch) (g : GG) (S : St) (a0 : Nat) : Ct l yX7_recordState cX7_recordState 1 none rm_X7_recordState g aU pU [rv g a0] S (f_X7_recordState S a0) := by
  refine Ct.mk (cf := cw (0, 0)) (by decide +kernel) (cat_r cat_n) (Nat.le_of_ble_eq_true rfl) rfl ?_
  intro X hXl hin C
  show J X g _ _ 0 [(0, rv g a0)] [] S (f_X7_recordState S a0)
  unfold f_X7_recordState
  refine J.aload_n (pc := 0) C (x := a0) dX7_recordState_0 rfl rfl ?_
  refine J.getI (pc := 1) C fl_RX7_20 rfl dX7_recordState_1 ?_
  refine J.aload_n (pc := 4) C (x := a0) dX7_recordState_4 rfl rfl ?_
  refine J.getR (pc := 5) C fl_RX7_16 rfl dX7_recordState_5 ?_
  refine J.alen (pc := 8) C 13 (by decide) dX7_recordState_8 ?_
  refine J.icmp_lt (pc := 9) C (tgt := 16) dX7_recordState_9 rfl ?_ ?_
  · exact (w_X7_recordState_J16 C _ _)
  · refine J.aload_n (pc := 12) C (x := a0) dX7_recordState_12 rfl rfl ?_
    refine J.vU (pc := 13) C mv_X7_dropOldestState wm_RX7_296 (fun l => c_X7_dropOldestState l g S a0) ⟨⟨Nat.zero_le _, Nat.zero_le _⟩, rfl, rfl⟩ rfl ⟨Nat.le_of_ble_eq_true rfl, Nat.le_of_ble_eq_true rfl⟩ rfl cat_n (Nat.le_of_ble_eq_true rfl) dX7_recordState_13 (fun S_3 => ?_)
    exact (w_X7_recordState_J16 C _ _)
abbrev rm_X7_blind : Room := { frames := 4, cells := 0, slots := 0, locals := 88 }
def f_X7_blind_J43 (S : St) (x0 : Nat) (x1 : Int32) (t0 : Int32) (t1 : Int32) : Option (Int32 × St) :=
  (if t1 = t0 then
  (some ((-10000002), S))
  else (chk (okc S 7 x0) (bnd (f_X7_recordState S x0) fun S_4 =>
  (chk (okc S_4 7 x0)
  (chk (okc S_4 3 (S_4.2.1 x0 0))
  (chk (okc S_4 3 (S_4.2.1 x0 0)) (vlt (upI S_4 (S_4.2.1 x0 0) 7 ((S_4.1 (S_4.2.1 x0 0) 7) ^^^ (1 <<< (x1 &&& 31)))) fun S_5 =>
  (chk (okc S_5 7 x0)
  (chk (okc S_5 3 (S_5.2.1 x0 0))
  (bnd (f_J6_bitCount_0f7a4 (S_5.1 (S_5.2.1 x0 0) 7)) fun r6 =>
  (some (r6, S_5))))))))))))
set_option maxRecDepth 100000 in
set_option maxHeartbeats 4000000 in
theorem w_X7_blind_J43 {X : CT} {g : GG} (C : CX X g cX7_blind RX7 (some .int) 3 rm_X7_blind) (S : St) (x0 : Nat) (x1 : Int32) (t0 : Int32) (t1 : Int32) : J X g (Qm X g aW pW) (cw (0, 0)) 43 [(0, rv g x0), (1, .int x1)] [.int t0, .int t1] S (f_X7_blind_J43 S x0 x1 t0 t1) := by
  unfold f_X7_blind_J43
  refine J.icmp_ne (pc := 43) C (tgt := 49) dX7_blind_43 rfl ?_ ?_
  · refine J.aload_n (pc := 49) C (x := x0) dX7_blind_49 rfl rfl ?_
    refine J.vU (pc := 50) C mv_X7_recordState wm_RX7_75 (fun l => c_X7_recordState l g S x0) ⟨⟨Nat.zero_le _, Nat.zero_le _⟩, rfl, rfl⟩ rfl ⟨Nat.le_of_ble_eq_true rfl, Nat.le_of_ble_eq_true rfl⟩ rfl cat_n (Nat.le_of_ble_eq_true rfl) dX7_blind_50 (fun S_4 => ?_)
    refine J.aload_n (pc := 53) C (x := x0) dX7_blind_53 rfl rfl ?_
    refine J.getR (pc := 54) C fl_RX7_12 rfl dX7_blind_54 ?_
    refine J.dup (pc := 57) C dX7_blind_57 (rv_cat g _) ?_
    refine J.getI (pc := 58) C fl_RX7_119 rfl dX7_blind_58 ?_
    refine J.iconst (pc := 61) C dX7_blind_61 ki_1 ?_
    refine J.iload_n (pc := 62) C dX7_blind_62 rfl rfl ?_
    refine J.ishl (pc := 63) C dX7_blind_63 ?_
    refine J.ixor (pc := 64) C dX7_blind_64 ?_
    refine J.putIs (pc := 65) C fl_RX7_119 rfl (fun r h => by cases h; rfl) rfl rfl dX7_blind_65 (fun S_5 => ?_)
    refine J.aload_n (pc := 68) C (x := x0) dX7_blind_68 rfl rfl ?_
    refine J.getR (pc := 69) C fl_RX7_12 rfl dX7_blind_69 ?_
    refine J.getI (pc := 72) C fl_RX7_119 rfl dX7_blind_72 ?_
    refine J.sI (pc := 75) C ms_J6_bitCount_0f7a4 wm_RX7_126 (fun l => c_J6_bitCount_0f7a4 l g S_5 (S_5.1 (S_5.2.1 x0 0) 7)) ⟨⟨Nat.zero_le _, Nat.zero_le _⟩, rfl, rfl⟩ rfl ⟨Nat.le_of_ble_eq_true rfl, Nat.le_of_ble_eq_true rfl⟩ rfl cat_n (Nat.le_of_ble_eq_true rfl) dX7_blind_75 (fun r6 => ?_)
    exact J.iret (pc := 78) C rfl rfl ⟨Nat.le_refl _, Nat.le_refl _⟩ dX7_blind_78
  · refine J.ldc (pc := 46) C wc_RX7_74 dX7_blind_46 ?_
    exact J.iret (pc := 48) C rfl rfl ⟨Nat.le_refl _, Nat.le_refl _⟩ dX7_blind_48
def f_X7_blind (S : St) (a0 : Nat) (a1 : Int32) (a2 : Int32) : Option (Int32 × St) :=
  (bnd (f_X7_isWithin a1 0 9) fun r1 =>
  (if r1 = 0 then
  (some ((-10000001), S))
  else (bnd (f_X7_isWithin a2 0 1) fun r2 =>
  (if r2 = 0 then
  (some ((-10000001), S))
  else (chk (okc S 7 a0)
  (chk (okc S 3 (S.2.1 a0 0))
  (bnd (f_X7_holds (S.1 (S.2.1 a0 0) 7) a1) fun r3 =>
  (if a2 = 1 then
  (f_X7_blind_J43 S a0 a1 1 r3)
  else (f_X7_blind_J43 S a0 a1 0 r3)))))))))
set_option maxRecDepth 100000 in
set_option maxHeartbeats 4000000 in
theorem c_X7_blind (l : Launch) (g : GG) (S : St) (a0 : Nat) (a1 : Int32) (a2 : Int32) : Ct l yX7_blind cX7_blind 3 (some .int) rm_X7_blind g aW pW [rv g a0, .int a1, .int a2] S (f_X7_blind S a0 a1 a2) := by
  refine Ct.mk (cf := cw (0, 0)) (by decide +kernel) (cat_r (cat_i (cat_i cat_n))) (Nat.le_of_ble_eq_true rfl) rfl ?_
  intro X hXl hin C
  show J X g _ _ 0 [(0, rv g a0), (1, .int a1), (2, .int a2)] [] S (f_X7_blind S a0 a1 a2)
  unfold f_X7_blind
  refine J.iload_n (pc := 0) C dX7_blind_0 rfl rfl ?_
  refine J.iconst (pc := 1) C dX7_blind_1 ki_0 ?_
  refine J.bipush (pc := 2) C dX7_blind_2 kb_9 ?_
  refine J.sI (pc := 4) C ms_X7_isWithin wm_RX7_56 (fun l => c_X7_isWithin l g S a1 0 9) ⟨⟨Nat.zero_le _, Nat.zero_le _⟩, rfl, rfl⟩ rfl ⟨Nat.le_of_ble_eq_true rfl, Nat.le_of_ble_eq_true rfl⟩ rfl cat_n (Nat.le_of_ble_eq_true rfl) dX7_blind_4 (fun r1 => ?_)
  refine J.if_eq (pc := 7) C (tgt := 19) dX7_blind_7 rfl ?_ ?_
  · refine J.ldc (pc := 19) C wc_RX7_60 dX7_blind_19 ?_
    exact J.iret (pc := 21) C rfl rfl ⟨Nat.le_refl _, Nat.le_refl _⟩ dX7_blind_21
  · refine J.iload_n (pc := 10) C dX7_blind_10 rfl rfl ?_
    refine J.iconst (pc := 11) C dX7_blind_11 ki_0 ?_
    refine J.iconst (pc := 12) C dX7_blind_12 ki_1 ?_
    refine J.sI (pc := 13) C ms_X7_isWithin wm_RX7_56 (fun l => c_X7_isWithin l g S a2 0 1) ⟨⟨Nat.zero_le _, Nat.zero_le _⟩, rfl, rfl⟩ rfl ⟨Nat.le_of_ble_eq_true rfl, Nat.le_of_ble_eq_true rfl⟩ rfl cat_n (Nat.le_of_ble_eq_true rfl) dX7_blind_13 (fun r2 => ?_)
    refine J.if_ne (pc := 16) C (tgt := 22) dX7_blind_16 rfl ?_ ?_
    · refine J.aload_n (pc := 22) C (x := a0) dX7_blind_22 rfl rfl ?_
      refine J.getR (pc := 23) C fl_RX7_12 rfl dX7_blind_23 ?_
      refine J.getI (pc := 26) C fl_RX7_119 rfl dX7_blind_26 ?_
      refine J.iload_n (pc := 29) C dX7_blind_29 rfl rfl ?_
      refine J.sI (pc := 30) C ms_X7_holds wm_RX7_122 (fun l => c_X7_holds l g S (S.1 (S.2.1 a0 0) 7) a1) ⟨⟨Nat.zero_le _, Nat.zero_le _⟩, rfl, rfl⟩ rfl ⟨Nat.le_of_ble_eq_true rfl, Nat.le_of_ble_eq_true rfl⟩ rfl cat_n (Nat.le_of_ble_eq_true rfl) dX7_blind_30 (fun r3 => ?_)
      refine J.iload_n (pc := 33) C dX7_blind_33 rfl rfl ?_
      refine J.iconst (pc := 34) C dX7_blind_34 ki_1 ?_
      refine J.icmp_ne (pc := 35) C (tgt := 42) dX7_blind_35 rfl ?_ ?_
      · refine J.iconst (pc := 42) C dX7_blind_42 ki_0 ?_
        exact J.pick [0, 1] rfl (w_X7_blind_J43 C _ _ _ _ _)
      · refine J.iconst (pc := 38) C dX7_blind_38 ki_1 ?_
        refine J.goto (pc := 39) C (tgt := 43) dX7_blind_39 rfl ?_
        exact J.pick [0, 1] rfl (w_X7_blind_J43 C _ _ _ _ _)
    · refine J.ldc (pc := 19) C wc_RX7_60 dX7_blind_19 ?_
      exact J.iret (pc := 21) C rfl rfl ⟨Nat.le_refl _, Nat.le_refl _⟩ dX7_blind_21
abbrev rm_X7_clearText : Room := { frames := 0, cells := 0, slots := 0, locals := 0 }
def f_X7_clearText (S : St) (a0 : Nat) : Option (Int32 × St) :=
  (chk (okc S 7 a0)
  (chk (okc S 4 (S.2.1 a0 3))
  (chk (okc S 7 a0)
  (chk (okc S 4 (S.2.1 a0 3)) (vlt (upI S (S.2.1 a0 3) 1 0) fun S_1 =>
  (some (S.1 (S.2.1 a0 3) 1, S_1)))))))
set_option maxRecDepth 100000 in
set_option maxHeartbeats 4000000 in
theorem c_X7_clearText (l : Launch) (g : GG) (S : St) (a0 : Nat) : Ct l yX7_clearText cX7_clearText 2 (some .int) rm_X7_clearText g aW pW [rv g a0] S (f_X7_clearText S a0) := by
  refine Ct.mk (cf := cw (0, 0)) (by decide +kernel) (cat_r cat_n) (Nat.le_of_ble_eq_true rfl) rfl ?_
  intro X hXl hin C
  show J X g _ _ 0 [(0, rv g a0)] [] S (f_X7_clearText S a0)
  unfold f_X7_clearText
  refine J.aload_n (pc := 0) C (x := a0) dX7_clearText_0 rfl rfl ?_
  refine J.getR (pc := 1) C fl_RX7_27 rfl dX7_clearText_1 ?_
  refine J.getI (pc := 4) C fl_RX7_254 rfl dX7_clearText_4 ?_
  refine J.istore_n (pc := 7) C (lv' := [(0, rv g a0), (1, .int (S.1 (S.2.1 a0 3) 1))]) dX7_clearText_7 rfl (Nat.le_of_ble_eq_true rfl) rfl ?_
  refine J.aload_n (pc := 8) C (x := a0) dX7_clearText_8 rfl rfl ?_
  refine J.getR (pc := 9) C fl_RX7_27 rfl dX7_clearText_9 ?_
  refine J.iconst (pc := 12) C dX7_clearText_12 ki_0 ?_
  refine J.putIs (pc := 13) C fl_RX7_254 rfl (fun r h => by cases h; rfl) rfl rfl dX7_clearText_13 (fun S_1 => ?_)
  refine J.iload_n (pc := 16) C dX7_clearText_16 rfl rfl ?_
  exact J.iret (pc := 17) C rfl rfl ⟨Nat.le_refl _, Nat.le_refl _⟩ dX7_clearText_17
abbrev rm_X7_count : Room := { frames := 2, cells := 0, slots := 0, locals := 42 }
def f_X7_count (S : St) (a0 : Nat) (a1 : Int32) : Option Int32 :=
  (bnd (f_X7_isWithin a1 10 17) fun r1 =>
  (if r1 = 0 then
  (if a1 = 0 then
  (chk (okc S 7 a0)
  (chk (okc S 3 (S.2.1 a0 0))
  (some (S.1 (S.2.1 a0 0) 2))))
  else (if a1 = 1 then
  (chk (okc S 7 a0)
  (chk (okc S 3 (S.2.1 a0 0))
  (some (S.1 (S.2.1 a0 0) 4))))
  else (if a1 = 2 then
  (chk (okc S 7 a0)
  (chk (okc S 3 (S.2.1 a0 0))
  (some (S.1 (S.2.1 a0 0) 6))))
  else (if a1 = 3 then
  (chk (okc S 7 a0)
  (chk (okc S 3 (S.2.1 a0 0))
  (bnd (f_J6_bitCount_0f7a4 (S.1 (S.2.1 a0 0) 7)) fun r2 =>
  (some r2))))
  else (if a1 = 4 then
  (chk (okc S 7 a0)
  (chk (okc S 3 (S.2.1 a0 0))
  (some (S.1 (S.2.1 a0 0) 5))))
  else (if a1 = 5 then
  (chk (okc S 7 a0)
  (chk (okc S 3 (S.2.1 a0 0))
  (chk (okc S 7 a0)
  (chk (okc S 3 (S.2.1 a0 0)) (bnd (f_X3_setting S (S.2.1 a0 0) 5) fun r3 =>
  (chk (okc S 7 a0)
  (chk (okc S 3 (S.2.1 a0 0)) (bnd (f_X3_setting S (S.2.1 a0 0) 6) fun r4 =>
  (bnd (f_X7_isDark (S.1 (S.2.1 a0 0) 6) r3 r4) fun r5 =>
  (if r5 = 0 then
  (some 0)
  else (some 1)))))))))))
  else (if a1 = 6 then
  (chk (okc S 7 a0)
  (some (S.1 a0 2)))
  else (if a1 = 7 then
  (chk (okc S 7 a0)
  (chk (okc S 4 (S.2.1 a0 3))
  (some (S.1 (S.2.1 a0 3) 1))))
  else (some (-10000001))))))))))
  else (chk (okc S 7 a0)
  (chk (okc S 3 (S.2.1 a0 0)) (bnd (f_X3_setting S (S.2.1 a0 0) (a1 - 10)) fun r6 =>
  (some r6))))))
set_option maxRecDepth 100000 in
set_option maxHeartbeats 4000000 in
theorem c_X7_count (l : Launch) (g : GG) (S : St) (a0 : Nat) (a1 : Int32) : Ct l yX7_count cX7_count 2 (some .int) rm_X7_count g aI (pK S) [rv g a0, .int a1] S (f_X7_count S a0 a1) := by
  refine Ct.mk (cf := cw (0, 0)) (by decide +kernel) (cat_r (cat_i cat_n)) (Nat.le_of_ble_eq_true rfl) rfl ?_
  intro X hXl hin C
  show J X g _ _ 0 [(0, rv g a0), (1, .int a1)] [] S (f_X7_count S a0 a1)
  unfold f_X7_count
  refine J.iload_n (pc := 0) C dX7_count_0 rfl rfl ?_
  refine J.bipush (pc := 1) C dX7_count_1 kb_10 ?_
  refine J.bipush (pc := 3) C dX7_count_3 kb_17 ?_
  refine J.sI (pc := 5) C ms_X7_isWithin wm_RX7_56 (fun l => c_X7_isWithin l g S a1 10 17) ⟨⟨Nat.zero_le _, Nat.zero_le _⟩, rfl, rfl⟩ rfl ⟨Nat.le_of_ble_eq_true rfl, Nat.le_of_ble_eq_true rfl⟩ rfl cat_n (Nat.le_of_ble_eq_true rfl) dX7_count_5 (fun r1 => ?_)
  refine J.if_eq (pc := 8) C (tgt := 23) dX7_count_8 rfl ?_ ?_
  · refine J.iload_n (pc := 23) C dX7_count_23 rfl rfl ?_
    refine J.ite (fun h0 => ?_) (fun h0 => ?_)
    · refine J.tswIn (pc := 24) C (tgt := 72) 0 dX7_count_24 h0 (by decide) (by decide) rfl rfl ?_
      refine J.aload_n (pc := 72) C (x := a0) dX7_count_72 rfl rfl ?_
      refine J.getR (pc := 73) C fl_RX7_12 rfl dX7_count_73 ?_
      refine J.getI (pc := 76) C fl_RX7_90 rfl dX7_count_76 ?_
      exact J.iret (pc := 79) C rfl rfl ⟨Nat.le_refl _, Nat.le_refl _⟩ dX7_count_79
    · refine J.ite (fun h1 => ?_) (fun h1 => ?_)
      · refine J.tswIn (pc := 24) C (tgt := 80) 1 dX7_count_24 h1 (by decide) (by decide) rfl rfl ?_
        refine J.aload_n (pc := 80) C (x := a0) dX7_count_80 rfl rfl ?_
        refine J.getR (pc := 81) C fl_RX7_12 rfl dX7_count_81 ?_
        refine J.getI (pc := 84) C fl_RX7_71 rfl dX7_count_84 ?_
        exact J.iret (pc := 87) C rfl rfl ⟨Nat.le_refl _, Nat.le_refl _⟩ dX7_count_87
      · refine J.ite (fun h2 => ?_) (fun h2 => ?_)
        · refine J.tswIn (pc := 24) C (tgt := 88) 2 dX7_count_24 h2 (by decide) (by decide) rfl rfl ?_
          refine J.aload_n (pc := 88) C (x := a0) dX7_count_88 rfl rfl ?_
          refine J.getR (pc := 89) C fl_RX7_12 rfl dX7_count_89 ?_
          refine J.getI (pc := 92) C fl_RX7_107 rfl dX7_count_92 ?_
          exact J.iret (pc := 95) C rfl rfl ⟨Nat.le_refl _, Nat.le_refl _⟩ dX7_count_95
        · refine J.ite (fun h3 => ?_) (fun h3 => ?_)
          · refine J.tswIn (pc := 24) C (tgt := 96) 3 dX7_count_24 h3 (by decide) (by decide) rfl rfl ?_
            refine J.aload_n (pc := 96) C (x := a0) dX7_count_96 rfl rfl ?_
            refine J.getR (pc := 97) C fl_RX7_12 rfl dX7_count_97 ?_
            refine J.getI (pc := 100) C fl_RX7_119 rfl dX7_count_100 ?_
            refine J.sI (pc := 103) C ms_J6_bitCount_0f7a4 wm_RX7_126 (fun l => c_J6_bitCount_0f7a4 l g S (S.1 (S.2.1 a0 0) 7)) ⟨⟨Nat.zero_le _, Nat.zero_le _⟩, rfl, rfl⟩ rfl ⟨Nat.le_of_ble_eq_true rfl, Nat.le_of_ble_eq_true rfl⟩ rfl cat_n (Nat.le_of_ble_eq_true rfl) dX7_count_103 (fun r2 => ?_)
            exact J.iret (pc := 106) C rfl rfl ⟨Nat.le_refl _, Nat.le_refl _⟩ dX7_count_106
          · refine J.ite (fun h4 => ?_) (fun h4 => ?_)
            · refine J.tswIn (pc := 24) C (tgt := 107) 4 dX7_count_24 h4 (by decide) (by decide) rfl rfl ?_
              refine J.aload_n (pc := 107) C (x := a0) dX7_count_107 rfl rfl ?_
              refine J.getR (pc := 108) C fl_RX7_12 rfl dX7_count_108 ?_
              refine J.getI (pc := 111) C fl_RX7_248 rfl dX7_count_111 ?_
              exact J.iret (pc := 114) C rfl rfl ⟨Nat.le_refl _, Nat.le_refl _⟩ dX7_count_114
            · refine J.ite (fun h5 => ?_) (fun h5 => ?_)
              · refine J.tswIn (pc := 24) C (tgt := 115) 5 dX7_count_24 h5 (by decide) (by decide) rfl rfl ?_
                refine J.aload_n (pc := 115) C (x := a0) dX7_count_115 rfl rfl ?_
                refine J.getR (pc := 116) C fl_RX7_12 rfl dX7_count_116 ?_
                refine J.getI (pc := 119) C fl_RX7_107 rfl dX7_count_119 ?_
                refine J.aload_n (pc := 122) C (x := a0) dX7_count_122 rfl rfl ?_
                refine J.getR (pc := 123) C fl_RX7_12 rfl dX7_count_123 ?_
                refine J.iconst (pc := 126) C dX7_count_126 ki_5 ?_
                refine J.vI (pc := 127) C mv_X3_setting wm_RX7_78 (fun l => c_X3_setting l g S (S.2.1 a0 0) 5) ⟨⟨Nat.zero_le _, Nat.zero_le _⟩, rfl, rfl⟩ rfl ⟨Nat.le_of_ble_eq_true rfl, Nat.le_of_ble_eq_true rfl⟩ rfl (cat_i cat_n) (Nat.le_of_ble_eq_true rfl) dX7_count_127 (fun r3 => ?_)
                refine J.aload_n (pc := 130) C (x := a0) dX7_count_130 rfl rfl ?_
                refine J.getR (pc := 131) C fl_RX7_12 rfl dX7_count_131 ?_
                refine J.bipush (pc := 134) C dX7_count_134 kb_6 ?_
                refine J.vI (pc := 136) C mv_X3_setting wm_RX7_78 (fun l => c_X3_setting l g S (S.2.1 a0 0) 6) ⟨⟨Nat.zero_le _, Nat.zero_le _⟩, rfl, rfl⟩ rfl ⟨Nat.le_of_ble_eq_true rfl, Nat.le_of_ble_eq_true rfl⟩ rfl (cat_i (cat_i cat_n)) (Nat.le_of_ble_eq_true rfl) dX7_count_136 (fun r4 => ?_)
                refine J.sI (pc := 139) C ms_X7_isDark wm_RX7_251 (fun l => c_X7_isDark l g S (S.1 (S.2.1 a0 0) 6) r3 r4) ⟨⟨Nat.zero_le _, Nat.zero_le _⟩, rfl, rfl⟩ rfl ⟨Nat.le_of_ble_eq_true rfl, Nat.le_of_ble_eq_true rfl⟩ rfl cat_n (Nat.le_of_ble_eq_true rfl) dX7_count_139 (fun r5 => ?_)
                refine J.if_eq (pc := 142) C (tgt := 149) dX7_count_142 rfl ?_ ?_
                · refine J.iconst (pc := 149) C dX7_count_149 ki_0 ?_
                  exact J.iret (pc := 150) C rfl rfl ⟨Nat.le_refl _, Nat.le_refl _⟩ dX7_count_150
                · refine J.iconst (pc := 145) C dX7_count_145 ki_1 ?_
                  refine J.goto (pc := 146) C (tgt := 150) dX7_count_146 rfl ?_
                  exact J.iret (pc := 150) C rfl rfl ⟨Nat.le_refl _, Nat.le_refl _⟩ dX7_count_150
              · refine J.ite (fun h6 => ?_) (fun h6 => ?_)
                · refine J.tswIn (pc := 24) C (tgt := 151) 6 dX7_count_24 h6 (by decide) (by decide) rfl rfl ?_
                  refine J.aload_n (pc := 151) C (x := a0) dX7_count_151 rfl rfl ?_
                  refine J.getI (pc := 152) C fl_RX7_20 rfl dX7_count_152 ?_
                  exact J.iret (pc := 155) C rfl rfl ⟨Nat.le_refl _, Nat.le_refl _⟩ dX7_count_155
                · refine J.ite (fun h7 => ?_) (fun h7 => ?_)
                  · refine J.tswIn (pc := 24) C (tgt := 156) 7 dX7_count_24 h7 (by decide) (by decide) rfl rfl ?_
                    refine J.aload_n (pc := 156) C (x := a0) dX7_count_156 rfl rfl ?_
                    refine J.getR (pc := 157) C fl_RX7_27 rfl dX7_count_157 ?_
                    refine J.getI (pc := 160) C fl_RX7_254 rfl dX7_count_160 ?_
                    exact J.iret (pc := 163) C rfl rfl ⟨Nat.le_refl _, Nat.le_refl _⟩ dX7_count_163
                  · refine J.tswOut (pc := 24) C (tgt := 164) dX7_count_24 (by have e0 := lv_neT h0 (a := 0) rfl; have e1 := lv_neT h1 (a := 1) rfl; have e2 := lv_neT h2 (a := 2) rfl; have e3 := lv_neT h3 (a := 3) rfl; have e4 := lv_neT h4 (a := 4) rfl; have e5 := lv_neT h5 (a := 5) rfl; have e6 := lv_neT h6 (a := 6) rfl; have e7 := lv_neT h7 (a := 7) rfl; omega) rfl ?_
                    refine J.ldc (pc := 164) C wc_RX7_60 dX7_count_164 ?_
                    exact J.iret (pc := 166) C rfl rfl ⟨Nat.le_refl _, Nat.le_refl _⟩ dX7_count_166
  · refine J.aload_n (pc := 11) C (x := a0) dX7_count_11 rfl rfl ?_
    refine J.getR (pc := 12) C fl_RX7_12 rfl dX7_count_12 ?_
    refine J.iload_n (pc := 15) C dX7_count_15 rfl rfl ?_
    refine J.bipush (pc := 16) C dX7_count_16 kb_10 ?_
    refine J.isub (pc := 18) C dX7_count_18 ?_
    refine J.vI (pc := 19) C mv_X3_setting wm_RX7_78 (fun l => c_X3_setting l g S (S.2.1 a0 0) (a1 - 10)) ⟨⟨Nat.zero_le _, Nat.zero_le _⟩, rfl, rfl⟩ rfl ⟨Nat.le_of_ble_eq_true rfl, Nat.le_of_ble_eq_true rfl⟩ rfl cat_n (Nat.le_of_ble_eq_true rfl) dX7_count_19 (fun r6 => ?_)
    exact J.iret (pc := 22) C rfl rfl ⟨Nat.le_refl _, Nat.le_refl _⟩ dX7_count_22
abbrev rm_X6_votersFor : Room := { frames := 0, cells := 0, slots := 0, locals := 0 }
def f_X6_votersFor_B4 (S : St) (a0 : Nat) (a1 : Int32) (kx4 : Int32 → Option Int32) (k4 : Int32 → Int32 → Option Int32) (x2 : Int32) (x3 : Int32) : Option Int32 :=
  (chk (okc S 6 a0)
  (chk (okc S 10 (S.2.1 a0 2))
  (if (Int32.ofNat (ln (S.2.1 a0 2))) ≤ x3 then
  (kx4 x2)
  else (chk (okc S 6 a0)
  (chk (ina S 10 (S.2.1 a0 2) x3)
  (if (S.1 (S.2.1 a0 2) x3.toNatClampNeg) = a1 then
  (k4 (x2 ||| (1 <<< (x3 &&& 31))) (x3 + 1))
  else (k4 x2 (x3 + 1))))))))
set_option maxRecDepth 100000 in
set_option maxHeartbeats 4000000 in
theorem w_X6_votersFor_B4 {X : CT} {g : GG} (C : CX X g cX6_votersFor RX6 (some .int) 4 rm_X6_votersFor) (S : St) (a0 : Nat) (a1 : Int32) (kx4 : Int32 → Option Int32) (hkx4 : ∀ (x2 : Int32), J X g (Qm X g aI (pK S)) (cw (0, 0)) 35 [(2, .int x2)] [] S (kx4 x2)) : ∀ (n : Nat) (x2 : Int32) (x3 : Int32), J X g (Qm X g aI (pK S)) (cw (0, 0)) 4 [(0, rv g a0), (1, .int a1), (2, .int x2), (3, .int x3)] [] S (wl2 (f_X6_votersFor_B4 S a0 a1 kx4) n x2 x3) := by
  refine J.loop2 (lvf := fun (x2 : Int32) (x3 : Int32) => [(0, rv g a0), (1, .int a1), (2, .int x2), (3, .int x3)]) (Sf := fun (x2 : Int32) (x3 : Int32) => S) ?_
  intro k4 hk4 x2 x3
  show J X g _ _ 4 [(0, rv g a0), (1, .int a1), (2, .int x2), (3, .int x3)] [] S (f_X6_votersFor_B4 S a0 a1 kx4 k4 x2 x3)
  unfold f_X6_votersFor_B4
  refine J.iload_n (pc := 4) C dX6_votersFor_4 rfl rfl ?_
  refine J.aload_n (pc := 5) C (x := a0) dX6_votersFor_5 rfl rfl ?_
  refine J.getR (pc := 6) C fl_RX6_18 rfl dX6_votersFor_6 ?_
  refine J.alen (pc := 9) C 10 (by decide) dX6_votersFor_9 ?_
  refine J.icmp_ge (pc := 10) C (tgt := 35) dX6_votersFor_10 rfl ?_ ?_
  · exact J.pick [2] rfl (hkx4 _)
  · refine J.aload_n (pc := 13) C (x := a0) dX6_votersFor_13 rfl rfl ?_
    refine J.getR (pc := 14) C fl_RX6_18 rfl dX6_votersFor_14 ?_
    refine J.iload_n (pc := 17) C dX6_votersFor_17 rfl rfl ?_
    refine J.iald (pc := 18) C dX6_votersFor_18 ?_
    refine J.iload_n (pc := 19) C dX6_votersFor_19 rfl rfl ?_
    refine J.icmp_ne (pc := 20) C (tgt := 29) dX6_votersFor_20 rfl ?_ ?_
    · refine J.iinc (pc := 29) C (lv' := [(0, rv g a0), (1, .int a1), (2, .int x2), (3, .int (x3 + 1))]) dX6_votersFor_29 rfl (Nat.le_of_ble_eq_true rfl) ki_1 rfl ?_
      refine J.goto (pc := 32) C (tgt := 4) dX6_votersFor_32 rfl ?_
      exact (hk4 _ _)
    · refine J.iload_n (pc := 23) C dX6_votersFor_23 rfl rfl ?_
      refine J.iconst (pc := 24) C dX6_votersFor_24 ki_1 ?_
      refine J.iload_n (pc := 25) C dX6_votersFor_25 rfl rfl ?_
      refine J.ishl (pc := 26) C dX6_votersFor_26 ?_
      refine J.ior (pc := 27) C dX6_votersFor_27 ?_
      refine J.istore_n (pc := 28) C (lv' := [(0, rv g a0), (1, .int a1), (2, .int (x2 ||| (1 <<< (x3 &&& 31)))), (3, .int x3)]) dX6_votersFor_28 rfl (Nat.le_of_ble_eq_true rfl) rfl ?_
      refine J.iinc (pc := 29) C (lv' := [(0, rv g a0), (1, .int a1), (2, .int (x2 ||| (1 <<< (x3 &&& 31)))), (3, .int (x3 + 1))]) dX6_votersFor_29 rfl (Nat.le_of_ble_eq_true rfl) ki_1 rfl ?_
      refine J.goto (pc := 32) C (tgt := 4) dX6_votersFor_32 rfl ?_
      exact (hk4 _ _)
def f_X6_votersFor (S : St) (a0 : Nat) (a1 : Int32) : Option Int32 :=
  (wl2 (f_X6_votersFor_B4 S a0 a1 (fun (y2_1 : Int32) => (some y2_1))) FU 0 0)
set_option maxRecDepth 100000 in
set_option maxHeartbeats 4000000 in
theorem c_X6_votersFor (l : Launch) (g : GG) (S : St) (a0 : Nat) (a1 : Int32) : Ct l yX6_votersFor cX6_votersFor 4 (some .int) rm_X6_votersFor g aI (pK S) [rv g a0, .int a1] S (f_X6_votersFor S a0 a1) := by
  refine Ct.mk (cf := cw (0, 0)) (by decide +kernel) (cat_r (cat_i cat_n)) (Nat.le_of_ble_eq_true rfl) rfl ?_
  intro X hXl hin C
  show J X g _ _ 0 [(0, rv g a0), (1, .int a1)] [] S (f_X6_votersFor S a0 a1)
  unfold f_X6_votersFor
  refine J.iconst (pc := 0) C dX6_votersFor_0 ki_0 ?_
  refine J.istore_n (pc := 1) C (lv' := [(0, rv g a0), (1, .int a1), (2, .int 0)]) dX6_votersFor_1 rfl (Nat.le_of_ble_eq_true rfl) rfl ?_
  refine J.iconst (pc := 2) C dX6_votersFor_2 ki_0 ?_
  refine J.istore_n (pc := 3) C (lv' := [(0, rv g a0), (1, .int a1), (2, .int 0), (3, .int 0)]) dX6_votersFor_3 rfl (Nat.le_of_ble_eq_true rfl) rfl ?_
  refine w_X6_votersFor_B4 C _ _ _ _ (fun y2_1 => ?_) FU _ _
  refine J.iload_n (pc := 35) C dX6_votersFor_35 rfl rfl ?_
  exact J.iret (pc := 36) C rfl rfl ⟨Nat.le_refl _, Nat.le_refl _⟩ dX6_votersFor_36
abbrev rm_X6_votersAtAll : Room := { frames := 1, cells := 0, slots := 0, locals := 23 }
def f_X6_votersAtAll (S : St) (a0 : Nat) : Option Int32 :=
  (chk (okc S 6 a0)
  (chk (okc S 10 (S.2.1 a0 2))
  (chk (okc S 6 a0) (bnd (f_X6_votersFor S a0 (-10000004)) fun r1 =>
  (some (((1 <<< ((Int32.ofNat (ln (S.2.1 a0 2))) &&& 31)) - 1) &&& (r1 ^^^ (-1))))))))
set_option maxRecDepth 100000 in
set_option maxHeartbeats 4000000 in
theorem c_X6_votersAtAll (l : Launch) (g : GG) (S : St) (a0 : Nat) : Ct l yX6_votersAtAll cX6_votersAtAll 1 (some .int) rm_X6_votersAtAll g aI (pK S) [rv g a0] S (f_X6_votersAtAll S a0) := by
  refine Ct.mk (cf := cw (0, 0)) (by decide +kernel) (cat_r cat_n) (Nat.le_of_ble_eq_true rfl) rfl ?_
  intro X hXl hin C
  show J X g _ _ 0 [(0, rv g a0)] [] S (f_X6_votersAtAll S a0)
  unfold f_X6_votersAtAll
  refine J.iconst (pc := 0) C dX6_votersAtAll_0 ki_1 ?_
  refine J.aload_n (pc := 1) C (x := a0) dX6_votersAtAll_1 rfl rfl ?_
  refine J.getR (pc := 2) C fl_RX6_18 rfl dX6_votersAtAll_2 ?_
  refine J.alen (pc := 5) C 10 (by decide) dX6_votersAtAll_5 ?_
  refine J.ishl (pc := 6) C dX6_votersAtAll_6 ?_
  refine J.iconst (pc := 7) C dX6_votersAtAll_7 ki_1 ?_
  refine J.isub (pc := 8) C dX6_votersAtAll_8 ?_
  refine J.aload_n (pc := 9) C (x := a0) dX6_votersAtAll_9 rfl rfl ?_
  refine J.ldc (pc := 10) C wc_RX6_54 dX6_votersAtAll_10 ?_
  refine J.vI (pc := 12) C mv_X6_votersFor wm_RX6_58 (fun l => c_X6_votersFor l g S a0 (-10000004)) ⟨⟨Nat.zero_le _, Nat.zero_le _⟩, rfl, rfl⟩ rfl ⟨Nat.le_of_ble_eq_true rfl, Nat.le_of_ble_eq_true rfl⟩ rfl (cat_i cat_n) (Nat.le_of_ble_eq_true rfl) dX6_votersAtAll_12 (fun r1 => ?_)
  refine J.iconst (pc := 15) C dX6_votersAtAll_15 ki_m1 ?_
  refine J.ixor (pc := 16) C dX6_votersAtAll_16 ?_
  refine J.iand (pc := 17) C dX6_votersAtAll_17 ?_
  exact J.iret (pc := 18) C rfl rfl ⟨Nat.le_refl _, Nat.le_refl _⟩ dX6_votersAtAll_18
abbrev rm_X7_isPair : Room := { frames := 1, cells := 0, slots := 0, locals := 21 }
def f_X7_isPair (S : St) (a0 : Nat) (a1 : Int32) (a2 : Int32) : Option Int32 :=
  (if a1 = a2 then
  (some 0)
  else (chk (okc S 7 a0)
  (chk (okc S 3 (S.2.1 a0 0)) (bnd (f_X3_frameAt S (S.2.1 a0 0) a1) fun r1 =>
  (if r1 = 0 then
  (some 0)
  else (chk (okc S 7 a0)
  (chk (okc S 3 (S.2.1 a0 0)) (bnd (f_X3_frameAt S (S.2.1 a0 0) a2) fun r2 =>
  (if r2 = 0 then
  (some 0)
  else (some 1))))))))))
set_option maxRecDepth 100000 in
set_option maxHeartbeats 4000000 in
theorem c_X7_isPair (l : Launch) (g : GG) (S : St) (a0 : Nat) (a1 : Int32) (a2 : Int32) : Ct l yX7_isPair cX7_isPair 3 (some .boolean) rm_X7_isPair g aI (pK S) [rv g a0, .int a1, .int a2] S (f_X7_isPair S a0 a1 a2) := by
  refine Ct.mk (cf := cw (0, 0)) (by decide +kernel) (cat_r (cat_i (cat_i cat_n))) (Nat.le_of_ble_eq_true rfl) rfl ?_
  intro X hXl hin C
  show J X g _ _ 0 [(0, rv g a0), (1, .int a1), (2, .int a2)] [] S (f_X7_isPair S a0 a1 a2)
  unfold f_X7_isPair
  refine J.iload_n (pc := 0) C dX7_isPair_0 rfl rfl ?_
  refine J.iload_n (pc := 1) C dX7_isPair_1 rfl rfl ?_
  refine J.icmp_eq (pc := 2) C (tgt := 31) dX7_isPair_2 rfl ?_ ?_
  · refine J.iconst (pc := 31) C dX7_isPair_31 ki_0 ?_
    exact J.zret (pc := 32) C rfl rfl rfl ⟨Nat.le_refl _, Nat.le_refl _⟩ dX7_isPair_32
  · refine J.aload_n (pc := 5) C (x := a0) dX7_isPair_5 rfl rfl ?_
    refine J.getR (pc := 6) C fl_RX7_12 rfl dX7_isPair_6 ?_
    refine J.iload_n (pc := 9) C dX7_isPair_9 rfl rfl ?_
    refine J.vR (pc := 10) C mv_X3_frameAt wm_RX7_149 (fun l => c_X3_frameAt l g S (S.2.1 a0 0) a1) ⟨⟨Nat.zero_le _, Nat.zero_le _⟩, rfl, rfl⟩ rfl ⟨Nat.le_of_ble_eq_true rfl, Nat.le_of_ble_eq_true rfl⟩ rfl cat_n (Nat.le_of_ble_eq_true rfl) dX7_isPair_10 (fun r1 => ?_)
    refine J.ifnull (pc := 13) C (tgt := 31) dX7_isPair_13 rfl ?_ ?_
    · refine J.iconst (pc := 31) C dX7_isPair_31 ki_0 ?_
      exact J.zret (pc := 32) C rfl rfl rfl ⟨Nat.le_refl _, Nat.le_refl _⟩ dX7_isPair_32
    · refine J.aload_n (pc := 16) C (x := a0) dX7_isPair_16 rfl rfl ?_
      refine J.getR (pc := 17) C fl_RX7_12 rfl dX7_isPair_17 ?_
      refine J.iload_n (pc := 20) C dX7_isPair_20 rfl rfl ?_
      refine J.vR (pc := 21) C mv_X3_frameAt wm_RX7_149 (fun l => c_X3_frameAt l g S (S.2.1 a0 0) a2) ⟨⟨Nat.zero_le _, Nat.zero_le _⟩, rfl, rfl⟩ rfl ⟨Nat.le_of_ble_eq_true rfl, Nat.le_of_ble_eq_true rfl⟩ rfl cat_n (Nat.le_of_ble_eq_true rfl) dX7_isPair_21 (fun r2 => ?_)
      refine J.ifnull (pc := 24) C (tgt := 31) dX7_isPair_24 rfl ?_ ?_
      · refine J.iconst (pc := 31) C dX7_isPair_31 ki_0 ?_
        exact J.zret (pc := 32) C rfl rfl rfl ⟨Nat.le_refl _, Nat.le_refl _⟩ dX7_isPair_32
      · refine J.iconst (pc := 27) C dX7_isPair_27 ki_1 ?_
        refine J.goto (pc := 28) C (tgt := 32) dX7_isPair_28 rfl ?_
        exact J.zret (pc := 32) C rfl rfl rfl ⟨Nat.le_refl _, Nat.le_refl _⟩ dX7_isPair_32
abbrev rm_X7_voteOn : Room := { frames := 5, cells := 0, slots := 0, locals := 116 }
def f_X7_voteOn (S : St) (a0 : Nat) (a1 : Int32) (a2 : Int32) : Option St :=
  (chk (okc S 7 a0)
  (chk (okc S 7 a0)
  (chk (okc S 7 a0)
  (chk (okc S 3 (S.2.1 a0 0)) (bnd (f_X3_frameAt S (S.2.1 a0 0) a1) fun r1 =>
  (chk (okc S 6 (S.2.1 a0 4)) (bnd (f_X6_readFirst S (S.2.1 a0 4) (S.2.1 a0 0) r1) fun S_2 =>
  (chk (okc S_2 7 a0)
  (chk (okc S_2 7 a0)
  (chk (okc S_2 7 a0)
  (chk (okc S_2 3 (S_2.2.1 a0 0)) (bnd (f_X3_frameAt S_2 (S_2.2.1 a0 0) a2) fun r3 =>
  (chk (okc S_2 6 (S_2.2.1 a0 4)) (bnd (f_X6_readSecond S_2 (S_2.2.1 a0 4) (S_2.2.1 a0 0) r3) fun S_4 =>
  (chk (okc S_4 7 a0)
  (chk (okc S_4 6 (S_4.2.1 a0 4)) (bnd (f_X6_voteOnShift S_4 (S_4.2.1 a0 4)) fun S_5 =>
  (some S_5))))))))))))))))))
set_option maxRecDepth 100000 in
set_option maxHeartbeats 4000000 in
theorem c_X7_voteOn (l : Launch) (g : GG) (S : St) (a0 : Nat) (a1 : Int32) (a2 : Int32) : Ct l yX7_voteOn cX7_voteOn 3 none rm_X7_voteOn g aU pU [rv g a0, .int a1, .int a2] S (f_X7_voteOn S a0 a1 a2) := by
  refine Ct.mk (cf := cw (0, 0)) (by decide +kernel) (cat_r (cat_i (cat_i cat_n))) (Nat.le_of_ble_eq_true rfl) rfl ?_
  intro X hXl hin C
  show J X g _ _ 0 [(0, rv g a0), (1, .int a1), (2, .int a2)] [] S (f_X7_voteOn S a0 a1 a2)
  unfold f_X7_voteOn
  refine J.aload_n (pc := 0) C (x := a0) dX7_voteOn_0 rfl rfl ?_
  refine J.getR (pc := 1) C fl_RX7_34 rfl dX7_voteOn_1 ?_
  refine J.aload_n (pc := 4) C (x := a0) dX7_voteOn_4 rfl rfl ?_
  refine J.getR (pc := 5) C fl_RX7_12 rfl dX7_voteOn_5 ?_
  refine J.aload_n (pc := 8) C (x := a0) dX7_voteOn_8 rfl rfl ?_
  refine J.getR (pc := 9) C fl_RX7_12 rfl dX7_voteOn_9 ?_
  refine J.iload_n (pc := 12) C dX7_voteOn_12 rfl rfl ?_
  refine J.vR (pc := 13) C mv_X3_frameAt wm_RX7_149 (fun l => c_X3_frameAt l g S (S.2.1 a0 0) a1) ⟨⟨Nat.zero_le _, Nat.zero_le _⟩, rfl, rfl⟩ rfl ⟨Nat.le_of_ble_eq_true rfl, Nat.le_of_ble_eq_true rfl⟩ rfl (cat_r (cat_r cat_n)) (Nat.le_of_ble_eq_true rfl) dX7_voteOn_13 (fun r1 => ?_)
  refine J.vU (pc := 16) C mv_X6_readFirst wm_RX7_210 (fun l => c_X6_readFirst l g S (S.2.1 a0 4) (S.2.1 a0 0) r1) ⟨⟨Nat.zero_le _, Nat.zero_le _⟩, rfl, rfl⟩ rfl ⟨Nat.le_of_ble_eq_true rfl, Nat.le_of_ble_eq_true rfl⟩ rfl cat_n (Nat.le_of_ble_eq_true rfl) dX7_voteOn_16 (fun S_2 => ?_)
  refine J.aload_n (pc := 19) C (x := a0) dX7_voteOn_19 rfl rfl ?_
  refine J.getR (pc := 20) C fl_RX7_34 rfl dX7_voteOn_20 ?_
  refine J.aload_n (pc := 23) C (x := a0) dX7_voteOn_23 rfl rfl ?_
  refine J.getR (pc := 24) C fl_RX7_12 rfl dX7_voteOn_24 ?_
  refine J.aload_n (pc := 27) C (x := a0) dX7_voteOn_27 rfl rfl ?_
  refine J.getR (pc := 28) C fl_RX7_12 rfl dX7_voteOn_28 ?_
  refine J.iload_n (pc := 31) C dX7_voteOn_31 rfl rfl ?_
  refine J.vR (pc := 32) C mv_X3_frameAt wm_RX7_149 (fun l => c_X3_frameAt l g S_2 (S_2.2.1 a0 0) a2) ⟨⟨Nat.zero_le _, Nat.zero_le _⟩, rfl, rfl⟩ rfl ⟨Nat.le_of_ble_eq_true rfl, Nat.le_of_ble_eq_true rfl⟩ rfl (cat_r (cat_r cat_n)) (Nat.le_of_ble_eq_true rfl) dX7_voteOn_32 (fun r3 => ?_)
  refine J.vU (pc := 35) C mv_X6_readSecond wm_RX7_217 (fun l => c_X6_readSecond l g S_2 (S_2.2.1 a0 4) (S_2.2.1 a0 0) r3) ⟨⟨Nat.zero_le _, Nat.zero_le _⟩, rfl, rfl⟩ rfl ⟨Nat.le_of_ble_eq_true rfl, Nat.le_of_ble_eq_true rfl⟩ rfl cat_n (Nat.le_of_ble_eq_true rfl) dX7_voteOn_35 (fun S_4 => ?_)
  refine J.aload_n (pc := 38) C (x := a0) dX7_voteOn_38 rfl rfl ?_
  refine J.getR (pc := 39) C fl_RX7_34 rfl dX7_voteOn_39 ?_
  refine J.vU (pc := 42) C mv_X6_voteOnShift wm_RX7_220 (fun l => c_X6_voteOnShift l g S_4 (S_4.2.1 a0 4)) ⟨⟨Nat.zero_le _, Nat.zero_le _⟩, rfl, rfl⟩ rfl ⟨Nat.le_of_ble_eq_true rfl, Nat.le_of_ble_eq_true rfl⟩ rfl cat_n (Nat.le_of_ble_eq_true rfl) dX7_voteOn_42 (fun S_5 => ?_)
  exact J.vret (pc := 45) C rfl rfl ⟨Nat.le_refl _, Nat.le_refl _⟩ dX7_voteOn_45
abbrev rm_X7_dissent : Room := { frames := 6, cells := 0, slots := 0, locals := 138 }
def f_X7_dissent (S : St) (a0 : Nat) (a1 : Int32) (a2 : Int32) : Option (Int32 × St) :=
  (chk (okc S 7 a0) (bnd (f_X7_isPair S a0 a1 a2) fun r1 =>
  (if r1 = 0 then
  (some ((-10000001), S))
  else (chk (okc S 7 a0) (bnd (f_X7_voteOn S a0 a1 a2) fun S_2 =>
  (chk (okc S_2 7 a0)
  (chk (okc S_2 6 (S_2.2.1 a0 4)) (bnd (f_X6_told S_2 (S_2.2.1 a0 4)) fun r3 =>
  (if r3 = (-10000004) then
  (some ((-10000004), S_2))
  else (chk (okc S_2 7 a0)
  (chk (okc S_2 6 (S_2.2.1 a0 4)) (bnd (f_X6_votersAtAll S_2 (S_2.2.1 a0 4)) fun r4 =>
  (chk (okc S_2 7 a0)
  (chk (okc S_2 6 (S_2.2.1 a0 4)) (bnd (f_X6_votersFor S_2 (S_2.2.1 a0 4) r3) fun r5 =>
  (some (r4 &&& (r5 ^^^ (-1)), S_2)))))))))))))))))
set_option maxRecDepth 100000 in
set_option maxHeartbeats 4000000 in
theorem c_X7_dissent (l : Launch) (g : GG) (S : St) (a0 : Nat) (a1 : Int32) (a2 : Int32) : Ct l yX7_dissent cX7_dissent 4 (some .int) rm_X7_dissent g aW pW [rv g a0, .int a1, .int a2] S (f_X7_dissent S a0 a1 a2) := by
  refine Ct.mk (cf := cw (0, 0)) (by decide +kernel) (cat_r (cat_i (cat_i cat_n))) (Nat.le_of_ble_eq_true rfl) rfl ?_
  intro X hXl hin C
  show J X g _ _ 0 [(0, rv g a0), (1, .int a1), (2, .int a2)] [] S (f_X7_dissent S a0 a1 a2)
  unfold f_X7_dissent
  refine J.aload_n (pc := 0) C (x := a0) dX7_dissent_0 rfl rfl ?_
  refine J.iload_n (pc := 1) C dX7_dissent_1 rfl rfl ?_
  refine J.iload_n (pc := 2) C dX7_dissent_2 rfl rfl ?_
  refine J.vI (pc := 3) C mv_X7_isPair wm_RX7_171 (fun l => c_X7_isPair l g S a0 a1 a2) ⟨⟨Nat.zero_le _, Nat.zero_le _⟩, rfl, rfl⟩ rfl ⟨Nat.le_of_ble_eq_true rfl, Nat.le_of_ble_eq_true rfl⟩ rfl cat_n (Nat.le_of_ble_eq_true rfl) dX7_dissent_3 (fun r1 => ?_)
  refine J.if_ne (pc := 6) C (tgt := 12) dX7_dissent_6 rfl ?_ ?_
  · refine J.aload_n (pc := 12) C (x := a0) dX7_dissent_12 rfl rfl ?_
    refine J.iload_n (pc := 13) C dX7_dissent_13 rfl rfl ?_
    refine J.iload_n (pc := 14) C dX7_dissent_14 rfl rfl ?_
    refine J.vU (pc := 15) C mv_X7_voteOn wm_RX7_174 (fun l => c_X7_voteOn l g S a0 a1 a2) ⟨⟨Nat.zero_le _, Nat.zero_le _⟩, rfl, rfl⟩ rfl ⟨Nat.le_of_ble_eq_true rfl, Nat.le_of_ble_eq_true rfl⟩ rfl cat_n (Nat.le_of_ble_eq_true rfl) dX7_dissent_15 (fun S_2 => ?_)
    refine J.aload_n (pc := 18) C (x := a0) dX7_dissent_18 rfl rfl ?_
    refine J.getR (pc := 19) C fl_RX7_34 rfl dX7_dissent_19 ?_
    refine J.vI (pc := 22) C mv_X6_told wm_RX7_180 (fun l => c_X6_told l g S_2 (S_2.2.1 a0 4)) ⟨⟨Nat.zero_le _, Nat.zero_le _⟩, rfl, rfl⟩ rfl ⟨Nat.le_of_ble_eq_true rfl, Nat.le_of_ble_eq_true rfl⟩ rfl cat_n (Nat.le_of_ble_eq_true rfl) dX7_dissent_22 (fun r3 => ?_)
    refine J.istore_n (pc := 25) C (lv' := [(0, rv g a0), (1, .int a1), (2, .int a2), (3, .int r3)]) dX7_dissent_25 rfl (Nat.le_of_ble_eq_true rfl) rfl ?_
    refine J.iload_n (pc := 26) C dX7_dissent_26 rfl rfl ?_
    refine J.ldc (pc := 27) C wc_RX7_163 dX7_dissent_27 ?_
    refine J.icmp_ne (pc := 29) C (tgt := 37) dX7_dissent_29 rfl ?_ ?_
    · refine J.aload_n (pc := 37) C (x := a0) dX7_dissent_37 rfl rfl ?_
      refine J.getR (pc := 38) C fl_RX7_34 rfl dX7_dissent_38 ?_
      refine J.vI (pc := 41) C mv_X6_votersAtAll wm_RX7_187 (fun l => c_X6_votersAtAll l g S_2 (S_2.2.1 a0 4)) ⟨⟨Nat.zero_le _, Nat.zero_le _⟩, rfl, rfl⟩ rfl ⟨Nat.le_of_ble_eq_true rfl, Nat.le_of_ble_eq_true rfl⟩ rfl cat_n (Nat.le_of_ble_eq_true rfl) dX7_dissent_41 (fun r4 => ?_)
      refine J.aload_n (pc := 44) C (x := a0) dX7_dissent_44 rfl rfl ?_
      refine J.getR (pc := 45) C fl_RX7_34 rfl dX7_dissent_45 ?_
      refine J.iload_n (pc := 48) C dX7_dissent_48 rfl rfl ?_
      refine J.vI (pc := 49) C mv_X6_votersFor wm_RX7_184 (fun l => c_X6_votersFor l g S_2 (S_2.2.1 a0 4) r3) ⟨⟨Nat.zero_le _, Nat.zero_le _⟩, rfl, rfl⟩ rfl ⟨Nat.le_of_ble_eq_true rfl, Nat.le_of_ble_eq_true rfl⟩ rfl (cat_i cat_n) (Nat.le_of_ble_eq_true rfl) dX7_dissent_49 (fun r5 => ?_)
      refine J.iconst (pc := 52) C dX7_dissent_52 ki_m1 ?_
      refine J.ixor (pc := 53) C dX7_dissent_53 ?_
      refine J.iand (pc := 54) C dX7_dissent_54 ?_
      exact J.iret (pc := 55) C rfl rfl ⟨Nat.le_refl _, Nat.le_refl _⟩ dX7_dissent_55
    · refine J.ldc (pc := 32) C wc_RX7_163 dX7_dissent_32 ?_
      refine J.goto (pc := 34) C (tgt := 55) dX7_dissent_34 rfl ?_
      exact J.iret (pc := 55) C rfl rfl ⟨Nat.le_refl _, Nat.le_refl _⟩ dX7_dissent_55
  · refine J.ldc (pc := 9) C wc_RX7_60 dX7_dissent_9 ?_
    exact J.iret (pc := 11) C rfl rfl ⟨Nat.le_refl _, Nat.le_refl _⟩ dX7_dissent_11
abbrev rm_X7_isPlace : Room := { frames := 2, cells := 0, slots := 0, locals := 42 }
def f_X7_isPlace (S : St) (a0 : Nat) (a1 : Int32) (a2 : Int32) : Option Int32 :=
  (chk (okc S 7 a0)
  (chk (okc S 3 (S.2.1 a0 0)) (bnd (f_X3_setting S (S.2.1 a0 0) 0) fun r1 =>
  (bnd (f_X7_isWithin a1 0 (r1 - 1)) fun r2 =>
  (if r2 = 0 then
  (some 0)
  else (chk (okc S 7 a0)
  (chk (okc S 3 (S.2.1 a0 0)) (bnd (f_X3_setting S (S.2.1 a0 0) 1) fun r3 =>
  (bnd (f_X7_isWithin a2 0 (r3 - 1)) fun r4 =>
  (if r4 = 0 then
  (some 0)
  else (some 1)))))))))))
set_option maxRecDepth 100000 in
set_option maxHeartbeats 4000000 in
theorem c_X7_isPlace (l : Launch) (g : GG) (S : St) (a0 : Nat) (a1 : Int32) (a2 : Int32) : Ct l yX7_isPlace cX7_isPlace 3 (some .boolean) rm_X7_isPlace g aI (pK S) [rv g a0, .int a1, .int a2] S (f_X7_isPlace S a0 a1 a2) := by
  refine Ct.mk (cf := cw (0, 0)) (by decide +kernel) (cat_r (cat_i (cat_i cat_n))) (Nat.le_of_ble_eq_true rfl) rfl ?_
  intro X hXl hin C
  show J X g _ _ 0 [(0, rv g a0), (1, .int a1), (2, .int a2)] [] S (f_X7_isPlace S a0 a1 a2)
  unfold f_X7_isPlace
  refine J.iload_n (pc := 0) C dX7_isPlace_0 rfl rfl ?_
  refine J.iconst (pc := 1) C dX7_isPlace_1 ki_0 ?_
  refine J.aload_n (pc := 2) C (x := a0) dX7_isPlace_2 rfl rfl ?_
  refine J.getR (pc := 3) C fl_RX7_12 rfl dX7_isPlace_3 ?_
  refine J.iconst (pc := 6) C dX7_isPlace_6 ki_0 ?_
  refine J.vI (pc := 7) C mv_X3_setting wm_RX7_78 (fun l => c_X3_setting l g S (S.2.1 a0 0) 0) ⟨⟨Nat.zero_le _, Nat.zero_le _⟩, rfl, rfl⟩ rfl ⟨Nat.le_of_ble_eq_true rfl, Nat.le_of_ble_eq_true rfl⟩ rfl (cat_i (cat_i cat_n)) (Nat.le_of_ble_eq_true rfl) dX7_isPlace_7 (fun r1 => ?_)
  refine J.iconst (pc := 10) C dX7_isPlace_10 ki_1 ?_
  refine J.isub (pc := 11) C dX7_isPlace_11 ?_
  refine J.sI (pc := 12) C ms_X7_isWithin wm_RX7_56 (fun l => c_X7_isWithin l g S a1 0 (r1 - 1)) ⟨⟨Nat.zero_le _, Nat.zero_le _⟩, rfl, rfl⟩ rfl ⟨Nat.le_of_ble_eq_true rfl, Nat.le_of_ble_eq_true rfl⟩ rfl cat_n (Nat.le_of_ble_eq_true rfl) dX7_isPlace_12 (fun r2 => ?_)
  refine J.if_eq (pc := 15) C (tgt := 40) dX7_isPlace_15 rfl ?_ ?_
  · refine J.iconst (pc := 40) C dX7_isPlace_40 ki_0 ?_
    exact J.zret (pc := 41) C rfl rfl rfl ⟨Nat.le_refl _, Nat.le_refl _⟩ dX7_isPlace_41
  · refine J.iload_n (pc := 18) C dX7_isPlace_18 rfl rfl ?_
    refine J.iconst (pc := 19) C dX7_isPlace_19 ki_0 ?_
    refine J.aload_n (pc := 20) C (x := a0) dX7_isPlace_20 rfl rfl ?_
    refine J.getR (pc := 21) C fl_RX7_12 rfl dX7_isPlace_21 ?_
    refine J.iconst (pc := 24) C dX7_isPlace_24 ki_1 ?_
    refine J.vI (pc := 25) C mv_X3_setting wm_RX7_78 (fun l => c_X3_setting l g S (S.2.1 a0 0) 1) ⟨⟨Nat.zero_le _, Nat.zero_le _⟩, rfl, rfl⟩ rfl ⟨Nat.le_of_ble_eq_true rfl, Nat.le_of_ble_eq_true rfl⟩ rfl (cat_i (cat_i cat_n)) (Nat.le_of_ble_eq_true rfl) dX7_isPlace_25 (fun r3 => ?_)
    refine J.iconst (pc := 28) C dX7_isPlace_28 ki_1 ?_
    refine J.isub (pc := 29) C dX7_isPlace_29 ?_
    refine J.sI (pc := 30) C ms_X7_isWithin wm_RX7_56 (fun l => c_X7_isWithin l g S a2 0 (r3 - 1)) ⟨⟨Nat.zero_le _, Nat.zero_le _⟩, rfl, rfl⟩ rfl ⟨Nat.le_of_ble_eq_true rfl, Nat.le_of_ble_eq_true rfl⟩ rfl cat_n (Nat.le_of_ble_eq_true rfl) dX7_isPlace_30 (fun r4 => ?_)
    refine J.if_eq (pc := 33) C (tgt := 40) dX7_isPlace_33 rfl ?_ ?_
    · refine J.iconst (pc := 40) C dX7_isPlace_40 ki_0 ?_
      exact J.zret (pc := 41) C rfl rfl rfl ⟨Nat.le_refl _, Nat.le_refl _⟩ dX7_isPlace_41
    · refine J.iconst (pc := 36) C dX7_isPlace_36 ki_1 ?_
      refine J.goto (pc := 37) C (tgt := 41) dX7_isPlace_37 rfl ?_
      exact J.zret (pc := 41) C rfl rfl rfl ⟨Nat.le_refl _, Nat.le_refl _⟩ dX7_isPlace_41
abbrev rm_X7_edges : Room := { frames := 3, cells := 0, slots := 0, locals := 69 }
def f_X7_edges (S : St) (a0 : Nat) (a1 : Int32) (a2 : Int32) : Option Int32 :=
  (chk (okc S 7 a0)
  (chk (okc S 3 (S.2.1 a0 0)) (bnd (f_X3_frameAt S (S.2.1 a0 0) a1) fun r1 =>
  (if r1 = 0 then
  (some (-10000001))
  else (chk (okc S 7 a0) (bnd (f_X7_isPlace S a0 a2 0) fun r2 =>
  (if r2 = 0 then
  (some (-10000001))
  else (chk (okc S 0 r1)
  (bnd (f_X7_holds (S.1 r1 1) a2) fun r3 =>
  (if r3 = 0 then
  (chk (okc S 7 a0)
  (chk (okc S 3 (S.2.1 a0 0)) (bnd (f_X3_edgesIn S (S.2.1 a0 0) r1 a2) fun r4 =>
  (some r4))))
  else (some (-10000004))))))))))))
set_option maxRecDepth 100000 in
set_option maxHeartbeats 4000000 in
theorem c_X7_edges (l : Launch) (g : GG) (S : St) (a0 : Nat) (a1 : Int32) (a2 : Int32) : Ct l yX7_edges cX7_edges 4 (some .int) rm_X7_edges g aI (pK S) [rv g a0, .int a1, .int a2] S (f_X7_edges S a0 a1 a2) := by
  refine Ct.mk (cf := cw (0, 0)) (by decide +kernel) (cat_r (cat_i (cat_i cat_n))) (Nat.le_of_ble_eq_true rfl) rfl ?_
  intro X hXl hin C
  show J X g _ _ 0 [(0, rv g a0), (1, .int a1), (2, .int a2)] [] S (f_X7_edges S a0 a1 a2)
  unfold f_X7_edges
  refine J.aload_n (pc := 0) C (x := a0) dX7_edges_0 rfl rfl ?_
  refine J.getR (pc := 1) C fl_RX7_12 rfl dX7_edges_1 ?_
  refine J.iload_n (pc := 4) C dX7_edges_4 rfl rfl ?_
  refine J.vR (pc := 5) C mv_X3_frameAt wm_RX7_149 (fun l => c_X3_frameAt l g S (S.2.1 a0 0) a1) ⟨⟨Nat.zero_le _, Nat.zero_le _⟩, rfl, rfl⟩ rfl ⟨Nat.le_of_ble_eq_true rfl, Nat.le_of_ble_eq_true rfl⟩ rfl cat_n (Nat.le_of_ble_eq_true rfl) dX7_edges_5 (fun r1 => ?_)
  refine J.astore_n (pc := 8) C (lv' := [(0, rv g a0), (1, .int a1), (2, .int a2), (3, rv g r1)]) dX7_edges_8 rfl (Nat.le_of_ble_eq_true rfl) rfl ?_
  refine J.aload_n (pc := 9) C (x := r1) dX7_edges_9 rfl rfl ?_
  refine J.ifnull (pc := 10) C (tgt := 22) dX7_edges_10 rfl ?_ ?_
  · refine J.ldc (pc := 22) C wc_RX7_60 dX7_edges_22 ?_
    exact J.iret (pc := 24) C rfl rfl ⟨Nat.le_refl _, Nat.le_refl _⟩ dX7_edges_24
  · refine J.aload_n (pc := 13) C (x := a0) dX7_edges_13 rfl rfl ?_
    refine J.iload_n (pc := 14) C dX7_edges_14 rfl rfl ?_
    refine J.iconst (pc := 15) C dX7_edges_15 ki_0 ?_
    refine J.vI (pc := 16) C mv_X7_isPlace wm_RX7_131 (fun l => c_X7_isPlace l g S a0 a2 0) ⟨⟨Nat.zero_le _, Nat.zero_le _⟩, rfl, rfl⟩ rfl ⟨Nat.le_of_ble_eq_true rfl, Nat.le_of_ble_eq_true rfl⟩ rfl cat_n (Nat.le_of_ble_eq_true rfl) dX7_edges_16 (fun r2 => ?_)
    refine J.if_ne (pc := 19) C (tgt := 25) dX7_edges_19 rfl ?_ ?_
    · refine J.aload_n (pc := 25) C (x := r1) dX7_edges_25 rfl rfl ?_
      refine J.getI (pc := 26) C fl_RX7_158 rfl dX7_edges_26 ?_
      refine J.iload_n (pc := 29) C dX7_edges_29 rfl rfl ?_
      refine J.sI (pc := 30) C ms_X7_holds wm_RX7_122 (fun l => c_X7_holds l g S (S.1 r1 1) a2) ⟨⟨Nat.zero_le _, Nat.zero_le _⟩, rfl, rfl⟩ rfl ⟨Nat.le_of_ble_eq_true rfl, Nat.le_of_ble_eq_true rfl⟩ rfl cat_n (Nat.le_of_ble_eq_true rfl) dX7_edges_30 (fun r3 => ?_)
      refine J.if_eq (pc := 33) C (tgt := 41) dX7_edges_33 rfl ?_ ?_
      · refine J.aload_n (pc := 41) C (x := a0) dX7_edges_41 rfl rfl ?_
        refine J.getR (pc := 42) C fl_RX7_12 rfl dX7_edges_42 ?_
        refine J.aload_n (pc := 45) C (x := r1) dX7_edges_45 rfl rfl ?_
        refine J.iload_n (pc := 46) C dX7_edges_46 rfl rfl ?_
        refine J.vI (pc := 47) C mv_X3_edgesIn wm_RX7_167 (fun l => c_X3_edgesIn l g S (S.2.1 a0 0) r1 a2) ⟨⟨Nat.zero_le _, Nat.zero_le _⟩, rfl, rfl⟩ rfl ⟨Nat.le_of_ble_eq_true rfl, Nat.le_of_ble_eq_true rfl⟩ rfl cat_n (Nat.le_of_ble_eq_true rfl) dX7_edges_47 (fun r4 => ?_)
        exact J.iret (pc := 50) C rfl rfl ⟨Nat.le_refl _, Nat.le_refl _⟩ dX7_edges_50
      · refine J.ldc (pc := 36) C wc_RX7_163 dX7_edges_36 ?_
        refine J.goto (pc := 38) C (tgt := 50) dX7_edges_38 rfl ?_
        exact J.iret (pc := 50) C rfl rfl ⟨Nat.le_refl _, Nat.le_refl _⟩ dX7_edges_50
    · refine J.ldc (pc := 22) C wc_RX7_60 dX7_edges_22 ?_
      exact J.iret (pc := 24) C rfl rfl ⟨Nat.le_refl _, Nat.le_refl _⟩ dX7_edges_24
abbrev rm_X2_numbersBehind : Room := { frames := 0, cells := 0, slots := 0, locals := 0 }
def f_X2_numbersBehind (a0 : Int32) : Option Int32 :=
  (if a0 = 116 then
  (some 6)
  else (if a0 = 115 then
  (some 0)
  else (if a0 = 103 then
  (some 1)
  else (if a0 = 98 then
  (some 1)
  else (if a0 = 117 then
  (some 1)
  else (some (-1)))))))
set_option maxRecDepth 100000 in
set_option maxHeartbeats 4000000 in
theorem c_X2_numbersBehind (l : Launch) (g : GG) (S : St) (a0 : Int32) : Ct l yX2_numbersBehind cX2_numbersBehind 1 (some .int) rm_X2_numbersBehind g aI (pK S) [.int a0] S (f_X2_numbersBehind a0) := by
  refine Ct.mk (cf := cw (0, 0)) (by decide +kernel) (cat_i cat_n) (Nat.le_of_ble_eq_true rfl) rfl ?_
  intro X hXl hin C
  show J X g _ _ 0 [(0, .int a0)] [] S (f_X2_numbersBehind a0)
  unfold f_X2_numbersBehind
  refine J.iload_n (pc := 0) C dX2_numbersBehind_0 rfl rfl ?_
  refine J.bipush (pc := 1) C dX2_numbersBehind_1 kb_116 ?_
  refine J.icmp_ne (pc := 3) C (tgt := 9) dX2_numbersBehind_3 rfl ?_ ?_
  · refine J.iload_n (pc := 9) C dX2_numbersBehind_9 rfl rfl ?_
    refine J.bipush (pc := 10) C dX2_numbersBehind_10 kb_115 ?_
    refine J.icmp_ne (pc := 12) C (tgt := 17) dX2_numbersBehind_12 rfl ?_ ?_
    · refine J.iload_n (pc := 17) C dX2_numbersBehind_17 rfl rfl ?_
      refine J.bipush (pc := 18) C dX2_numbersBehind_18 kb_103 ?_
      refine J.icmp_eq (pc := 20) C (tgt := 35) dX2_numbersBehind_20 rfl ?_ ?_
      · refine J.iconst (pc := 35) C dX2_numbersBehind_35 ki_1 ?_
        refine J.goto (pc := 36) C (tgt := 40) dX2_numbersBehind_36 rfl ?_
        exact J.iret (pc := 40) C rfl rfl ⟨Nat.le_refl _, Nat.le_refl _⟩ dX2_numbersBehind_40
      · refine J.iload_n (pc := 23) C dX2_numbersBehind_23 rfl rfl ?_
        refine J.bipush (pc := 24) C dX2_numbersBehind_24 kb_98 ?_
        refine J.icmp_eq (pc := 26) C (tgt := 35) dX2_numbersBehind_26 rfl ?_ ?_
        · refine J.iconst (pc := 35) C dX2_numbersBehind_35 ki_1 ?_
          refine J.goto (pc := 36) C (tgt := 40) dX2_numbersBehind_36 rfl ?_
          exact J.iret (pc := 40) C rfl rfl ⟨Nat.le_refl _, Nat.le_refl _⟩ dX2_numbersBehind_40
        · refine J.iload_n (pc := 29) C dX2_numbersBehind_29 rfl rfl ?_
          refine J.bipush (pc := 30) C dX2_numbersBehind_30 kb_117 ?_
          refine J.icmp_ne (pc := 32) C (tgt := 39) dX2_numbersBehind_32 rfl ?_ ?_
          · refine J.iconst (pc := 39) C dX2_numbersBehind_39 ki_m1 ?_
            exact J.iret (pc := 40) C rfl rfl ⟨Nat.le_refl _, Nat.le_refl _⟩ dX2_numbersBehind_40
          · refine J.iconst (pc := 35) C dX2_numbersBehind_35 ki_1 ?_
            refine J.goto (pc := 36) C (tgt := 40) dX2_numbersBehind_36 rfl ?_
            exact J.iret (pc := 40) C rfl rfl ⟨Nat.le_refl _, Nat.le_refl _⟩ dX2_numbersBehind_40
    · refine J.iconst (pc := 15) C dX2_numbersBehind_15 ki_0 ?_
      exact J.iret (pc := 16) C rfl rfl ⟨Nat.le_refl _, Nat.le_refl _⟩ dX2_numbersBehind_16
  · refine J.bipush (pc := 6) C dX2_numbersBehind_6 kb_6 ?_
    exact J.iret (pc := 8) C rfl rfl ⟨Nat.le_refl _, Nat.le_refl _⟩ dX2_numbersBehind_8
abbrev rm_X2_isDigit : Room := { frames := 0, cells := 0, slots := 0, locals := 0 }
def f_X2_isDigit (a0 : Int32) : Option Int32 :=
  (if a0 < 48 then
  (some 0)
  else (if (57 : Int32) < a0 then
  (some 0)
  else (some 1)))
set_option maxRecDepth 100000 in
set_option maxHeartbeats 4000000 in
theorem c_X2_isDigit (l : Launch) (g : GG) (S : St) (a0 : Int32) : Ct l yX2_isDigit cX2_isDigit 1 (some .boolean) rm_X2_isDigit g aI (pK S) [.int a0] S (f_X2_isDigit a0) := by
  refine Ct.mk (cf := cw (0, 0)) (by decide +kernel) (cat_i cat_n) (Nat.le_of_ble_eq_true rfl) rfl ?_
  intro X hXl hin C
  show J X g _ _ 0 [(0, .int a0)] [] S (f_X2_isDigit a0)
  unfold f_X2_isDigit
  refine J.iload_n (pc := 0) C dX2_isDigit_0 rfl rfl ?_
  refine J.bipush (pc := 1) C dX2_isDigit_1 kb_48 ?_
  refine J.icmp_lt (pc := 3) C (tgt := 16) dX2_isDigit_3 rfl ?_ ?_
  · refine J.iconst (pc := 16) C dX2_isDigit_16 ki_0 ?_
    exact J.zret (pc := 17) C rfl rfl rfl ⟨Nat.le_refl _, Nat.le_refl _⟩ dX2_isDigit_17
  · refine J.iload_n (pc := 6) C dX2_isDigit_6 rfl rfl ?_
    refine J.bipush (pc := 7) C dX2_isDigit_7 kb_57 ?_
    refine J.icmp_gt (pc := 9) C (tgt := 16) dX2_isDigit_9 rfl ?_ ?_
    · refine J.iconst (pc := 16) C dX2_isDigit_16 ki_0 ?_
      exact J.zret (pc := 17) C rfl rfl rfl ⟨Nat.le_refl _, Nat.le_refl _⟩ dX2_isDigit_17
    · refine J.iconst (pc := 12) C dX2_isDigit_12 ki_1 ?_
      refine J.goto (pc := 13) C (tgt := 17) dX2_isDigit_13 rfl ?_
      exact J.zret (pc := 17) C rfl rfl rfl ⟨Nat.le_refl _, Nat.le_refl _⟩ dX2_isDigit_17
abbrev rm_X4_signAt : Room := { frames := 0, cells := 0, slots := 0, locals := 0 }
def f_X4_signAt (S : St) (a0 : Nat) (a1 : Int32) : Option Int32 :=
  (if a1 < 0 then
  (chk (isC 0) (some 0))
  else (chk (okc S 4 a0)
  (if (S.1 a0 1) ≤ a1 then
  (chk (isC 0) (some 0))
  else (chk (okc S 4 a0)
  (chk (okc S 11 (S.2.1 a0 0))
  (if (Int32.ofNat (ln (S.2.1 a0 0))) ≤ a1 then
  (chk (isC 0) (some 0))
  else (chk (okc S 4 a0)
  (chk (ina S 11 (S.2.1 a0 0) a1)
  (chk (isC (S.1 (S.2.1 a0 0) a1.toNatClampNeg)) (some (S.1 (S.2.1 a0 0) a1.toNatClampNeg)))))))))))
set_option maxRecDepth 100000 in
set_option maxHeartbeats 4000000 in
theorem c_X4_signAt (l : Launch) (g : GG) (S : St) (a0 : Nat) (a1 : Int32) : Ct l yX4_signAt cX4_signAt 2 (some .char) rm_X4_signAt g aI (pK S) [rv g a0, .int a1] S (f_X4_signAt S a0 a1) := by
  refine Ct.mk (cf := cw (0, 0)) (by decide +kernel) (cat_r (cat_i cat_n)) (Nat.le_of_ble_eq_true rfl) rfl ?_
  intro X hXl hin C
  show J X g _ _ 0 [(0, rv g a0), (1, .int a1)] [] S (f_X4_signAt S a0 a1)
  unfold f_X4_signAt
  refine J.iload_n (pc := 0) C dX4_signAt_0 rfl rfl ?_
  refine J.if_lt (pc := 1) C (tgt := 30) dX4_signAt_1 rfl ?_ ?_
  · refine J.iconst (pc := 30) C dX4_signAt_30 ki_0 ?_
    refine J.ck (fun hz => ?_)
    exact J.zret (pc := 31) C (nar_c hz) rfl rfl ⟨Nat.le_refl _, Nat.le_refl _⟩ dX4_signAt_31
  · refine J.iload_n (pc := 4) C dX4_signAt_4 rfl rfl ?_
    refine J.aload_n (pc := 5) C (x := a0) dX4_signAt_5 rfl rfl ?_
    refine J.getI (pc := 6) C fl_RX4_22 rfl dX4_signAt_6 ?_
    refine J.icmp_ge (pc := 9) C (tgt := 30) dX4_signAt_9 rfl ?_ ?_
    · refine J.iconst (pc := 30) C dX4_signAt_30 ki_0 ?_
      refine J.ck (fun hz => ?_)
      exact J.zret (pc := 31) C (nar_c hz) rfl rfl ⟨Nat.le_refl _, Nat.le_refl _⟩ dX4_signAt_31
    · refine J.iload_n (pc := 12) C dX4_signAt_12 rfl rfl ?_
      refine J.aload_n (pc := 13) C (x := a0) dX4_signAt_13 rfl rfl ?_
      refine J.getR (pc := 14) C fl_RX4_9 rfl dX4_signAt_14 ?_
      refine J.alen (pc := 17) C 11 (by decide) dX4_signAt_17 ?_
      refine J.icmp_ge (pc := 18) C (tgt := 30) dX4_signAt_18 rfl ?_ ?_
      · refine J.iconst (pc := 30) C dX4_signAt_30 ki_0 ?_
        refine J.ck (fun hz => ?_)
        exact J.zret (pc := 31) C (nar_c hz) rfl rfl ⟨Nat.le_refl _, Nat.le_refl _⟩ dX4_signAt_31
      · refine J.aload_n (pc := 21) C (x := a0) dX4_signAt_21 rfl rfl ?_
        refine J.getR (pc := 22) C fl_RX4_9 rfl dX4_signAt_22 ?_
        refine J.iload_n (pc := 25) C dX4_signAt_25 rfl rfl ?_
        refine J.cald (pc := 26) C dX4_signAt_26 ?_
        refine J.goto (pc := 27) C (tgt := 31) dX4_signAt_27 rfl ?_
        refine J.ck (fun hz => ?_)
        exact J.zret (pc := 31) C (nar_c hz) rfl rfl ⟨Nat.le_refl _, Nat.le_refl _⟩ dX4_signAt_31
abbrev rm_X2_readNumber : Room := { frames := 1, cells := 0, slots := 0, locals := 21 }
def f_X2_readNumber_B39 (a0 : Nat) (a1 : Nat) (a2 : Int32) (a3 : Int32) (kx39 : St → Int32 → Int32 → Option St) (k39 : St → Int32 → Int32 → Option St) (S : St) (x4 : Int32) (x5 : Int32) : Option St :=
  (if (5 : Int32) ≤ x5 then
  (kx39 S x4 x5)
  else (chk (okc S 2 a0)
  (chk (okc S 4 a1) (bnd (f_X4_signAt S a1 (S.1 a0 2)) fun r2 =>
  (bnd (f_X2_isDigit r2) fun r3 =>
  (if r3 = 0 then
  (kx39 S x4 x5)
  else (chk (okc S 2 a0)
  (chk (okc S 4 a1) (bnd (f_X4_signAt S a1 (S.1 a0 2)) fun r4 =>
  (chk (okc S 2 a0)
  (chk (okc S 2 a0) (vlt (upI S a0 2 ((S.1 a0 2) + 1)) fun S_5 =>
  (k39 S_5 ((x4 * 10) + (r4 - 48)) (x5 + 1))))))))))))))
set_option maxRecDepth 100000 in
set_option maxHeartbeats 4000000 in
theorem w_X2_readNumber_B39 {X : CT} {g : GG} (C : CX X g cX2_readNumber RX2 none 6 rm_X2_readNumber) (a0 : Nat) (a1 : Nat) (a2 : Int32) (a3 : Int32) (kx39 : St → Int32 → Int32 → Option St) (hkx39 : ∀ (S : St) (x4 : Int32) (x5 : Int32), J X g (Qm X g aU pU) (cw (0, 0)) 94 [(0, rv g a0), (2, .int a2), (3, .int a3), (4, .int x4), (5, .int x5)] [] S (kx39 S x4 x5)) : ∀ (n : Nat) (S : St) (x4 : Int32) (x5 : Int32), J X g (Qm X g aU pU) (cw (0, 0)) 39 [(0, rv g a0), (1, rv g a1), (2, .int a2), (3, .int a3), (4, .int x4), (5, .int x5)] [] S (wl3 (f_X2_readNumber_B39 a0 a1 a2 a3 kx39) n S x4 x5) := by
  refine J.loop3 (lvf := fun (S : St) (x4 : Int32) (x5 : Int32) => [(0, rv g a0), (1, rv g a1), (2, .int a2), (3, .int a3), (4, .int x4), (5, .int x5)]) (Sf := fun (S : St) (x4 : Int32) (x5 : Int32) => S) ?_
  intro k39 hk39 S x4 x5
  show J X g _ _ 39 [(0, rv g a0), (1, rv g a1), (2, .int a2), (3, .int a3), (4, .int x4), (5, .int x5)] [] S (f_X2_readNumber_B39 a0 a1 a2 a3 kx39 k39 S x4 x5)
  unfold f_X2_readNumber_B39
  refine J.iload (pc := 39) C dX2_readNumber_39 rfl ?_
  refine J.iconst (pc := 41) C dX2_readNumber_41 ki_5 ?_
  refine J.icmp_ge (pc := 42) C (tgt := 94) dX2_readNumber_42 rfl ?_ ?_
  · exact J.pick [0, 2, 3, 4, 5] rfl (hkx39 _ _ _)
  · refine J.aload_n (pc := 45) C (x := a1) dX2_readNumber_45 rfl rfl ?_
    refine J.aload_n (pc := 46) C (x := a0) dX2_readNumber_46 rfl rfl ?_
    refine J.getI (pc := 47) C fl_RX2_33 rfl dX2_readNumber_47 ?_
    refine J.vI (pc := 50) C mv_X4_signAt wm_RX2_15 (fun l => c_X4_signAt l g S a1 (S.1 a0 2)) ⟨⟨Nat.zero_le _, Nat.zero_le _⟩, rfl, rfl⟩ rfl ⟨Nat.le_of_ble_eq_true rfl, Nat.le_of_ble_eq_true rfl⟩ rfl cat_n (Nat.le_of_ble_eq_true rfl) dX2_readNumber_50 (fun r2 => ?_)
    refine J.sI (pc := 53) C ms_X2_isDigit wm_RX2_45 (fun l => c_X2_isDigit l g S r2) ⟨⟨Nat.zero_le _, Nat.zero_le _⟩, rfl, rfl⟩ rfl ⟨Nat.le_of_ble_eq_true rfl, Nat.le_of_ble_eq_true rfl⟩ rfl cat_n (Nat.le_of_ble_eq_true rfl) dX2_readNumber_53 (fun r3 => ?_)
    refine J.if_eq (pc := 56) C (tgt := 94) dX2_readNumber_56 rfl ?_ ?_
    · exact J.pick [0, 2, 3, 4, 5] rfl (hkx39 _ _ _)
    · refine J.iload (pc := 59) C dX2_readNumber_59 rfl ?_
      refine J.bipush (pc := 61) C dX2_readNumber_61 kb_10 ?_
      refine J.imul (pc := 63) C dX2_readNumber_63 ?_
      refine J.aload_n (pc := 64) C (x := a1) dX2_readNumber_64 rfl rfl ?_
      refine J.aload_n (pc := 65) C (x := a0) dX2_readNumber_65 rfl rfl ?_
      refine J.getI (pc := 66) C fl_RX2_33 rfl dX2_readNumber_66 ?_
      refine J.vI (pc := 69) C mv_X4_signAt wm_RX2_15 (fun l => c_X4_signAt l g S a1 (S.1 a0 2)) ⟨⟨Nat.zero_le _, Nat.zero_le _⟩, rfl, rfl⟩ rfl ⟨Nat.le_of_ble_eq_true rfl, Nat.le_of_ble_eq_true rfl⟩ rfl (cat_i cat_n) (Nat.le_of_ble_eq_true rfl) dX2_readNumber_69 (fun r4 => ?_)
      refine J.bipush (pc := 72) C dX2_readNumber_72 kb_48 ?_
      refine J.isub (pc := 74) C dX2_readNumber_74 ?_
      refine J.iadd (pc := 75) C dX2_readNumber_75 ?_
      refine J.istore (pc := 76) C (lv' := [(0, rv g a0), (1, rv g a1), (2, .int a2), (3, .int a3), (4, .int ((x4 * 10) + (r4 - 48))), (5, .int x5)]) dX2_readNumber_76 (Nat.le_of_ble_eq_true rfl) rfl ?_
      refine J.iinc (pc := 78) C (lv' := [(0, rv g a0), (1, rv g a1), (2, .int a2), (3, .int a3), (4, .int ((x4 * 10) + (r4 - 48))), (5, .int (x5 + 1))]) dX2_readNumber_78 rfl (Nat.le_of_ble_eq_true rfl) ki_1 rfl ?_
      refine J.aload_n (pc := 81) C (x := a0) dX2_readNumber_81 rfl rfl ?_
      refine J.dup (pc := 82) C dX2_readNumber_82 (rv_cat g _) ?_
      refine J.getI (pc := 83) C fl_RX2_33 rfl dX2_readNumber_83 ?_
      refine J.iconst (pc := 86) C dX2_readNumber_86 ki_1 ?_
      refine J.iadd (pc := 87) C dX2_readNumber_87 ?_
      refine J.putIs (pc := 88) C fl_RX2_33 rfl (fun r h => by cases h; rfl) rfl rfl dX2_readNumber_88 (fun S_5 => ?_)
      refine J.goto (pc := 91) C (tgt := 39) dX2_readNumber_91 rfl ?_
      exact (hk39 _ _ _)
def f_X2_readNumber_J105 (S : St) (x0 : Nat) (x2 : Int32) (x3 : Int32) (x4 : Int32) (t0 : Int32) (t1 : Nat) : Option St :=
  (chk (t0 = 0 ∨ t0 = 1)
  (chk (okc S 2 t1) (vlt (upI S t1 3 t0) fun S_9 =>
  (if x2 < 0 then
  (some S_9)
  else (chk (okc S_9 2 x0)
  (chk (okc S_9 10 (S_9.2.1 x0 1))
  (if (Int32.ofNat (ln (S_9.2.1 x0 1))) ≤ x2 then
  (some S_9)
  else (chk (okc S_9 2 x0)
  (if x3 = 0 then
  (chk (inw S_9 10 (S_9.2.1 x0 1) x2) (vlt (upI S_9 (S_9.2.1 x0 1) x2.toNatClampNeg x4) fun S_10 =>
  (some S_10)))
  else (chk (inw S_9 10 (S_9.2.1 x0 1) x2) (vlt (upI S_9 (S_9.2.1 x0 1) x2.toNatClampNeg (-x4)) fun S_11 =>
  (some S_11))))))))))))
set_option maxRecDepth 100000 in
set_option maxHeartbeats 4000000 in
theorem w_X2_readNumber_J105 {X : CT} {g : GG} (C : CX X g cX2_readNumber RX2 none 6 rm_X2_readNumber) (S : St) (x0 : Nat) (x2 : Int32) (x3 : Int32) (x4 : Int32) (t0 : Int32) (t1 : Nat) : J X g (Qm X g aU pU) (cw (0, 0)) 105 [(0, rv g x0), (2, .int x2), (3, .int x3), (4, .int x4)] [.int t0, rv g t1] S (f_X2_readNumber_J105 S x0 x2 x3 x4 t0 t1) := by
  unfold f_X2_readNumber_J105
  refine J.ck (fun hz => ?_)
  refine J.putIs (pc := 105) C fl_RX2_29 rfl (fun r h => by cases h; rfl) (nar_z hz) (fit_z hz) dX2_readNumber_105 (fun S_9 => ?_)
  refine J.iload_n (pc := 108) C dX2_readNumber_108 rfl rfl ?_
  refine J.if_lt (pc := 109) C (tgt := 139) dX2_readNumber_109 rfl ?_ ?_
  · exact J.vret (pc := 139) C rfl rfl ⟨Nat.le_refl _, Nat.le_refl _⟩ dX2_readNumber_139
  · refine J.iload_n (pc := 112) C dX2_readNumber_112 rfl rfl ?_
    refine J.aload_n (pc := 113) C (x := x0) dX2_readNumber_113 rfl rfl ?_
    refine J.getR (pc := 114) C fl_RX2_9 rfl dX2_readNumber_114 ?_
    refine J.alen (pc := 117) C 10 (by decide) dX2_readNumber_117 ?_
    refine J.icmp_ge (pc := 118) C (tgt := 139) dX2_readNumber_118 rfl ?_ ?_
    · exact J.vret (pc := 139) C rfl rfl ⟨Nat.le_refl _, Nat.le_refl _⟩ dX2_readNumber_139
    · refine J.aload_n (pc := 121) C (x := x0) dX2_readNumber_121 rfl rfl ?_
      refine J.getR (pc := 122) C fl_RX2_9 rfl dX2_readNumber_122 ?_
      refine J.iload_n (pc := 125) C dX2_readNumber_125 rfl rfl ?_
      refine J.iload_n (pc := 126) C dX2_readNumber_126 rfl rfl ?_
      refine J.if_eq (pc := 127) C (tgt := 136) dX2_readNumber_127 rfl ?_ ?_
      · refine J.iload (pc := 136) C dX2_readNumber_136 rfl ?_
        refine J.iasts (pc := 138) C dX2_readNumber_138 (fun S_10 => ?_)
        exact J.vret (pc := 139) C rfl rfl ⟨Nat.le_refl _, Nat.le_refl _⟩ dX2_readNumber_139
      · refine J.iload (pc := 130) C dX2_readNumber_130 rfl ?_
        refine J.ineg (pc := 132) C dX2_readNumber_132 ?_
        refine J.goto (pc := 133) C (tgt := 138) dX2_readNumber_133 rfl ?_
        refine J.iasts (pc := 138) C dX2_readNumber_138 (fun S_11 => ?_)
        exact J.vret (pc := 139) C rfl rfl ⟨Nat.le_refl _, Nat.le_refl _⟩ dX2_readNumber_139
def f_X2_readNumber_J94 (S : St) (x0 : Nat) (x2 : Int32) (x3 : Int32) (x4 : Int32) (x5 : Int32) : Option St :=
  (if x5 = 0 then
  (f_X2_readNumber_J105 S x0 x2 x3 x4 1 x0)
  else (f_X2_readNumber_J105 S x0 x2 x3 x4 0 x0))
set_option maxRecDepth 100000 in
set_option maxHeartbeats 4000000 in
theorem w_X2_readNumber_J94 {X : CT} {g : GG} (C : CX X g cX2_readNumber RX2 none 6 rm_X2_readNumber) (S : St) (x0 : Nat) (x2 : Int32) (x3 : Int32) (x4 : Int32) (x5 : Int32) : J X g (Qm X g aU pU) (cw (0, 0)) 94 [(0, rv g x0), (2, .int x2), (3, .int x3), (4, .int x4), (5, .int x5)] [] S (f_X2_readNumber_J94 S x0 x2 x3 x4 x5) := by
  unfold f_X2_readNumber_J94
  refine J.aload_n (pc := 94) C (x := x0) dX2_readNumber_94 rfl rfl ?_
  refine J.iload (pc := 95) C dX2_readNumber_95 rfl ?_
  refine J.if_ne (pc := 97) C (tgt := 104) dX2_readNumber_97 rfl ?_ ?_
  · refine J.iconst (pc := 104) C dX2_readNumber_104 ki_0 ?_
    exact J.pick [0, 1, 2, 3] rfl (w_X2_readNumber_J105 C _ _ _ _ _ _ _)
  · refine J.iconst (pc := 100) C dX2_readNumber_100 ki_1 ?_
    refine J.goto (pc := 101) C (tgt := 105) dX2_readNumber_101 rfl ?_
    exact J.pick [0, 1, 2, 3] rfl (w_X2_readNumber_J105 C _ _ _ _ _ _ _)
def f_X2_readNumber_J33 (S : St) (x0 : Nat) (x1 : Nat) (x2 : Int32) (x3 : Int32) : Option St :=
  (wl3 (f_X2_readNumber_B39 x0 x1 x2 x3 (fun (S_8 : St) (y4_6 : Int32) (y5_7 : Int32) => (f_X2_readNumber_J94 S_8 x0 x2 x3 y4_6 y5_7))) FU S 0 0)
set_option maxRecDepth 100000 in
set_option maxHeartbeats 4000000 in
theorem w_X2_readNumber_J33 {X : CT} {g : GG} (C : CX X g cX2_readNumber RX2 none 6 rm_X2_readNumber) (S : St) (x0 : Nat) (x1 : Nat) (x2 : Int32) (x3 : Int32) : J X g (Qm X g aU pU) (cw (0, 0)) 33 [(0, rv g x0), (1, rv g x1), (2, .int x2), (3, .int x3)] [] S (f_X2_readNumber_J33 S x0 x1 x2 x3) := by
  unfold f_X2_readNumber_J33
  refine J.iconst (pc := 33) C dX2_readNumber_33 ki_0 ?_
  refine J.istore (pc := 34) C (lv' := [(0, rv g x0), (1, rv g x1), (2, .int x2), (3, .int x3), (4, .int 0)]) dX2_readNumber_34 (Nat.le_of_ble_eq_true rfl) rfl ?_
  refine J.iconst (pc := 36) C dX2_readNumber_36 ki_0 ?_
  refine J.istore (pc := 37) C (lv' := [(0, rv g x0), (1, rv g x1), (2, .int x2), (3, .int x3), (4, .int 0), (5, .int 0)]) dX2_readNumber_37 (Nat.le_of_ble_eq_true rfl) rfl ?_
  refine w_X2_readNumber_B39 C _ _ _ _ _ (fun S_8 y4_6 y5_7 => ?_) FU _ _ _
  exact (w_X2_readNumber_J94 C _ _ _ _ _ _)
def f_X2_readNumber_J18 (S : St) (x0 : Nat) (x1 : Nat) (x2 : Int32) (t0 : Int32) : Option St :=
  (if t0 = 0 then
  (f_X2_readNumber_J33 S x0 x1 x2 t0)
  else (chk (okc S 2 x0)
  (chk (okc S 2 x0) (vlt (upI S x0 2 ((S.1 x0 2) + 1)) fun S_12 =>
  (f_X2_readNumber_J33 S_12 x0 x1 x2 t0)))))
set_option maxRecDepth 100000 in
set_option maxHeartbeats 4000000 in
theorem w_X2_readNumber_J18 {X : CT} {g : GG} (C : CX X g cX2_readNumber RX2 none 6 rm_X2_readNumber) (S : St) (x0 : Nat) (x1 : Nat) (x2 : Int32) (t0 : Int32) : J X g (Qm X g aU pU) (cw (0, 0)) 18 [(0, rv g x0), (1, rv g x1), (2, .int x2)] [.int t0] S (f_X2_readNumber_J18 S x0 x1 x2 t0) := by
  unfold f_X2_readNumber_J18
  refine J.istore_n (pc := 18) C (lv' := [(0, rv g x0), (1, rv g x1), (2, .int x2), (3, .int t0)]) dX2_readNumber_18 rfl (Nat.le_of_ble_eq_true rfl) rfl ?_
  refine J.iload_n (pc := 19) C dX2_readNumber_19 rfl rfl ?_
  refine J.if_eq (pc := 20) C (tgt := 33) dX2_readNumber_20 rfl ?_ ?_
  · exact (w_X2_readNumber_J33 C _ _ _ _ _)
  · refine J.aload_n (pc := 23) C (x := x0) dX2_readNumber_23 rfl rfl ?_
    refine J.dup (pc := 24) C dX2_readNumber_24 (rv_cat g _) ?_
    refine J.getI (pc := 25) C fl_RX2_33 rfl dX2_readNumber_25 ?_
    refine J.iconst (pc := 28) C dX2_readNumber_28 ki_1 ?_
    refine J.iadd (pc := 29) C dX2_readNumber_29 ?_
    refine J.putIs (pc := 30) C fl_RX2_33 rfl (fun r h => by cases h; rfl) rfl rfl dX2_readNumber_30 (fun S_12 => ?_)
    exact (w_X2_readNumber_J33 C _ _ _ _ _)
def f_X2_readNumber (S : St) (a0 : Nat) (a1 : Nat) (a2 : Int32) : Option St :=
  (chk (okc S 2 a0)
  (chk (okc S 4 a1) (bnd (f_X4_signAt S a1 (S.1 a0 2)) fun r1 =>
  (if r1 = 45 then
  (f_X2_readNumber_J18 S a0 a1 a2 1)
  else (f_X2_readNumber_J18 S a0 a1 a2 0)))))
set_option maxRecDepth 100000 in
set_option maxHeartbeats 4000000 in
theorem c_X2_readNumber (l : Launch) (g : GG) (S : St) (a0 : Nat) (a1 : Nat) (a2 : Int32) : Ct l yX2_readNumber cX2_readNumber 6 none rm_X2_readNumber g aU pU [rv g a0, rv g a1, .int a2] S (f_X2_readNumber S a0 a1 a2) := by
  refine Ct.mk (cf := cw (0, 0)) (by decide +kernel) (cat_r (cat_r (cat_i cat_n))) (Nat.le_of_ble_eq_true rfl) rfl ?_
  intro X hXl hin C
  show J X g _ _ 0 [(0, rv g a0), (1, rv g a1), (2, .int a2)] [] S (f_X2_readNumber S a0 a1 a2)
  unfold f_X2_readNumber
  refine J.aload_n (pc := 0) C (x := a1) dX2_readNumber_0 rfl rfl ?_
  refine J.aload_n (pc := 1) C (x := a0) dX2_readNumber_1 rfl rfl ?_
  refine J.getI (pc := 2) C fl_RX2_33 rfl dX2_readNumber_2 ?_
  refine J.vI (pc := 5) C mv_X4_signAt wm_RX2_15 (fun l => c_X4_signAt l g S a1 (S.1 a0 2)) ⟨⟨Nat.zero_le _, Nat.zero_le _⟩, rfl, rfl⟩ rfl ⟨Nat.le_of_ble_eq_true rfl, Nat.le_of_ble_eq_true rfl⟩ rfl cat_n (Nat.le_of_ble_eq_true rfl) dX2_readNumber_5 (fun r1 => ?_)
  refine J.bipush (pc := 8) C dX2_readNumber_8 kb_45 ?_
  refine J.icmp_ne (pc := 10) C (tgt := 17) dX2_readNumber_10 rfl ?_ ?_
  · refine J.iconst (pc := 17) C dX2_readNumber_17 ki_0 ?_
    exact (w_X2_readNumber_J18 C _ _ _ _ _)
  · refine J.iconst (pc := 13) C dX2_readNumber_13 ki_1 ?_
    refine J.goto (pc := 14) C (tgt := 18) dX2_readNumber_14 rfl ?_
    exact (w_X2_readNumber_J18 C _ _ _ _ _)
abbrev rm_X2_readSign : Room := { frames := 1, cells := 0, slots := 0, locals := 21 }
def f_X2_readSign (S : St) (a0 : Nat) (a1 : Nat) (a2 : Int32) : Option St :=
  (chk (okc S 2 a0)
  (chk (okc S 4 a1) (bnd (f_X4_signAt S a1 (S.1 a0 2)) fun r1 =>
  (if r1 = a2 then
  (chk (okc S 2 a0)
  (chk (okc S 2 a0) (vlt (upI S a0 2 ((S.1 a0 2) + 1)) fun S_3 =>
  (some S_3))))
  else (chk (okc S 2 a0) (vlt (upI S a0 3 1) fun S_2 =>
  (some S_2)))))))
set_option maxRecDepth 100000 in
set_option maxHeartbeats 4000000 in
theorem c_X2_readSign (l : Launch) (g : GG) (S : St) (a0 : Nat) (a1 : Nat) (a2 : Int32) : Ct l yX2_readSign cX2_readSign 3 none rm_X2_readSign g aU pU [rv g a0, rv g a1, .int a2] S (f_X2_readSign S a0 a1 a2) := by
  refine Ct.mk (cf := cw (0, 0)) (by decide +kernel) (cat_r (cat_r (cat_i cat_n))) (Nat.le_of_ble_eq_true rfl) rfl ?_
  intro X hXl hin C
  show J X g _ _ 0 [(0, rv g a0), (1, rv g a1), (2, .int a2)] [] S (f_X2_readSign S a0 a1 a2)
  unfold f_X2_readSign
  refine J.aload_n (pc := 0) C (x := a1) dX2_readSign_0 rfl rfl ?_
  refine J.aload_n (pc := 1) C (x := a0) dX2_readSign_1 rfl rfl ?_
  refine J.getI (pc := 2) C fl_RX2_33 rfl dX2_readSign_2 ?_
  refine J.vI (pc := 5) C mv_X4_signAt wm_RX2_15 (fun l => c_X4_signAt l g S a1 (S.1 a0 2)) ⟨⟨Nat.zero_le _, Nat.zero_le _⟩, rfl, rfl⟩ rfl ⟨Nat.le_of_ble_eq_true rfl, Nat.le_of_ble_eq_true rfl⟩ rfl cat_n (Nat.le_of_ble_eq_true rfl) dX2_readSign_5 (fun r1 => ?_)
  refine J.iload_n (pc := 8) C dX2_readSign_8 rfl rfl ?_
  refine J.icmp_ne (pc := 9) C (tgt := 25) dX2_readSign_9 rfl ?_ ?_
  · refine J.aload_n (pc := 25) C (x := a0) dX2_readSign_25 rfl rfl ?_
    refine J.iconst (pc := 26) C dX2_readSign_26 ki_1 ?_
    refine J.putIs (pc := 27) C fl_RX2_29 rfl (fun r h => by cases h; rfl) rfl rfl dX2_readSign_27 (fun S_2 => ?_)
    exact J.vret (pc := 30) C rfl rfl ⟨Nat.le_refl _, Nat.le_refl _⟩ dX2_readSign_30
  · refine J.aload_n (pc := 12) C (x := a0) dX2_readSign_12 rfl rfl ?_
    refine J.dup (pc := 13) C dX2_readSign_13 (rv_cat g _) ?_
    refine J.getI (pc := 14) C fl_RX2_33 rfl dX2_readSign_14 ?_
    refine J.iconst (pc := 17) C dX2_readSign_17 ki_1 ?_
    refine J.iadd (pc := 18) C dX2_readSign_18 ?_
    refine J.putIs (pc := 19) C fl_RX2_33 rfl (fun r h => by cases h; rfl) rfl rfl dX2_readSign_19 (fun S_3 => ?_)
    refine J.goto (pc := 22) C (tgt := 30) dX2_readSign_22 rfl ?_
    exact J.vret (pc := 30) C rfl rfl ⟨Nat.le_refl _, Nat.le_refl _⟩ dX2_readSign_30
abbrev rm_X2_read : Room := { frames := 2, cells := 0, slots := 0, locals := 46 }
def f_X2_read_J76 (S : St) (a0 : Nat) (a1 : Nat) (a3 : Int32) (kx51 : St → Option St) (k51 : St → Int32 → Option St) (x4 : Int32) : Option St :=
  (chk (okc S 2 a0)
  (if (S.1 a0 3) = 0 then
  (chk (okc S 2 a0) (bnd (f_X2_readNumber S a0 a1 x4) fun S_6 =>
  (k51 S_6 (x4 + 1))))
  else (k51 S (x4 + 1))))
set_option maxRecDepth 100000 in
set_option maxHeartbeats 4000000 in
theorem w_X2_read_J76 {X : CT} {g : GG} (C : CX X g cX2_read RX2 none 5 rm_X2_read) (S : St) (a0 : Nat) (a1 : Nat) (a3 : Int32) (kx51 : St → Option St) (k51 : St → Int32 → Option St) (x4 : Int32) (hkx51 : ∀ (S : St), J X g (Qm X g aU pU) (cw (0, 0)) 96 [(0, rv g a0), (1, rv g a1)] [] S (kx51 S)) (hk51 : ∀ (S : St) (x4 : Int32), J X g (Qm X g aU pU) (cw (0, 0)) 51 [(0, rv g a0), (1, rv g a1), (3, .int a3), (4, .int x4)] [] S (k51 S x4)) : J X g (Qm X g aU pU) (cw (0, 0)) 76 [(0, rv g a0), (1, rv g a1), (3, .int a3), (4, .int x4)] [] S (f_X2_read_J76 S a0 a1 a3 kx51 k51 x4) := by
  unfold f_X2_read_J76
  refine J.aload_n (pc := 76) C (x := a0) dX2_read_76 rfl rfl ?_
  refine J.getI (pc := 77) C fl_RX2_29 rfl dX2_read_77 ?_
  refine J.if_ne (pc := 80) C (tgt := 90) dX2_read_80 rfl ?_ ?_
  · refine J.iinc (pc := 90) C (lv' := [(0, rv g a0), (1, rv g a1), (3, .int a3), (4, .int (x4 + 1))]) dX2_read_90 rfl (Nat.le_of_ble_eq_true rfl) ki_1 rfl ?_
    refine J.goto (pc := 93) C (tgt := 51) dX2_read_93 rfl ?_
    exact (hk51 _ _)
  · refine J.aload_n (pc := 83) C (x := a0) dX2_read_83 rfl rfl ?_
    refine J.aload_n (pc := 84) C (x := a1) dX2_read_84 rfl rfl ?_
    refine J.iload (pc := 85) C dX2_read_85 rfl ?_
    refine J.vU (pc := 87) C mv_X2_readNumber wm_RX2_41 (fun l => c_X2_readNumber l g S a0 a1 x4) ⟨⟨Nat.zero_le _, Nat.zero_le _⟩, rfl, rfl⟩ rfl ⟨Nat.le_of_ble_eq_true rfl, Nat.le_of_ble_eq_true rfl⟩ rfl cat_n (Nat.le_of_ble_eq_true rfl) dX2_read_87 (fun S_6 => ?_)
    refine J.iinc (pc := 90) C (lv' := [(0, rv g a0), (1, rv g a1), (3, .int a3), (4, .int (x4 + 1))]) dX2_read_90 rfl (Nat.le_of_ble_eq_true rfl) ki_1 rfl ?_
    refine J.goto (pc := 93) C (tgt := 51) dX2_read_93 rfl ?_
    exact (hk51 _ _)
def f_X2_read_B51 (a0 : Nat) (a1 : Nat) (a3 : Int32) (kx51 : St → Option St) (k51 : St → Int32 → Option St) (S : St) (x4 : Int32) : Option St :=
  (if a3 ≤ x4 then
  (kx51 S)
  else (chk (okc S 2 a0)
  (if (S.1 a0 3) = 0 then
  (if x4 ≤ 0 then
  (f_X2_read_J76 S a0 a1 a3 kx51 k51 x4)
  else (chk (okc S 2 a0) (bnd (f_X2_readSign S a0 a1 44) fun S_7 =>
  (f_X2_read_J76 S_7 a0 a1 a3 kx51 k51 x4))))
  else (kx51 S))))
set_option maxRecDepth 100000 in
set_option maxHeartbeats 4000000 in
theorem w_X2_read_B51 {X : CT} {g : GG} (C : CX X g cX2_read RX2 none 5 rm_X2_read) (a0 : Nat) (a1 : Nat) (a3 : Int32) (kx51 : St → Option St) (hkx51 : ∀ (S : St), J X g (Qm X g aU pU) (cw (0, 0)) 96 [(0, rv g a0), (1, rv g a1)] [] S (kx51 S)) : ∀ (n : Nat) (S : St) (x4 : Int32), J X g (Qm X g aU pU) (cw (0, 0)) 51 [(0, rv g a0), (1, rv g a1), (3, .int a3), (4, .int x4)] [] S (wl2 (f_X2_read_B51 a0 a1 a3 kx51) n S x4) := by
  refine J.loop2 (lvf := fun (S : St) (x4 : Int32) => [(0, rv g a0), (1, rv g a1), (3, .int a3), (4, .int x4)]) (Sf := fun (S : St) (x4 : Int32) => S) ?_
  intro k51 hk51 S x4
  show J X g _ _ 51 [(0, rv g a0), (1, rv g a1), (3, .int a3), (4, .int x4)] [] S (f_X2_read_B51 a0 a1 a3 kx51 k51 S x4)
  unfold f_X2_read_B51
  refine J.iload (pc := 51) C dX2_read_51 rfl ?_
  refine J.iload_n (pc := 53) C dX2_read_53 rfl rfl ?_
  refine J.icmp_ge (pc := 54) C (tgt := 96) dX2_read_54 rfl ?_ ?_
  · exact J.pick [0, 1] rfl (hkx51 _)
  · refine J.aload_n (pc := 57) C (x := a0) dX2_read_57 rfl rfl ?_
    refine J.getI (pc := 58) C fl_RX2_29 rfl dX2_read_58 ?_
    refine J.if_ne (pc := 61) C (tgt := 96) dX2_read_61 rfl ?_ ?_
    · exact J.pick [0, 1] rfl (hkx51 _)
    · refine J.iload (pc := 64) C dX2_read_64 rfl ?_
      refine J.if_le (pc := 66) C (tgt := 76) dX2_read_66 rfl ?_ ?_
      · exact (w_X2_read_J76 C _ _ _ _ _ _ _ hkx51 hk51)
      · refine J.aload_n (pc := 69) C (x := a0) dX2_read_69 rfl rfl ?_
        refine J.aload_n (pc := 70) C (x := a1) dX2_read_70 rfl rfl ?_
        refine J.bipush (pc := 71) C dX2_read_71 kb_44 ?_
        refine J.vU (pc := 73) C mv_X2_readSign wm_RX2_37 (fun l => c_X2_readSign l g S a0 a1 44) ⟨⟨Nat.zero_le _, Nat.zero_le _⟩, rfl, rfl⟩ rfl ⟨Nat.le_of_ble_eq_true rfl, Nat.le_of_ble_eq_true rfl⟩ rfl cat_n (Nat.le_of_ble_eq_true rfl) dX2_read_73 (fun S_7 => ?_)
        exact (w_X2_read_J76 C _ _ _ _ _ _ _ hkx51 hk51)
def f_X2_read_J96 (S : St) (x0 : Nat) (x1 : Nat) : Option St :=
  (chk (okc S 2 x0)
  (if (S.1 x0 3) = 0 then
  (chk (okc S 2 x0) (bnd (f_X2_readSign S x0 x1 59) fun S_9 =>
  (some S_9)))
  else (some S)))
set_option maxRecDepth 100000 in
set_option maxHeartbeats 4000000 in
theorem w_X2_read_J96 {X : CT} {g : GG} (C : CX X g cX2_read RX2 none 5 rm_X2_read) (S : St) (x0 : Nat) (x1 : Nat) : J X g (Qm X g aU pU) (cw (0, 0)) 96 [(0, rv g x0), (1, rv g x1)] [] S (f_X2_read_J96 S x0 x1) := by
  unfold f_X2_read_J96
  refine J.aload_n (pc := 96) C (x := x0) dX2_read_96 rfl rfl ?_
  refine J.getI (pc := 97) C fl_RX2_29 rfl dX2_read_97 ?_
  refine J.if_ne (pc := 100) C (tgt := 110) dX2_read_100 rfl ?_ ?_
  · exact J.vret (pc := 110) C rfl rfl ⟨Nat.le_refl _, Nat.le_refl _⟩ dX2_read_110
  · refine J.aload_n (pc := 103) C (x := x0) dX2_read_103 rfl rfl ?_
    refine J.aload_n (pc := 104) C (x := x1) dX2_read_104 rfl rfl ?_
    refine J.bipush (pc := 105) C dX2_read_105 kb_59 ?_
    refine J.vU (pc := 107) C mv_X2_readSign wm_RX2_37 (fun l => c_X2_readSign l g S x0 x1 59) ⟨⟨Nat.zero_le _, Nat.zero_le _⟩, rfl, rfl⟩ rfl ⟨Nat.le_of_ble_eq_true rfl, Nat.le_of_ble_eq_true rfl⟩ rfl cat_n (Nat.le_of_ble_eq_true rfl) dX2_read_107 (fun S_9 => ?_)
    exact J.vret (pc := 110) C rfl rfl ⟨Nat.le_refl _, Nat.le_refl _⟩ dX2_read_110
def f_X2_read_J45 (S : St) (x0 : Nat) (x1 : Nat) (x3 : Int32) (t0 : Int32) (t1 : Nat) : Option St :=
  (chk (okc S 2 t1) (vlt (upI S t1 2 t0) fun S_5 =>
  (wl2 (f_X2_read_B51 x0 x1 x3 (fun (S_8 : St) => (f_X2_read_J96 S_8 x0 x1))) FU S_5 0)))
set_option maxRecDepth 100000 in
set_option maxHeartbeats 4000000 in
theorem w_X2_read_J45 {X : CT} {g : GG} (C : CX X g cX2_read RX2 none 5 rm_X2_read) (S : St) (x0 : Nat) (x1 : Nat) (x3 : Int32) (t0 : Int32) (t1 : Nat) : J X g (Qm X g aU pU) (cw (0, 0)) 45 [(0, rv g x0), (1, rv g x1), (3, .int x3)] [.int t0, rv g t1] S (f_X2_read_J45 S x0 x1 x3 t0 t1) := by
  unfold f_X2_read_J45
  refine J.putIs (pc := 45) C fl_RX2_33 rfl (fun r h => by cases h; rfl) rfl rfl dX2_read_45 (fun S_5 => ?_)
  refine J.iconst (pc := 48) C dX2_read_48 ki_0 ?_
  refine J.istore (pc := 49) C (lv' := [(0, rv g x0), (1, rv g x1), (3, .int x3), (4, .int 0)]) dX2_read_49 (Nat.le_of_ble_eq_true rfl) rfl ?_
  refine w_X2_read_B51 C _ _ _ _ (fun S_8 => ?_) FU _ _
  exact (w_X2_read_J96 C _ _ _)
def f_X2_read_J27 (S : St) (x0 : Nat) (x1 : Nat) (x2 : Int32) (x3 : Int32) (t0 : Int32) (t1 : Nat) : Option St :=
  (chk (t0 = 0 ∨ t0 = 1)
  (chk (okc S 2 t1) (vlt (upI S t1 3 t0) fun S_4 =>
  (chk (okc S_4 2 x0)
  (if (S_4.1 x0 3) = 0 then
  (f_X2_read_J45 S_4 x0 x1 x3 (x2 + 1) x0)
  else (f_X2_read_J45 S_4 x0 x1 x3 x2 x0))))))
set_option maxRecDepth 100000 in
set_option maxHeartbeats 4000000 in
theorem w_X2_read_J27 {X : CT} {g : GG} (C : CX X g cX2_read RX2 none 5 rm_X2_read) (S : St) (x0 : Nat) (x1 : Nat) (x2 : Int32) (x3 : Int32) (t0 : Int32) (t1 : Nat) : J X g (Qm X g aU pU) (cw (0, 0)) 27 [(0, rv g x0), (1, rv g x1), (2, .int x2), (3, .int x3)] [.int t0, rv g t1] S (f_X2_read_J27 S x0 x1 x2 x3 t0 t1) := by
  unfold f_X2_read_J27
  refine J.ck (fun hz => ?_)
  refine J.putIs (pc := 27) C fl_RX2_29 rfl (fun r h => by cases h; rfl) (nar_z hz) (fit_z hz) dX2_read_27 (fun S_4 => ?_)
  refine J.aload_n (pc := 30) C (x := x0) dX2_read_30 rfl rfl ?_
  refine J.aload_n (pc := 31) C (x := x0) dX2_read_31 rfl rfl ?_
  refine J.getI (pc := 32) C fl_RX2_29 rfl dX2_read_32 ?_
  refine J.if_eq (pc := 35) C (tgt := 42) dX2_read_35 rfl ?_ ?_
  · refine J.iload_n (pc := 42) C dX2_read_42 rfl rfl ?_
    refine J.iconst (pc := 43) C dX2_read_43 ki_1 ?_
    refine J.iadd (pc := 44) C dX2_read_44 ?_
    exact J.pick [0, 1, 3] rfl (w_X2_read_J45 C _ _ _ _ _ _)
  · refine J.iload_n (pc := 38) C dX2_read_38 rfl rfl ?_
    refine J.goto (pc := 39) C (tgt := 45) dX2_read_39 rfl ?_
    exact J.pick [0, 1, 3] rfl (w_X2_read_J45 C _ _ _ _ _ _)
def f_X2_read (S : St) (a0 : Nat) (a1 : Nat) (a2 : Int32) : Option St :=
  (chk (okc S 4 a1) (bnd (f_X4_signAt S a1 a2) fun r1 =>
  (chk (isC r1)
  (chk (okc S 2 a0) (vlt (upI S a0 0 r1) fun S_2 =>
  (chk (okc S_2 2 a0)
  (bnd (f_X2_numbersBehind (S_2.1 a0 0)) fun r3 =>
  (if (0 : Int32) ≤ r3 then
  (f_X2_read_J27 S_2 a0 a1 a2 r3 0 a0)
  else (f_X2_read_J27 S_2 a0 a1 a2 r3 1 a0)))))))))
set_option maxRecDepth 100000 in
set_option maxHeartbeats 4000000 in
theorem c_X2_read (l : Launch) (g : GG) (S : St) (a0 : Nat) (a1 : Nat) (a2 : Int32) : Ct l yX2_read cX2_read 5 none rm_X2_read g aU pU [rv g a0, rv g a1, .int a2] S (f_X2_read S a0 a1 a2) := by
  refine Ct.mk (cf := cw (0, 0)) (by decide +kernel) (cat_r (cat_r (cat_i cat_n))) (Nat.le_of_ble_eq_true rfl) rfl ?_
  intro X hXl hin C
  show J X g _ _ 0 [(0, rv g a0), (1, rv g a1), (2, .int a2)] [] S (f_X2_read S a0 a1 a2)
  unfold f_X2_read
  refine J.aload_n (pc := 0) C (x := a0) dX2_read_0 rfl rfl ?_
  refine J.aload_n (pc := 1) C (x := a1) dX2_read_1 rfl rfl ?_
  refine J.iload_n (pc := 2) C dX2_read_2 rfl rfl ?_
  refine J.vI (pc := 3) C mv_X4_signAt wm_RX2_15 (fun l => c_X4_signAt l g S a1 a2) ⟨⟨Nat.zero_le _, Nat.zero_le _⟩, rfl, rfl⟩ rfl ⟨Nat.le_of_ble_eq_true rfl, Nat.le_of_ble_eq_true rfl⟩ rfl (cat_r cat_n) (Nat.le_of_ble_eq_true rfl) dX2_read_3 (fun r1 => ?_)
  refine J.ck (fun hz => ?_)
  refine J.putIs (pc := 6) C fl_RX2_21 rfl (fun r h => by cases h; rfl) (nar_c hz) (fit_c hz) dX2_read_6 (fun S_2 => ?_)
  refine J.aload_n (pc := 9) C (x := a0) dX2_read_9 rfl rfl ?_
  refine J.getI (pc := 10) C fl_RX2_21 rfl dX2_read_10 ?_
  refine J.sI (pc := 13) C ms_X2_numbersBehind wm_RX2_25 (fun l => c_X2_numbersBehind l g S_2 (S_2.1 a0 0)) ⟨⟨Nat.zero_le _, Nat.zero_le _⟩, rfl, rfl⟩ rfl ⟨Nat.le_of_ble_eq_true rfl, Nat.le_of_ble_eq_true rfl⟩ rfl cat_n (Nat.le_of_ble_eq_true rfl) dX2_read_13 (fun r3 => ?_)
  refine J.istore_n (pc := 16) C (lv' := [(0, rv g a0), (1, rv g a1), (2, .int a2), (3, .int r3)]) dX2_read_16 rfl (Nat.le_of_ble_eq_true rfl) rfl ?_
  refine J.aload_n (pc := 17) C (x := a0) dX2_read_17 rfl rfl ?_
  refine J.iload_n (pc := 18) C dX2_read_18 rfl rfl ?_
  refine J.if_ge (pc := 19) C (tgt := 26) dX2_read_19 rfl ?_ ?_
  · refine J.iconst (pc := 26) C dX2_read_26 ki_0 ?_
    exact (w_X2_read_J27 C _ _ _ _ _ _ _)
  · refine J.iconst (pc := 22) C dX2_read_22 ki_1 ?_
    refine J.goto (pc := 23) C (tgt := 27) dX2_read_23 rfl ?_
    exact (w_X2_read_J27 C _ _ _ _ _ _ _)
abbrev rm_X2_numberAt : Room := { frames := 1, cells := 0, slots := 0, locals := 21 }
def f_X2_numberAt (S : St) (a0 : Nat) (a1 : Int32) : Option Int32 :=
  (chk (okc S 2 a0)
  (bnd (f_X7_numberIn S (S.2.1 a0 1) a1) fun r1 =>
  (some r1)))
set_option maxRecDepth 100000 in
set_option maxHeartbeats 4000000 in
theorem c_X2_numberAt (l : Launch) (g : GG) (S : St) (a0 : Nat) (a1 : Int32) : Ct l yX2_numberAt cX2_numberAt 2 (some .int) rm_X2_numberAt g aI (pK S) [rv g a0, .int a1] S (f_X2_numberAt S a0 a1) := by
  refine Ct.mk (cf := cw (0, 0)) (by decide +kernel) (cat_r (cat_i cat_n)) (Nat.le_of_ble_eq_true rfl) rfl ?_
  intro X hXl hin C
  show J X g _ _ 0 [(0, rv g a0), (1, .int a1)] [] S (f_X2_numberAt S a0 a1)
  unfold f_X2_numberAt
  refine J.aload_n (pc := 0) C (x := a0) dX2_numberAt_0 rfl rfl ?_
  refine J.getR (pc := 1) C fl_RX2_9 rfl dX2_numberAt_1 ?_
  refine J.iload_n (pc := 4) C dX2_numberAt_4 rfl rfl ?_
  refine J.snI (pc := 5) C ms_X7_numberIn wn_RX2_49 (fun l => c_X7_numberIn l g S (S.2.1 a0 1) a1) ⟨⟨Nat.zero_le _, Nat.zero_le _⟩, rfl, rfl⟩ rfl ⟨Nat.le_of_ble_eq_true rfl, Nat.le_of_ble_eq_true rfl⟩ rfl cat_n (Nat.le_of_ble_eq_true rfl) dX2_numberAt_5 (fun r1 => ?_)
  exact J.iret (pc := 8) C rfl rfl ⟨Nat.le_refl _, Nat.le_refl _⟩ dX2_numberAt_8
abbrev rm_X7_wrongOfThing : Room := { frames := 1, cells := 0, slots := 0, locals := 22 }
def f_X7_wrongOfThing (a0 : Int32) (a1 : Int32) (a2 : Int32) (a3 : Int32) (a4 : Int32) (a5 : Int32) : Option Int32 :=
  (bnd (f_X7_isWithin a0 0 9) fun r1 =>
  (if r1 = 0 then
  (some 0)
  else (bnd (f_X7_isWithin a1 a0 9) fun r2 =>
  (if r2 = 0 then
  (some 1)
  else (bnd (f_X7_isWithin a2 (-20000) 20000) fun r3 =>
  (if r3 = 0 then
  (some 2)
  else (bnd (f_X7_isWithin a3 (-200) 200) fun r4 =>
  (if r4 = 0 then
  (some 3)
  else (bnd (f_X7_isWithin a4 50 1600) fun r5 =>
  (if r5 = 0 then
  (some 4)
  else (bnd (f_X7_isWithin a5 0 255) fun r6 =>
  (if r6 = 0 then
  (some 5)
  else (some (-1))))))))))))))
set_option maxRecDepth 100000 in
set_option maxHeartbeats 4000000 in
theorem c_X7_wrongOfThing (l : Launch) (g : GG) (S : St) (a0 : Int32) (a1 : Int32) (a2 : Int32) (a3 : Int32) (a4 : Int32) (a5 : Int32) : Ct l yX7_wrongOfThing cX7_wrongOfThing 6 (some .int) rm_X7_wrongOfThing g aI (pK S) [.int a0, .int a1, .int a2, .int a3, .int a4, .int a5] S (f_X7_wrongOfThing a0 a1 a2 a3 a4 a5) := by
  refine Ct.mk (cf := cw (0, 0)) (by decide +kernel) (cat_i (cat_i (cat_i (cat_i (cat_i (cat_i cat_n)))))) (Nat.le_of_ble_eq_true rfl) rfl ?_
  intro X hXl hin C
  show J X g _ _ 0 [(0, .int a0), (1, .int a1), (2, .int a2), (3, .int a3), (4, .int a4), (5, .int a5)] [] S (f_X7_wrongOfThing a0 a1 a2 a3 a4 a5)
  unfold f_X7_wrongOfThing
  refine J.iload_n (pc := 0) C dX7_wrongOfThing_0 rfl rfl ?_
  refine J.iconst (pc := 1) C dX7_wrongOfThing_1 ki_0 ?_
  refine J.bipush (pc := 2) C dX7_wrongOfThing_2 kb_9 ?_
  refine J.sI (pc := 4) C ms_X7_isWithin wm_RX7_56 (fun l => c_X7_isWithin l g S a0 0 9) ⟨⟨Nat.zero_le _, Nat.zero_le _⟩, rfl, rfl⟩ rfl ⟨Nat.le_of_ble_eq_true rfl, Nat.le_of_ble_eq_true rfl⟩ rfl cat_n (Nat.le_of_ble_eq_true rfl) dX7_wrongOfThing_4 (fun r1 => ?_)
  refine J.if_ne (pc := 7) C (tgt := 12) dX7_wrongOfThing_7 rfl ?_ ?_
  · refine J.iload_n (pc := 12) C dX7_wrongOfThing_12 rfl rfl ?_
    refine J.iload_n (pc := 13) C dX7_wrongOfThing_13 rfl rfl ?_
    refine J.bipush (pc := 14) C dX7_wrongOfThing_14 kb_9 ?_
    refine J.sI (pc := 16) C ms_X7_isWithin wm_RX7_56 (fun l => c_X7_isWithin l g S a1 a0 9) ⟨⟨Nat.zero_le _, Nat.zero_le _⟩, rfl, rfl⟩ rfl ⟨Nat.le_of_ble_eq_true rfl, Nat.le_of_ble_eq_true rfl⟩ rfl cat_n (Nat.le_of_ble_eq_true rfl) dX7_wrongOfThing_16 (fun r2 => ?_)
    refine J.if_ne (pc := 19) C (tgt := 24) dX7_wrongOfThing_19 rfl ?_ ?_
    · refine J.iload_n (pc := 24) C dX7_wrongOfThing_24 rfl rfl ?_
      refine J.sipush (pc := 25) C dX7_wrongOfThing_25 ks_m20000 ?_
      refine J.sipush (pc := 28) C dX7_wrongOfThing_28 ks_20000 ?_
      refine J.sI (pc := 31) C ms_X7_isWithin wm_RX7_56 (fun l => c_X7_isWithin l g S a2 (-20000) 20000) ⟨⟨Nat.zero_le _, Nat.zero_le _⟩, rfl, rfl⟩ rfl ⟨Nat.le_of_ble_eq_true rfl, Nat.le_of_ble_eq_true rfl⟩ rfl cat_n (Nat.le_of_ble_eq_true rfl) dX7_wrongOfThing_31 (fun r3 => ?_)
      refine J.if_ne (pc := 34) C (tgt := 39) dX7_wrongOfThing_34 rfl ?_ ?_
      · refine J.iload_n (pc := 39) C dX7_wrongOfThing_39 rfl rfl ?_
        refine J.sipush (pc := 40) C dX7_wrongOfThing_40 ks_m200 ?_
        refine J.sipush (pc := 43) C dX7_wrongOfThing_43 ks_200 ?_
        refine J.sI (pc := 46) C ms_X7_isWithin wm_RX7_56 (fun l => c_X7_isWithin l g S a3 (-200) 200) ⟨⟨Nat.zero_le _, Nat.zero_le _⟩, rfl, rfl⟩ rfl ⟨Nat.le_of_ble_eq_true rfl, Nat.le_of_ble_eq_true rfl⟩ rfl cat_n (Nat.le_of_ble_eq_true rfl) dX7_wrongOfThing_46 (fun r4 => ?_)
        refine J.if_ne (pc := 49) C (tgt := 54) dX7_wrongOfThing_49 rfl ?_ ?_
        · refine J.iload (pc := 54) C dX7_wrongOfThing_54 rfl ?_
          refine J.bipush (pc := 56) C dX7_wrongOfThing_56 kb_50 ?_
          refine J.sipush (pc := 58) C dX7_wrongOfThing_58 ks_1600 ?_
          refine J.sI (pc := 61) C ms_X7_isWithin wm_RX7_56 (fun l => c_X7_isWithin l g S a4 50 1600) ⟨⟨Nat.zero_le _, Nat.zero_le _⟩, rfl, rfl⟩ rfl ⟨Nat.le_of_ble_eq_true rfl, Nat.le_of_ble_eq_true rfl⟩ rfl cat_n (Nat.le_of_ble_eq_true rfl) dX7_wrongOfThing_61 (fun r5 => ?_)
          refine J.if_ne (pc := 64) C (tgt := 69) dX7_wrongOfThing_64 rfl ?_ ?_
          · refine J.iload (pc := 69) C dX7_wrongOfThing_69 rfl ?_
            refine J.iconst (pc := 71) C dX7_wrongOfThing_71 ki_0 ?_
            refine J.sipush (pc := 72) C dX7_wrongOfThing_72 ks_255 ?_
            refine J.sI (pc := 75) C ms_X7_isWithin wm_RX7_56 (fun l => c_X7_isWithin l g S a5 0 255) ⟨⟨Nat.zero_le _, Nat.zero_le _⟩, rfl, rfl⟩ rfl ⟨Nat.le_of_ble_eq_true rfl, Nat.le_of_ble_eq_true rfl⟩ rfl cat_n (Nat.le_of_ble_eq_true rfl) dX7_wrongOfThing_75 (fun r6 => ?_)
            refine J.if_eq (pc := 78) C (tgt := 85) dX7_wrongOfThing_78 rfl ?_ ?_
            · refine J.iconst (pc := 85) C dX7_wrongOfThing_85 ki_5 ?_
              exact J.iret (pc := 86) C rfl rfl ⟨Nat.le_refl _, Nat.le_refl _⟩ dX7_wrongOfThing_86
            · refine J.iconst (pc := 81) C dX7_wrongOfThing_81 ki_m1 ?_
              refine J.goto (pc := 82) C (tgt := 86) dX7_wrongOfThing_82 rfl ?_
              exact J.iret (pc := 86) C rfl rfl ⟨Nat.le_refl _, Nat.le_refl _⟩ dX7_wrongOfThing_86
          · refine J.iconst (pc := 67) C dX7_wrongOfThing_67 ki_4 ?_
            exact J.iret (pc := 68) C rfl rfl ⟨Nat.le_refl _, Nat.le_refl _⟩ dX7_wrongOfThing_68
        · refine J.iconst (pc := 52) C dX7_wrongOfThing_52 ki_3 ?_
          exact J.iret (pc := 53) C rfl rfl ⟨Nat.le_refl _, Nat.le_refl _⟩ dX7_wrongOfThing_53
      · refine J.iconst (pc := 37) C dX7_wrongOfThing_37 ki_2 ?_
        exact J.iret (pc := 38) C rfl rfl ⟨Nat.le_refl _, Nat.le_refl _⟩ dX7_wrongOfThing_38
    · refine J.iconst (pc := 22) C dX7_wrongOfThing_22 ki_1 ?_
      exact J.iret (pc := 23) C rfl rfl ⟨Nat.le_refl _, Nat.le_refl _⟩ dX7_wrongOfThing_23
  · refine J.iconst (pc := 10) C dX7_wrongOfThing_10 ki_0 ?_
    exact J.iret (pc := 11) C rfl rfl ⟨Nat.le_refl _, Nat.le_refl _⟩ dX7_wrongOfThing_11
abbrev rm_X2_wrongNumber : Room := { frames := 2, cells := 0, slots := 0, locals := 47 }
def f_X2_wrongNumber (S : St) (a0 : Nat) : Option Int32 :=
  (chk (okc S 2 a0)
  (if (S.1 a0 0) = 116 then
  (chk (okc S 2 a0) (bnd (f_X2_numberAt S a0 0) fun r5 =>
  (chk (okc S 2 a0) (bnd (f_X2_numberAt S a0 1) fun r6 =>
  (chk (okc S 2 a0) (bnd (f_X2_numberAt S a0 2) fun r7 =>
  (chk (okc S 2 a0) (bnd (f_X2_numberAt S a0 3) fun r8 =>
  (chk (okc S 2 a0) (bnd (f_X2_numberAt S a0 4) fun r9 =>
  (chk (okc S 2 a0) (bnd (f_X2_numberAt S a0 5) fun r10 =>
  (bnd (f_X7_wrongOfThing r5 r6 r7 r8 r9 r10) fun r11 =>
  (some r11))))))))))))))
  else (chk (okc S 2 a0)
  (if (S.1 a0 0) = 103 then
  (chk (okc S 2 a0) (bnd (f_X2_numberAt S a0 0) fun r3 =>
  (bnd (f_X7_isWithin r3 1 200) fun r4 =>
  (if r4 = 0 then
  (some 0)
  else (some (-1))))))
  else (chk (okc S 2 a0)
  (if (S.1 a0 0) = 115 then
  (some (-1))
  else (chk (okc S 2 a0) (bnd (f_X2_numberAt S a0 0) fun r1 =>
  (bnd (f_X7_isWithin r1 0 9) fun r2 =>
  (if r2 = 0 then
  (some 0)
  else (some (-1))))))))))))
set_option maxRecDepth 100000 in
set_option maxHeartbeats 4000000 in
theorem c_X2_wrongNumber (l : Launch) (g : GG) (S : St) (a0 : Nat) : Ct l yX2_wrongNumber cX2_wrongNumber 1 (some .int) rm_X2_wrongNumber g aI (pK S) [rv g a0] S (f_X2_wrongNumber S a0) := by
  refine Ct.mk (cf := cw (0, 0)) (by decide +kernel) (cat_r cat_n) (Nat.le_of_ble_eq_true rfl) rfl ?_
  intro X hXl hin C
  show J X g _ _ 0 [(0, rv g a0)] [] S (f_X2_wrongNumber S a0)
  unfold f_X2_wrongNumber
  refine J.aload_n (pc := 0) C (x := a0) dX2_wrongNumber_0 rfl rfl ?_
  refine J.getI (pc := 1) C fl_RX2_21 rfl dX2_wrongNumber_1 ?_
  refine J.bipush (pc := 4) C dX2_wrongNumber_4 kb_116 ?_
  refine J.icmp_ne (pc := 6) C (tgt := 43) dX2_wrongNumber_6 rfl ?_ ?_
  · refine J.aload_n (pc := 43) C (x := a0) dX2_wrongNumber_43 rfl rfl ?_
    refine J.getI (pc := 44) C fl_RX2_21 rfl dX2_wrongNumber_44 ?_
    refine J.bipush (pc := 47) C dX2_wrongNumber_47 kb_103 ?_
    refine J.icmp_ne (pc := 49) C (tgt := 73) dX2_wrongNumber_49 rfl ?_ ?_
    · refine J.aload_n (pc := 73) C (x := a0) dX2_wrongNumber_73 rfl rfl ?_
      refine J.getI (pc := 74) C fl_RX2_21 rfl dX2_wrongNumber_74 ?_
      refine J.bipush (pc := 77) C dX2_wrongNumber_77 kb_115 ?_
      refine J.icmp_eq (pc := 79) C (tgt := 96) dX2_wrongNumber_79 rfl ?_ ?_
      · refine J.iconst (pc := 96) C dX2_wrongNumber_96 ki_m1 ?_
        refine J.goto (pc := 97) C (tgt := 101) dX2_wrongNumber_97 rfl ?_
        exact J.iret (pc := 101) C rfl rfl ⟨Nat.le_refl _, Nat.le_refl _⟩ dX2_wrongNumber_101
      · refine J.aload_n (pc := 82) C (x := a0) dX2_wrongNumber_82 rfl rfl ?_
        refine J.iconst (pc := 83) C dX2_wrongNumber_83 ki_0 ?_
        refine J.vI (pc := 84) C mv_X2_numberAt wm_RX2_53 (fun l => c_X2_numberAt l g S a0 0) ⟨⟨Nat.zero_le _, Nat.zero_le _⟩, rfl, rfl⟩ rfl ⟨Nat.le_of_ble_eq_true rfl, Nat.le_of_ble_eq_true rfl⟩ rfl cat_n (Nat.le_of_ble_eq_true rfl) dX2_wrongNumber_84 (fun r1 => ?_)
        refine J.iconst (pc := 87) C dX2_wrongNumber_87 ki_0 ?_
        refine J.bipush (pc := 88) C dX2_wrongNumber_88 kb_9 ?_
        refine J.snI (pc := 90) C ms_X7_isWithin wn_RX2_61 (fun l => c_X7_isWithin l g S r1 0 9) ⟨⟨Nat.zero_le _, Nat.zero_le _⟩, rfl, rfl⟩ rfl ⟨Nat.le_of_ble_eq_true rfl, Nat.le_of_ble_eq_true rfl⟩ rfl cat_n (Nat.le_of_ble_eq_true rfl) dX2_wrongNumber_90 (fun r2 => ?_)
        refine J.if_eq (pc := 93) C (tgt := 100) dX2_wrongNumber_93 rfl ?_ ?_
        · refine J.iconst (pc := 100) C dX2_wrongNumber_100 ki_0 ?_
          exact J.iret (pc := 101) C rfl rfl ⟨Nat.le_refl _, Nat.le_refl _⟩ dX2_wrongNumber_101
        · refine J.iconst (pc := 96) C dX2_wrongNumber_96 ki_m1 ?_
          refine J.goto (pc := 97) C (tgt := 101) dX2_wrongNumber_97 rfl ?_
          exact J.iret (pc := 101) C rfl rfl ⟨Nat.le_refl _, Nat.le_refl _⟩ dX2_wrongNumber_101
    · refine J.aload_n (pc := 52) C (x := a0) dX2_wrongNumber_52 rfl rfl ?_
      refine J.iconst (pc := 53) C dX2_wrongNumber_53 ki_0 ?_
      refine J.vI (pc := 54) C mv_X2_numberAt wm_RX2_53 (fun l => c_X2_numberAt l g S a0 0) ⟨⟨Nat.zero_le _, Nat.zero_le _⟩, rfl, rfl⟩ rfl ⟨Nat.le_of_ble_eq_true rfl, Nat.le_of_ble_eq_true rfl⟩ rfl cat_n (Nat.le_of_ble_eq_true rfl) dX2_wrongNumber_54 (fun r3 => ?_)
      refine J.iconst (pc := 57) C dX2_wrongNumber_57 ki_1 ?_
      refine J.sipush (pc := 58) C dX2_wrongNumber_58 ks_200 ?_
      refine J.snI (pc := 61) C ms_X7_isWithin wn_RX2_61 (fun l => c_X7_isWithin l g S r3 1 200) ⟨⟨Nat.zero_le _, Nat.zero_le _⟩, rfl, rfl⟩ rfl ⟨Nat.le_of_ble_eq_true rfl, Nat.le_of_ble_eq_true rfl⟩ rfl cat_n (Nat.le_of_ble_eq_true rfl) dX2_wrongNumber_61 (fun r4 => ?_)
      refine J.if_eq (pc := 64) C (tgt := 71) dX2_wrongNumber_64 rfl ?_ ?_
      · refine J.iconst (pc := 71) C dX2_wrongNumber_71 ki_0 ?_
        exact J.iret (pc := 72) C rfl rfl ⟨Nat.le_refl _, Nat.le_refl _⟩ dX2_wrongNumber_72
      · refine J.iconst (pc := 67) C dX2_wrongNumber_67 ki_m1 ?_
        refine J.goto (pc := 68) C (tgt := 72) dX2_wrongNumber_68 rfl ?_
        exact J.iret (pc := 72) C rfl rfl ⟨Nat.le_refl _, Nat.le_refl _⟩ dX2_wrongNumber_72
  · refine J.aload_n (pc := 9) C (x := a0) dX2_wrongNumber_9 rfl rfl ?_
    refine J.iconst (pc := 10) C dX2_wrongNumber_10 ki_0 ?_
    refine J.vI (pc := 11) C mv_X2_numberAt wm_RX2_53 (fun l => c_X2_numberAt l g S a0 0) ⟨⟨Nat.zero_le _, Nat.zero_le _⟩, rfl, rfl⟩ rfl ⟨Nat.le_of_ble_eq_true rfl, Nat.le_of_ble_eq_true rfl⟩ rfl cat_n (Nat.le_of_ble_eq_true rfl) dX2_wrongNumber_11 (fun r5 => ?_)
    refine J.aload_n (pc := 14) C (x := a0) dX2_wrongNumber_14 rfl rfl ?_
    refine J.iconst (pc := 15) C dX2_wrongNumber_15 ki_1 ?_
    refine J.vI (pc := 16) C mv_X2_numberAt wm_RX2_53 (fun l => c_X2_numberAt l g S a0 1) ⟨⟨Nat.zero_le _, Nat.zero_le _⟩, rfl, rfl⟩ rfl ⟨Nat.le_of_ble_eq_true rfl, Nat.le_of_ble_eq_true rfl⟩ rfl (cat_i cat_n) (Nat.le_of_ble_eq_true rfl) dX2_wrongNumber_16 (fun r6 => ?_)
    refine J.aload_n (pc := 19) C (x := a0) dX2_wrongNumber_19 rfl rfl ?_
    refine J.iconst (pc := 20) C dX2_wrongNumber_20 ki_2 ?_
    refine J.vI (pc := 21) C mv_X2_numberAt wm_RX2_53 (fun l => c_X2_numberAt l g S a0 2) ⟨⟨Nat.zero_le _, Nat.zero_le _⟩, rfl, rfl⟩ rfl ⟨Nat.le_of_ble_eq_true rfl, Nat.le_of_ble_eq_true rfl⟩ rfl (cat_i (cat_i cat_n)) (Nat.le_of_ble_eq_true rfl) dX2_wrongNumber_21 (fun r7 => ?_)
    refine J.aload_n (pc := 24) C (x := a0) dX2_wrongNumber_24 rfl rfl ?_
    refine J.iconst (pc := 25) C dX2_wrongNumber_25 ki_3 ?_
    refine J.vI (pc := 26) C mv_X2_numberAt wm_RX2_53 (fun l => c_X2_numberAt l g S a0 3) ⟨⟨Nat.zero_le _, Nat.zero_le _⟩, rfl, rfl⟩ rfl ⟨Nat.le_of_ble_eq_true rfl, Nat.le_of_ble_eq_true rfl⟩ rfl (cat_i (cat_i (cat_i cat_n))) (Nat.le_of_ble_eq_true rfl) dX2_wrongNumber_26 (fun r8 => ?_)
    refine J.aload_n (pc := 29) C (x := a0) dX2_wrongNumber_29 rfl rfl ?_
    refine J.iconst (pc := 30) C dX2_wrongNumber_30 ki_4 ?_
    refine J.vI (pc := 31) C mv_X2_numberAt wm_RX2_53 (fun l => c_X2_numberAt l g S a0 4) ⟨⟨Nat.zero_le _, Nat.zero_le _⟩, rfl, rfl⟩ rfl ⟨Nat.le_of_ble_eq_true rfl, Nat.le_of_ble_eq_true rfl⟩ rfl (cat_i (cat_i (cat_i (cat_i cat_n)))) (Nat.le_of_ble_eq_true rfl) dX2_wrongNumber_31 (fun r9 => ?_)
    refine J.aload_n (pc := 34) C (x := a0) dX2_wrongNumber_34 rfl rfl ?_
    refine J.iconst (pc := 35) C dX2_wrongNumber_35 ki_5 ?_
    refine J.vI (pc := 36) C mv_X2_numberAt wm_RX2_53 (fun l => c_X2_numberAt l g S a0 5) ⟨⟨Nat.zero_le _, Nat.zero_le _⟩, rfl, rfl⟩ rfl ⟨Nat.le_of_ble_eq_true rfl, Nat.le_of_ble_eq_true rfl⟩ rfl (cat_i (cat_i (cat_i (cat_i (cat_i cat_n))))) (Nat.le_of_ble_eq_true rfl) dX2_wrongNumber_36 (fun r10 => ?_)
    refine J.snI (pc := 39) C ms_X7_wrongOfThing wn_RX2_57 (fun l => c_X7_wrongOfThing l g S r5 r6 r7 r8 r9 r10) ⟨⟨Nat.zero_le _, Nat.zero_le _⟩, rfl, rfl⟩ rfl ⟨Nat.le_of_ble_eq_true rfl, Nat.le_of_ble_eq_true rfl⟩ rfl cat_n (Nat.le_of_ble_eq_true rfl) dX2_wrongNumber_39 (fun r11 => ?_)
    exact J.iret (pc := 42) C rfl rfl ⟨Nat.le_refl _, Nat.le_refl _⟩ dX2_wrongNumber_42
