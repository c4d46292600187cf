abbrev rm_X1_gatherDemands : Room := { frames := 4, cells := 0, slots := 0, locals := 104 }
def f_X1_gatherDemands_B25 (a0 : Nat) (a1 : Nat) (a2 : Int32) (a3 : Int32) (a4 : Nat) (kx25 : St → Option St) (k25 : St → Int32 → Option St) (S : St) (x5 : Int32) : Option St :=
  (if a4 = 0 then
  (kx25 S)
  else (chk (okc S 3 a1) (bnd (f_X3_setting S a1 0) fun r3 =>
  (if r3 ≤ x5 then
  (kx25 S)
  else (chk (okc S 0 a4)
  (bnd (f_X7_holds (S.1 a4 1) x5) fun r4 =>
  (if r4 = 0 then
  (chk (okc S 1 a0) (bnd (f_X1_addDemand S a0 a1 a2 a4 x5) fun S_5 =>
  (k25 S_5 (x5 + 1))))
  else (k25 S (x5 + 1)))))))))
set_option maxRecDepth 100000 in
set_option maxHeartbeats 4000000 in
theorem w_X1_gatherDemands_B25 {X : CT} {g : GG} (C : CX X g cX1_gatherDemands RX1 none 6 rm_X1_gatherDemands) (a0 : Nat) (a1 : Nat) (a2 : Int32) (a3 : Int32) (a4 : Nat) (kx25 : St → Option St) (hkx25 : ∀ (S : St), J X g (Qm X g aU pU) (cw (0, 0)) 69 [(0, rv g a0), (1, rv g a1), (2, .int a2), (3, .int a3)] [] S (kx25 S)) : ∀ (n : Nat) (S : St) (x5 : Int32), J X g (Qm X g aU pU) (cw (0, 0)) 25 [(0, rv g a0), (1, rv g a1), (2, .int a2), (3, .int a3), (4, rv g a4), (5, .int x5)] [] S (wl2 (f_X1_gatherDemands_B25 a0 a1 a2 a3 a4 kx25) n S x5) := by
  refine J.loop2 (lvf := fun (S : St) (x5 : Int32) => [(0, rv g a0), (1, rv g a1), (2, .int a2), (3, .int a3), (4, rv g a4), (5, .int x5)]) (Sf := fun (S : St) (x5 : Int32) => S) ?_
  intro k25 hk25 S x5
  show J X g _ _ 25 [(0, rv g a0), (1, rv g a1), (2, .int a2), (3, .int a3), (4, rv g a4), (5, .int x5)] [] S (f_X1_gatherDemands_B25 a0 a1 a2 a3 a4 kx25 k25 S x5)
  unfold f_X1_gatherDemands_B25
  refine J.aload (pc := 25) C (x := a4) dX1_gatherDemands_25 rfl ?_
  refine J.ifnull (pc := 27) C (tgt := 69) dX1_gatherDemands_27 rfl ?_ ?_
  · exact J.pick [0, 1, 2, 3] rfl (hkx25 _)
  · refine J.iload (pc := 30) C dX1_gatherDemands_30 rfl ?_
    refine J.aload_n (pc := 32) C (x := a1) dX1_gatherDemands_32 rfl rfl ?_
    refine J.iconst (pc := 33) C dX1_gatherDemands_33 ki_0 ?_
    refine J.vI (pc := 34) C mv_X3_setting wm_RX1_76 (fun l => c_X3_setting l g S a1 0) ⟨⟨Nat.zero_le _, Nat.zero_le _⟩, rfl, rfl⟩ rfl ⟨Nat.le_of_ble_eq_true rfl, Nat.le_of_ble_eq_true rfl⟩ rfl (cat_i cat_n) (Nat.le_of_ble_eq_true rfl) dX1_gatherDemands_34 (fun r3 => ?_)
    refine J.icmp_ge (pc := 37) C (tgt := 69) dX1_gatherDemands_37 rfl ?_ ?_
    · exact J.pick [0, 1, 2, 3] rfl (hkx25 _)
    · refine J.aload (pc := 40) C (x := a4) dX1_gatherDemands_40 rfl ?_
      refine J.getI (pc := 42) C fl_RX1_80 rfl dX1_gatherDemands_42 ?_
      refine J.iload (pc := 45) C dX1_gatherDemands_45 rfl ?_
      refine J.snI (pc := 47) C ms_X7_holds wn_RX1_85 (fun l => c_X7_holds l g S (S.1 a4 1) x5) ⟨⟨Nat.zero_le _, Nat.zero_le _⟩, rfl, rfl⟩ rfl ⟨Nat.le_of_ble_eq_true rfl, Nat.le_of_ble_eq_true rfl⟩ rfl cat_n (Nat.le_of_ble_eq_true rfl) dX1_gatherDemands_47 (fun r4 => ?_)
      refine J.if_ne (pc := 50) C (tgt := 63) dX1_gatherDemands_50 rfl ?_ ?_
      · refine J.iinc (pc := 63) C (lv' := [(0, rv g a0), (1, rv g a1), (2, .int a2), (3, .int a3), (4, rv g a4), (5, .int (x5 + 1))]) dX1_gatherDemands_63 rfl (Nat.le_of_ble_eq_true rfl) ki_1 rfl ?_
        refine J.goto (pc := 66) C (tgt := 25) dX1_gatherDemands_66 rfl ?_
        exact (hk25 _ _)
      · refine J.aload_n (pc := 53) C (x := a0) dX1_gatherDemands_53 rfl rfl ?_
        refine J.aload_n (pc := 54) C (x := a1) dX1_gatherDemands_54 rfl rfl ?_
        refine J.iload_n (pc := 55) C dX1_gatherDemands_55 rfl rfl ?_
        refine J.aload (pc := 56) C (x := a4) dX1_gatherDemands_56 rfl ?_
        refine J.iload (pc := 58) C dX1_gatherDemands_58 rfl ?_
        refine J.vU (pc := 60) C mv_X1_addDemand wm_RX1_89 (fun l => c_X1_addDemand l g S a0 a1 a2 a4 x5) ⟨⟨Nat.zero_le _, Nat.zero_le _⟩, rfl, rfl⟩ rfl ⟨Nat.le_of_ble_eq_true rfl, Nat.le_of_ble_eq_true rfl⟩ rfl cat_n (Nat.le_of_ble_eq_true rfl) dX1_gatherDemands_60 (fun S_5 => ?_)
        refine J.iinc (pc := 63) C (lv' := [(0, rv g a0), (1, rv g a1), (2, .int a2), (3, .int a3), (4, rv g a4), (5, .int (x5 + 1))]) dX1_gatherDemands_63 rfl (Nat.le_of_ble_eq_true rfl) ki_1 rfl ?_
        refine J.goto (pc := 66) C (tgt := 25) dX1_gatherDemands_66 rfl ?_
        exact (hk25 _ _)
def f_X1_gatherDemands_B7 (a0 : Nat) (a1 : Nat) (a2 : Int32) (kx7 : St → Option St) (k7 : St → Int32 → Option St) (S : St) (x3 : Int32) : Option St :=
  (chk (okc S 3 a1)
  (if (S.1 a1 4) ≤ x3 then
  (kx7 S)
  else (chk (okc S 3 a1) (bnd (f_X3_frameAt S a1 x3) fun r2 =>
  (wl2 (f_X1_gatherDemands_B25 a0 a1 a2 x3 r2 (fun (S_6 : St) => (k7 S_6 (x3 + 1)))) FU S 0)))))
set_option maxRecDepth 100000 in
set_option maxHeartbeats 4000000 in
theorem w_X1_gatherDemands_B7 {X : CT} {g : GG} (C : CX X g cX1_gatherDemands RX1 none 6 rm_X1_gatherDemands) (a0 : Nat) (a1 : Nat) (a2 : Int32) (kx7 : St → Option St) (hkx7 : ∀ (S : St), J X g (Qm X g aU pU) (cw (0, 0)) 75 [] [] S (kx7 S)) : ∀ (n : Nat) (S : St) (x3 : Int32), J X g (Qm X g aU pU) (cw (0, 0)) 7 [(0, rv g a0), (1, rv g a1), (2, .int a2), (3, .int x3)] [] S (wl2 (f_X1_gatherDemands_B7 a0 a1 a2 kx7) n S x3) := by
  refine J.loop2 (lvf := fun (S : St) (x3 : Int32) => [(0, rv g a0), (1, rv g a1), (2, .int a2), (3, .int x3)]) (Sf := fun (S : St) (x3 : Int32) => S) ?_
  intro k7 hk7 S x3
  show J X g _ _ 7 [(0, rv g a0), (1, rv g a1), (2, .int a2), (3, .int x3)] [] S (f_X1_gatherDemands_B7 a0 a1 a2 kx7 k7 S x3)
  unfold f_X1_gatherDemands_B7
  refine J.iload_n (pc := 7) C dX1_gatherDemands_7 rfl rfl ?_
  refine J.aload_n (pc := 8) C (x := a1) dX1_gatherDemands_8 rfl rfl ?_
  refine J.getI (pc := 9) C fl_RX1_69 rfl dX1_gatherDemands_9 ?_
  refine J.icmp_ge (pc := 12) C (tgt := 75) dX1_gatherDemands_12 rfl ?_ ?_
  · exact J.pick [] rfl (hkx7 _)
  · refine J.aload_n (pc := 15) C (x := a1) dX1_gatherDemands_15 rfl rfl ?_
    refine J.iload_n (pc := 16) C dX1_gatherDemands_16 rfl rfl ?_
    refine J.vR (pc := 17) C mv_X3_frameAt wm_RX1_72 (fun l => c_X3_frameAt l g S a1 x3) ⟨⟨Nat.zero_le _, Nat.zero_le _⟩, rfl, rfl⟩ rfl ⟨Nat.le_of_ble_eq_true rfl, Nat.le_of_ble_eq_true rfl⟩ rfl cat_n (Nat.le_of_ble_eq_true rfl) dX1_gatherDemands_17 (fun r2 => ?_)
    refine J.astore (pc := 20) C (lv' := [(0, rv g a0), (1, rv g a1), (2, .int a2), (3, .int x3), (4, rv g r2)]) dX1_gatherDemands_20 (Nat.le_of_ble_eq_true rfl) rfl ?_
    refine J.iconst (pc := 22) C dX1_gatherDemands_22 ki_0 ?_
    refine J.istore (pc := 23) C (lv' := [(0, rv g a0), (1, rv g a1), (2, .int a2), (3, .int x3), (4, rv g r2), (5, .int 0)]) dX1_gatherDemands_23 (Nat.le_of_ble_eq_true rfl) rfl ?_
    refine w_X1_gatherDemands_B25 C _ _ _ _ _ _ (fun S_6 => ?_) FU _ _
    refine J.iinc (pc := 69) C (lv' := [(0, rv g a0), (1, rv g a1), (2, .int a2), (3, .int (x3 + 1))]) dX1_gatherDemands_69 rfl (Nat.le_of_ble_eq_true rfl) ki_1 rfl ?_
    refine J.goto (pc := 72) C (tgt := 7) dX1_gatherDemands_72 rfl ?_
    exact (hk7 _ _)
def f_X1_gatherDemands (S : St) (a0 : Nat) (a1 : Nat) (a2 : Int32) : Option St :=
  (chk (okc S 1 a0) (vlt (upI S a0 3 0) fun S_1 =>
  (wl2 (f_X1_gatherDemands_B7 a0 a1 a2 (fun (S_7 : St) => (some S_7))) FU S_1 0)))
set_option maxRecDepth 100000 in
set_option maxHeartbeats 4000000 in
theorem c_X1_gatherDemands (l : Launch) (g : GG) (S : St) (a0 : Nat) (a1 : Nat) (a2 : Int32) : Ct l yX1_gatherDemands cX1_gatherDemands 6 none rm_X1_gatherDemands g aU pU [rv g a0, rv g a1, .int a2] S (f_X1_gatherDemands S a0 a1 a2) := by
  refine Ct.mk (cf := cw (0, 0)) (by decide +kernel) (cat_r (cat_r (cat_i cat_n))) (Nat.le_of_ble_eq_true rfl) rfl ?_
  intro X hXl hin C
  show J X g _ _ 0 [(0, rv g a0), (1, rv g a1), (2, .int a2)] [] S (f_X1_gatherDemands S a0 a1 a2)
  unfold f_X1_gatherDemands
  refine J.aload_n (pc := 0) C (x := a0) dX1_gatherDemands_0 rfl rfl ?_
  refine J.iconst (pc := 1) C dX1_gatherDemands_1 ki_0 ?_
  refine J.putIs (pc := 2) C fl_RX1_66 rfl (fun r h => by cases h; rfl) rfl rfl dX1_gatherDemands_2 (fun S_1 => ?_)
  refine J.iconst (pc := 5) C dX1_gatherDemands_5 ki_0 ?_
  refine J.istore_n (pc := 6) C (lv' := [(0, rv g a0), (1, rv g a1), (2, .int a2), (3, .int 0)]) dX1_gatherDemands_6 rfl (Nat.le_of_ble_eq_true rfl) rfl ?_
  refine w_X1_gatherDemands_B7 C _ _ _ _ (fun S_7 => ?_) FU _ _
  exact J.vret (pc := 75) C rfl rfl ⟨Nat.le_refl _, Nat.le_refl _⟩ dX1_gatherDemands_75
abbrev rm_X1_keepMotion : Room := { frames := 0, cells := 0, slots := 0, locals := 0 }
def f_X1_keepMotion (S : St) (a0 : Nat) (a1 : Int32) (a2 : Int32) : Option St :=
  (chk (okc S 1 a0)
  (if (S.1 a0 6) = 0 then
  (chk (okc S 1 a0) (vlt (upI S a0 7 a1) fun S_4 =>
  (chk (okc S_4 1 a0) (vlt (upI S_4 a0 8 a2) fun S_5 =>
  (chk (okc S_5 1 a0) (vlt (upI S_5 a0 9 a1) fun S_6 =>
  (chk (okc S_6 1 a0) (vlt (upI S_6 a0 10 a2) fun S_7 =>
  (chk (okc S_7 1 a0)
  (chk (okc S_7 1 a0) (vlt (upI S_7 a0 6 ((S_7.1 a0 6) + 1)) fun S_8 =>
  (some S_8))))))))))))
  else (chk (okc S 1 a0) (vlt (upI S a0 9 a1) fun S_1 =>
  (chk (okc S_1 1 a0) (vlt (upI S_1 a0 10 a2) fun S_2 =>
  (chk (okc S_2 1 a0)
  (chk (okc S_2 1 a0) (vlt (upI S_2 a0 6 ((S_2.1 a0 6) + 1)) fun S_3 =>
  (some S_3))))))))))
set_option maxRecDepth 100000 in
set_option maxHeartbeats 4000000 in
theorem c_X1_keepMotion (l : Launch) (g : GG) (S : St) (a0 : Nat) (a1 : Int32) (a2 : Int32) : Ct l yX1_keepMotion cX1_keepMotion 3 none rm_X1_keepMotion g aU pU [rv g a0, .int a1, .int a2] S (f_X1_keepMotion S a0 a1 a2) := by
  refine Ct.mk (cf := cw (0, 0)) (by decide +kernel) (cat_r (cat_i (cat_i cat_n))) (Nat.le_of_ble_eq_true rfl) rfl ?_
  intro X hXl hin C
  show J X g _ _ 0 [(0, rv g a0), (1, .int a1), (2, .int a2)] [] S (f_X1_keepMotion S a0 a1 a2)
  unfold f_X1_keepMotion
  refine J.aload_n (pc := 0) C (x := a0) dX1_keepMotion_0 rfl rfl ?_
  refine J.getI (pc := 1) C fl_RX1_33 rfl dX1_keepMotion_1 ?_
  refine J.if_ne (pc := 4) C (tgt := 17) dX1_keepMotion_4 rfl ?_ ?_
  · refine J.aload_n (pc := 17) C (x := a0) dX1_keepMotion_17 rfl rfl ?_
    refine J.iload_n (pc := 18) C dX1_keepMotion_18 rfl rfl ?_
    refine J.putIs (pc := 19) C fl_RX1_60 rfl (fun r h => by cases h; rfl) rfl rfl dX1_keepMotion_19 (fun S_1 => ?_)
    refine J.aload_n (pc := 22) C (x := a0) dX1_keepMotion_22 rfl rfl ?_
    refine J.iload_n (pc := 23) C dX1_keepMotion_23 rfl rfl ?_
    refine J.putIs (pc := 24) C fl_RX1_63 rfl (fun r h => by cases h; rfl) rfl rfl dX1_keepMotion_24 (fun S_2 => ?_)
    refine J.aload_n (pc := 27) C (x := a0) dX1_keepMotion_27 rfl rfl ?_
    refine J.dup (pc := 28) C dX1_keepMotion_28 (rv_cat g _) ?_
    refine J.getI (pc := 29) C fl_RX1_33 rfl dX1_keepMotion_29 ?_
    refine J.iconst (pc := 32) C dX1_keepMotion_32 ki_1 ?_
    refine J.iadd (pc := 33) C dX1_keepMotion_33 ?_
    refine J.putIs (pc := 34) C fl_RX1_33 rfl (fun r h => by cases h; rfl) rfl rfl dX1_keepMotion_34 (fun S_3 => ?_)
    exact J.vret (pc := 37) C rfl rfl ⟨Nat.le_refl _, Nat.le_refl _⟩ dX1_keepMotion_37
  · refine J.aload_n (pc := 7) C (x := a0) dX1_keepMotion_7 rfl rfl ?_
    refine J.iload_n (pc := 8) C dX1_keepMotion_8 rfl rfl ?_
    refine J.putIs (pc := 9) C fl_RX1_54 rfl (fun r h => by cases h; rfl) rfl rfl dX1_keepMotion_9 (fun S_4 => ?_)
    refine J.aload_n (pc := 12) C (x := a0) dX1_keepMotion_12 rfl rfl ?_
    refine J.iload_n (pc := 13) C dX1_keepMotion_13 rfl rfl ?_
    refine J.putIs (pc := 14) C fl_RX1_57 rfl (fun r h => by cases h; rfl) rfl rfl dX1_keepMotion_14 (fun S_5 => ?_)
    refine J.aload_n (pc := 17) C (x := a0) dX1_keepMotion_17 rfl rfl ?_
    refine J.iload_n (pc := 18) C dX1_keepMotion_18 rfl rfl ?_
    refine J.putIs (pc := 19) C fl_RX1_60 rfl (fun r h => by cases h; rfl) rfl rfl dX1_keepMotion_19 (fun S_6 => ?_)
    refine J.aload_n (pc := 22) C (x := a0) dX1_keepMotion_22 rfl rfl ?_
    refine J.iload_n (pc := 23) C dX1_keepMotion_23 rfl rfl ?_
    refine J.putIs (pc := 24) C fl_RX1_63 rfl (fun r h => by cases h; rfl) rfl rfl dX1_keepMotion_24 (fun S_7 => ?_)
    refine J.aload_n (pc := 27) C (x := a0) dX1_keepMotion_27 rfl rfl ?_
    refine J.dup (pc := 28) C dX1_keepMotion_28 (rv_cat g _) ?_
    refine J.getI (pc := 29) C fl_RX1_33 rfl dX1_keepMotion_29 ?_
    refine J.iconst (pc := 32) C dX1_keepMotion_32 ki_1 ?_
    refine J.iadd (pc := 33) C dX1_keepMotion_33 ?_
    refine J.putIs (pc := 34) C fl_RX1_33 rfl (fun r h => by cases h; rfl) rfl rfl dX1_keepMotion_34 (fun S_8 => ?_)
    exact J.vret (pc := 37) C rfl rfl ⟨Nat.le_refl _, Nat.le_refl _⟩ dX1_keepMotion_37
abbrev rm_X1_meetsDemands : Room := { frames := 2, cells := 0, slots := 0, locals := 45 }
def f_X1_meetsDemands_B3 (S : St) (a0 : Nat) (a1 : Int32) (a2 : Int32) (a3 : Int32) (kx3 : Option Int32) (k3 : Int32 → Option Int32) (x4 : Int32) : Option Int32 :=
  (chk (okc S 1 a0)
  (if (S.1 a0 3) ≤ x4 then
  kx3
  else (chk (okc S 1 a0)
  (bnd (f_X7_numberIn S (S.2.1 a0 0) x4) fun r1 =>
  (bnd (f_X7_columnsCovered (a1 + (a2 * r1)) a3) fun r2 =>
  (chk (okc S 1 a0)
  (bnd (f_X7_numberIn S (S.2.1 a0 2) x4) fun r3 =>
  (if (r2 &&& r3) = 0 then
  (chk (okc S 1 a0)
  (bnd (f_X7_numberIn S (S.2.1 a0 1) x4) fun r4 =>
  (if (r4 &&& (r2 ^^^ (-1))) = 0 then
  (k3 (x4 + 1))
  else (some 0))))
  else (some 0)))))))))
set_option maxRecDepth 100000 in
set_option maxHeartbeats 4000000 in
theorem w_X1_meetsDemands_B3 {X : CT} {g : GG} (C : CX X g cX1_meetsDemands RX1 (some .boolean) 6 rm_X1_meetsDemands) (S : St) (a0 : Nat) (a1 : Int32) (a2 : Int32) (a3 : Int32) (kx3 : Option Int32) (hkx3 : J X g (Qm X g aI (pK S)) (cw (0, 0)) 71 [] [] S (kx3)) : ∀ (n : Nat) (x4 : Int32), J X g (Qm X g aI (pK S)) (cw (0, 0)) 3 [(0, rv g a0), (1, .int a1), (2, .int a2), (3, .int a3), (4, .int x4)] [] S (wl1 (f_X1_meetsDemands_B3 S a0 a1 a2 a3 kx3) n x4) := by
  refine J.loop1 (lvf := fun (x4 : Int32) => [(0, rv g a0), (1, .int a1), (2, .int a2), (3, .int a3), (4, .int x4)]) (Sf := fun (x4 : Int32) => S) ?_
  intro k3 hk3 x4
  show J X g _ _ 3 [(0, rv g a0), (1, .int a1), (2, .int a2), (3, .int a3), (4, .int x4)] [] S (f_X1_meetsDemands_B3 S a0 a1 a2 a3 kx3 k3 x4)
  unfold f_X1_meetsDemands_B3
  refine J.iload (pc := 3) C dX1_meetsDemands_3 rfl ?_
  refine J.aload_n (pc := 5) C (x := a0) dX1_meetsDemands_5 rfl rfl ?_
  refine J.getI (pc := 6) C fl_RX1_66 rfl dX1_meetsDemands_6 ?_
  refine J.icmp_ge (pc := 9) C (tgt := 71) dX1_meetsDemands_9 rfl ?_ ?_
  · exact J.pick [] rfl hkx3
  · refine J.iload_n (pc := 12) C dX1_meetsDemands_12 rfl rfl ?_
    refine J.iload_n (pc := 13) C dX1_meetsDemands_13 rfl rfl ?_
    refine J.aload_n (pc := 14) C (x := a0) dX1_meetsDemands_14 rfl rfl ?_
    refine J.getR (pc := 15) C fl_RX1_9 rfl dX1_meetsDemands_15 ?_
    refine J.iload (pc := 18) C dX1_meetsDemands_18 rfl ?_
    refine J.snI (pc := 20) C ms_X7_numberIn wn_RX1_109 (fun l => c_X7_numberIn l g S (S.2.1 a0 0) x4) ⟨⟨Nat.zero_le _, Nat.zero_le _⟩, rfl, rfl⟩ rfl ⟨Nat.le_of_ble_eq_true rfl, Nat.le_of_ble_eq_true rfl⟩ rfl (cat_i (cat_i cat_n)) (Nat.le_of_ble_eq_true rfl) dX1_meetsDemands_20 (fun r1 => ?_)
    refine J.imul (pc := 23) C dX1_meetsDemands_23 ?_
    refine J.iadd (pc := 24) C dX1_meetsDemands_24 ?_
    refine J.iload_n (pc := 25) C dX1_meetsDemands_25 rfl rfl ?_
    refine J.snI (pc := 26) C ms_X7_columnsCovered wn_RX1_116 (fun l => c_X7_columnsCovered l g S (a1 + (a2 * r1)) a3) ⟨⟨Nat.zero_le _, Nat.zero_le _⟩, rfl, rfl⟩ rfl ⟨Nat.le_of_ble_eq_true rfl, Nat.le_of_ble_eq_true rfl⟩ rfl cat_n (Nat.le_of_ble_eq_true rfl) dX1_meetsDemands_26 (fun r2 => ?_)
    refine J.istore (pc := 29) C (lv' := [(0, rv g a0), (1, .int a1), (2, .int a2), (3, .int a3), (4, .int x4), (5, .int r2)]) dX1_meetsDemands_29 (Nat.le_of_ble_eq_true rfl) rfl ?_
    refine J.iload (pc := 31) C dX1_meetsDemands_31 rfl ?_
    refine J.aload_n (pc := 33) C (x := a0) dX1_meetsDemands_33 rfl rfl ?_
    refine J.getR (pc := 34) C fl_RX1_18 rfl dX1_meetsDemands_34 ?_
    refine J.iload (pc := 37) C dX1_meetsDemands_37 rfl ?_
    refine J.snI (pc := 39) C ms_X7_numberIn wn_RX1_109 (fun l => c_X7_numberIn l g S (S.2.1 a0 2) x4) ⟨⟨Nat.zero_le _, Nat.zero_le _⟩, rfl, rfl⟩ rfl ⟨Nat.le_of_ble_eq_true rfl, Nat.le_of_ble_eq_true rfl⟩ rfl (cat_i cat_n) (Nat.le_of_ble_eq_true rfl) dX1_meetsDemands_39 (fun r3 => ?_)
    refine J.iand (pc := 42) C dX1_meetsDemands_42 ?_
    refine J.if_ne (pc := 43) C (tgt := 63) dX1_meetsDemands_43 rfl ?_ ?_
    · refine J.iconst (pc := 63) C dX1_meetsDemands_63 ki_0 ?_
      exact J.zret (pc := 64) C rfl rfl rfl ⟨Nat.le_refl _, Nat.le_refl _⟩ dX1_meetsDemands_64
    · refine J.aload_n (pc := 46) C (x := a0) dX1_meetsDemands_46 rfl rfl ?_
      refine J.getR (pc := 47) C fl_RX1_15 rfl dX1_meetsDemands_47 ?_
      refine J.iload (pc := 50) C dX1_meetsDemands_50 rfl ?_
      refine J.snI (pc := 52) C ms_X7_numberIn wn_RX1_109 (fun l => c_X7_numberIn l g S (S.2.1 a0 1) x4) ⟨⟨Nat.zero_le _, Nat.zero_le _⟩, rfl, rfl⟩ rfl ⟨Nat.le_of_ble_eq_true rfl, Nat.le_of_ble_eq_true rfl⟩ rfl cat_n (Nat.le_of_ble_eq_true rfl) dX1_meetsDemands_52 (fun r4 => ?_)
      refine J.iload (pc := 55) C dX1_meetsDemands_55 rfl ?_
      refine J.iconst (pc := 57) C dX1_meetsDemands_57 ki_m1 ?_
      refine J.ixor (pc := 58) C dX1_meetsDemands_58 ?_
      refine J.iand (pc := 59) C dX1_meetsDemands_59 ?_
      refine J.if_eq (pc := 60) C (tgt := 65) dX1_meetsDemands_60 rfl ?_ ?_
      · refine J.iinc (pc := 65) C (lv' := [(0, rv g a0), (1, .int a1), (2, .int a2), (3, .int a3), (4, .int (x4 + 1)), (5, .int r2)]) dX1_meetsDemands_65 rfl (Nat.le_of_ble_eq_true rfl) ki_1 rfl ?_
        refine J.goto (pc := 68) C (tgt := 3) dX1_meetsDemands_68 rfl ?_
        exact J.pick [0, 1, 2, 3, 4] rfl (hk3 _)
      · refine J.iconst (pc := 63) C dX1_meetsDemands_63 ki_0 ?_
        exact J.zret (pc := 64) C rfl rfl rfl ⟨Nat.le_refl _, Nat.le_refl _⟩ dX1_meetsDemands_64
def f_X1_meetsDemands (S : St) (a0 : Nat) (a1 : Int32) (a2 : Int32) (a3 : Int32) : Option Int32 :=
  (wl1 (f_X1_meetsDemands_B3 S a0 a1 a2 a3 (some 1)) FU 0)
set_option maxRecDepth 100000 in
set_option maxHeartbeats 4000000 in
theorem c_X1_meetsDemands (l : Launch) (g : GG) (S : St) (a0 : Nat) (a1 : Int32) (a2 : Int32) (a3 : Int32) : Ct l yX1_meetsDemands cX1_meetsDemands 6 (some .boolean) rm_X1_meetsDemands g aI (pK S) [rv g a0, .int a1, .int a2, .int a3] S (f_X1_meetsDemands S a0 a1 a2 a3) := by
  refine Ct.mk (cf := cw (0, 0)) (by decide +kernel) (cat_r (cat_i (cat_i (cat_i cat_n)))) (Nat.le_of_ble_eq_true rfl) rfl ?_
  intro X hXl hin C
  show J X g _ _ 0 [(0, rv g a0), (1, .int a1), (2, .int a2), (3, .int a3)] [] S (f_X1_meetsDemands S a0 a1 a2 a3)
  unfold f_X1_meetsDemands
  refine J.iconst (pc := 0) C dX1_meetsDemands_0 ki_0 ?_
  refine J.istore (pc := 1) C (lv' := [(0, rv g a0), (1, .int a1), (2, .int a2), (3, .int a3), (4, .int 0)]) dX1_meetsDemands_1 (Nat.le_of_ble_eq_true rfl) rfl ?_
  refine w_X1_meetsDemands_B3 C _ _ _ _ _ _ ?_ FU _
  refine J.iconst (pc := 71) C dX1_meetsDemands_71 ki_1 ?_
  exact J.zret (pc := 72) C rfl rfl rfl ⟨Nat.le_refl _, Nat.le_refl _⟩ dX1_meetsDemands_72
abbrev rm_X1_run : Room := { frames := 5, cells := 0, slots := 0, locals := 129 }
def f_X1_run_B39 (a0 : Nat) (a3 : Nat) (a4 : Int32) (kx39 : St → Option St) (k39 : St → Int32 → Option St) (S : St) (x5 : Int32) : Option St :=
  (if (100 : Int32) < x5 then
  (kx39 S)
  else (chk (okc S 5 a3)
  (chk (okc S 1 a0) (bnd (f_X1_meetsDemands S a0 a4 x5 (S.1 a3 4)) fun r4 =>
  (if r4 = 0 then
  (k39 S (x5 + 10))
  else (chk (okc S 1 a0) (bnd (f_X1_keepMotion S a0 a4 x5) fun S_5 =>
  (k39 S_5 (x5 + 10)))))))))
set_option maxRecDepth 100000 in
set_option maxHeartbeats 4000000 in
theorem w_X1_run_B39 {X : CT} {g : GG} (C : CX X g cX1_run RX1 none 6 rm_X1_run) (a0 : Nat) (a3 : Nat) (a4 : Int32) (kx39 : St → Option St) (hkx39 : ∀ (S : St), J X g (Qm X g aU pU) (cw (0, 0)) 75 [(0, rv g a0), (3, rv g a3), (4, .int a4)] [] S (kx39 S)) : ∀ (n : Nat) (S : St) (x5 : Int32), J X g (Qm X g aU pU) (cw (0, 0)) 39 [(0, rv g a0), (3, rv g a3), (4, .int a4), (5, .int x5)] [] S (wl2 (f_X1_run_B39 a0 a3 a4 kx39) n S x5) := by
  refine J.loop2 (lvf := fun (S : St) (x5 : Int32) => [(0, rv g a0), (3, rv g a3), (4, .int a4), (5, .int x5)]) (Sf := fun (S : St) (x5 : Int32) => S) ?_
  intro k39 hk39 S x5
  show J X g _ _ 39 [(0, rv g a0), (3, rv g a3), (4, .int a4), (5, .int x5)] [] S (f_X1_run_B39 a0 a3 a4 kx39 k39 S x5)
  unfold f_X1_run_B39
  refine J.iload (pc := 39) C dX1_run_39 rfl ?_
  refine J.bipush (pc := 41) C dX1_run_41 kb_100 ?_
  refine J.icmp_gt (pc := 43) C (tgt := 75) dX1_run_43 rfl ?_ ?_
  · exact J.pick [0, 1, 2] rfl (hkx39 _)
  · refine J.aload_n (pc := 46) C (x := a0) dX1_run_46 rfl rfl ?_
    refine J.iload (pc := 47) C dX1_run_47 rfl ?_
    refine J.iload (pc := 49) C dX1_run_49 rfl ?_
    refine J.aload_n (pc := 51) C (x := a3) dX1_run_51 rfl rfl ?_
    refine J.getI (pc := 52) C fl_RX1_41 rfl dX1_run_52 ?_
    refine J.vI (pc := 55) C mv_X1_meetsDemands wm_RX1_46 (fun l => c_X1_meetsDemands l g S a0 a4 x5 (S.1 a3 4)) ⟨⟨Nat.zero_le _, Nat.zero_le _⟩, rfl, rfl⟩ rfl ⟨Nat.le_of_ble_eq_true rfl, Nat.le_of_ble_eq_true rfl⟩ rfl cat_n (Nat.le_of_ble_eq_true rfl) dX1_run_55 (fun r4 => ?_)
    refine J.if_eq (pc := 58) C (tgt := 69) dX1_run_58 rfl ?_ ?_
    · refine J.iinc (pc := 69) C (lv' := [(0, rv g a0), (3, rv g a3), (4, .int a4), (5, .int (x5 + 10))]) dX1_run_69 rfl (Nat.le_of_ble_eq_true rfl) ki_10 rfl ?_
      refine J.goto (pc := 72) C (tgt := 39) dX1_run_72 rfl ?_
      exact (hk39 _ _)
    · refine J.aload_n (pc := 61) C (x := a0) dX1_run_61 rfl rfl ?_
      refine J.iload (pc := 62) C dX1_run_62 rfl ?_
      refine J.iload (pc := 64) C dX1_run_64 rfl ?_
      refine J.vU (pc := 66) C mv_X1_keepMotion wm_RX1_50 (fun l => c_X1_keepMotion l g S a0 a4 x5) ⟨⟨Nat.zero_le _, Nat.zero_le _⟩, rfl, rfl⟩ rfl ⟨Nat.le_of_ble_eq_true rfl, Nat.le_of_ble_eq_true rfl⟩ rfl cat_n (Nat.le_of_ble_eq_true rfl) dX1_run_66 (fun S_5 => ?_)
      refine J.iinc (pc := 69) C (lv' := [(0, rv g a0), (3, rv g a3), (4, .int a4), (5, .int (x5 + 10))]) dX1_run_69 rfl (Nat.le_of_ble_eq_true rfl) ki_10 rfl ?_
      refine J.goto (pc := 72) C (tgt := 39) dX1_run_72 rfl ?_
      exact (hk39 _ _)
def f_X1_run_B27 (a0 : Nat) (a3 : Nat) (kx27 : St → Option St) (k27 : St → Int32 → Option St) (S : St) (x4 : Int32) : Option St :=
  (if (2400 : Int32) < x4 then
  (kx27 S)
  else (wl2 (f_X1_run_B39 a0 a3 x4 (fun (S_6 : St) => (k27 S_6 (x4 + 100)))) FU S (-100)))
set_option maxRecDepth 100000 in
set_option maxHeartbeats 4000000 in
theorem w_X1_run_B27 {X : CT} {g : GG} (C : CX X g cX1_run RX1 none 6 rm_X1_run) (a0 : Nat) (a3 : Nat) (kx27 : St → Option St) (hkx27 : ∀ (S : St), J X g (Qm X g aU pU) (cw (0, 0)) 81 [] [] S (kx27 S)) : ∀ (n : Nat) (S : St) (x4 : Int32), J X g (Qm X g aU pU) (cw (0, 0)) 27 [(0, rv g a0), (3, rv g a3), (4, .int x4)] [] S (wl2 (f_X1_run_B27 a0 a3 kx27) n S x4) := by
  refine J.loop2 (lvf := fun (S : St) (x4 : Int32) => [(0, rv g a0), (3, rv g a3), (4, .int x4)]) (Sf := fun (S : St) (x4 : Int32) => S) ?_
  intro k27 hk27 S x4
  show J X g _ _ 27 [(0, rv g a0), (3, rv g a3), (4, .int x4)] [] S (f_X1_run_B27 a0 a3 kx27 k27 S x4)
  unfold f_X1_run_B27
  refine J.iload (pc := 27) C dX1_run_27 rfl ?_
  refine J.sipush (pc := 29) C dX1_run_29 ks_2400 ?_
  refine J.icmp_gt (pc := 32) C (tgt := 81) dX1_run_32 rfl ?_ ?_
  · exact J.pick [] rfl (hkx27 _)
  · refine J.bipush (pc := 35) C dX1_run_35 kb_m100 ?_
    refine J.istore (pc := 37) C (lv' := [(0, rv g a0), (3, rv g a3), (4, .int x4), (5, .int (-100))]) dX1_run_37 (Nat.le_of_ble_eq_true rfl) rfl ?_
    refine w_X1_run_B39 C _ _ _ _ (fun S_6 => ?_) FU _ _
    refine J.iinc (pc := 75) C (lv' := [(0, rv g a0), (3, rv g a3), (4, .int (x4 + 100))]) dX1_run_75 rfl (Nat.le_of_ble_eq_true rfl) ki_100 rfl ?_
    refine J.goto (pc := 78) C (tgt := 27) dX1_run_78 rfl ?_
    exact (hk27 _ _)
def f_X1_run (S : St) (a0 : Nat) (a1 : Nat) (a2 : Int32) : Option St :=
  (chk (okc S 3 a1) (bnd (f_X3_thingAt S a1 a2) fun r1 =>
  (chk (okc S 1 a0) (vlt (upI S a0 6 0) fun S_2 =>
  (if r1 = 0 then
  (some S_2)
  else (chk (okc S_2 1 a0) (bnd (f_X1_gatherDemands S_2 a0 a1 a2) fun S_3 =>
  (wl2 (f_X1_run_B27 a0 r1 (fun (S_7 : St) => (some S_7))) FU S_3 (-1000)))))))))
set_option maxRecDepth 100000 in
set_option maxHeartbeats 4000000 in
theorem c_X1_run (l : Launch) (g : GG) (S : St) (a0 : Nat) (a1 : Nat) (a2 : Int32) : Ct l yX1_run cX1_run 6 none rm_X1_run g aU pU [rv g a0, rv g a1, .int a2] S (f_X1_run S a0 a1 a2) := by
  refine Ct.mk (cf := cw (0, 0)) (by decide +kernel) (cat_r (cat_r (cat_i cat_n))) (Nat.le_of_ble_eq_true rfl) rfl ?_
  intro X hXl hin C
  show J X g _ _ 0 [(0, rv g a0), (1, rv g a1), (2, .int a2)] [] S (f_X1_run S a0 a1 a2)
  unfold f_X1_run
  refine J.aload_n (pc := 0) C (x := a1) dX1_run_0 rfl rfl ?_
  refine J.iload_n (pc := 1) C dX1_run_1 rfl rfl ?_
  refine J.vR (pc := 2) C mv_X3_thingAt wm_RX1_27 (fun l => c_X3_thingAt l g S a1 a2) ⟨⟨Nat.zero_le _, Nat.zero_le _⟩, rfl, rfl⟩ rfl ⟨Nat.le_of_ble_eq_true rfl, Nat.le_of_ble_eq_true rfl⟩ rfl cat_n (Nat.le_of_ble_eq_true rfl) dX1_run_2 (fun r1 => ?_)
  refine J.astore_n (pc := 5) C (lv' := [(0, rv g a0), (1, rv g a1), (2, .int a2), (3, rv g r1)]) dX1_run_5 rfl (Nat.le_of_ble_eq_true rfl) rfl ?_
  refine J.aload_n (pc := 6) C (x := a0) dX1_run_6 rfl rfl ?_
  refine J.iconst (pc := 7) C dX1_run_7 ki_0 ?_
  refine J.putIs (pc := 8) C fl_RX1_33 rfl (fun r h => by cases h; rfl) rfl rfl dX1_run_8 (fun S_2 => ?_)
  refine J.aload_n (pc := 11) C (x := r1) dX1_run_11 rfl rfl ?_
  refine J.ifnonnull (pc := 12) C (tgt := 16) dX1_run_12 rfl ?_ ?_
  · refine J.aload_n (pc := 16) C (x := a0) dX1_run_16 rfl rfl ?_
    refine J.aload_n (pc := 17) C (x := a1) dX1_run_17 rfl rfl ?_
    refine J.iload_n (pc := 18) C dX1_run_18 rfl rfl ?_
    refine J.vU (pc := 19) C mv_X1_gatherDemands wm_RX1_37 (fun l => c_X1_gatherDemands l g S_2 a0 a1 a2) ⟨⟨Nat.zero_le _, Nat.zero_le _⟩, rfl, rfl⟩ rfl ⟨Nat.le_of_ble_eq_true rfl, Nat.le_of_ble_eq_true rfl⟩ rfl cat_n (Nat.le_of_ble_eq_true rfl) dX1_run_19 (fun S_3 => ?_)
    refine J.sipush (pc := 22) C dX1_run_22 ks_m1000 ?_
    refine J.istore (pc := 25) C (lv' := [(0, rv g a0), (1, rv g a1), (2, .int a2), (3, rv g r1), (4, .int (-1000))]) dX1_run_25 (Nat.le_of_ble_eq_true rfl) rfl ?_
    refine J.pick [0, 3, 4] rfl ?_
    refine w_X1_run_B27 C _ _ _ (fun S_7 => ?_) FU _ _
    exact J.vret (pc := 81) C rfl rfl ⟨Nat.le_refl _, Nat.le_refl _⟩ dX1_run_81
  · exact J.vret (pc := 15) C rfl rfl ⟨Nat.le_refl _, Nat.le_refl _⟩ dX1_run_15
abbrev rm_X7_motions : Room := { frames := 6, cells := 0, slots := 0, locals := 154 }
def f_X7_motions_J54 (S : St) (x0 : Nat) (x2 : Int32) : Option (Int32 × St) :=
  (chk (okc S 7 x0)
  (chk (okc S 1 (S.2.1 x0 5)) (bnd (f_X1_answer S (S.2.1 x0 5) x2) fun r4 =>
  (some (r4, S)))))
set_option maxRecDepth 100000 in
set_option maxHeartbeats 4000000 in
theorem w_X7_motions_J54 {X : CT} {g : GG} (C : CX X g cX7_motions RX7 (some .int) 3 rm_X7_motions) (S : St) (x0 : Nat) (x2 : Int32) : J X g (Qm X g aW pW) (cw (0, 0)) 54 [(0, rv g x0), (2, .int x2)] [] S (f_X7_motions_J54 S x0 x2) := by
  unfold f_X7_motions_J54
  refine J.aload_n (pc := 54) C (x := x0) dX7_motions_54 rfl rfl ?_
  refine J.getR (pc := 55) C fl_RX7_41 rfl dX7_motions_55 ?_
  refine J.iload_n (pc := 58) C dX7_motions_58 rfl rfl ?_
  refine J.vI (pc := 59) C mv_X1_answer wm_RX7_234 (fun l => c_X1_answer l g S (S.2.1 x0 5) x2) ⟨⟨Nat.zero_le _, Nat.zero_le _⟩, rfl, rfl⟩ rfl ⟨Nat.le_of_ble_eq_true rfl, Nat.le_of_ble_eq_true rfl⟩ rfl cat_n (Nat.le_of_ble_eq_true rfl) dX7_motions_59 (fun r4 => ?_)
  exact J.iret (pc := 62) C rfl rfl ⟨Nat.le_refl _, Nat.le_refl _⟩ dX7_motions_62
def f_X7_motions (S : St) (a0 : Nat) (a1 : Int32) (a2 : Int32) : Option (Int32 × St) :=
  (chk (okc S 7 a0)
  (chk (okc S 3 (S.2.1 a0 0)) (bnd (f_X3_thingAt S (S.2.1 a0 0) a1) fun r1 =>
  (if r1 = 0 then
  (some ((-10000001), S))
  else (bnd (f_X7_isWithin a2 0 4) fun r2 =>
  (if r2 = 0 then
  (some ((-10000001), S))
  else (chk (okc S 7 a0)
  (chk (okc S 7 a0)
  (chk (okc S 1 (S.2.1 a0 5)) (bnd (f_X1_run S (S.2.1 a0 5) (S.2.1 a0 0) a1) fun S_3 =>
  (if a2 ≤ 0 then
  (f_X7_motions_J54 S_3 a0 a2)
  else (chk (okc S_3 7 a0)
  (chk (okc S_3 1 (S_3.2.1 a0 5)) (bnd (f_X1_isVain S_3 (S_3.2.1 a0 5)) fun r5 =>
  (if r5 = 0 then
  (f_X7_motions_J54 S_3 a0 a2)
  else (some ((-10000004), S_3)))))))))))))))))
set_option maxRecDepth 100000 in
set_option maxHeartbeats 4000000 in
theorem c_X7_motions (l : Launch) (g : GG) (S : St) (a0 : Nat) (a1 : Int32) (a2 : Int32) : Ct l yX7_motions cX7_motions 3 (some .int) rm_X7_motions g aW pW [rv g a0, .int a1, .int a2] S (f_X7_motions S a0 a1 a2) := by
  refine Ct.mk (cf := cw (0, 0)) (by decide +kernel) (cat_r (cat_i (cat_i cat_n))) (Nat.le_of_ble_eq_true rfl) rfl ?_
  intro X hXl hin C
  show J X g _ _ 0 [(0, rv g a0), (1, .int a1), (2, .int a2)] [] S (f_X7_motions S a0 a1 a2)
  unfold f_X7_motions
  refine J.aload_n (pc := 0) C (x := a0) dX7_motions_0 rfl rfl ?_
  refine J.getR (pc := 1) C fl_RX7_12 rfl dX7_motions_1 ?_
  refine J.iload_n (pc := 4) C dX7_motions_4 rfl rfl ?_
  refine J.vR (pc := 5) C mv_X3_thingAt wm_RX7_98 (fun l => c_X3_thingAt l g S (S.2.1 a0 0) a1) ⟨⟨Nat.zero_le _, Nat.zero_le _⟩, rfl, rfl⟩ rfl ⟨Nat.le_of_ble_eq_true rfl, Nat.le_of_ble_eq_true rfl⟩ rfl cat_n (Nat.le_of_ble_eq_true rfl) dX7_motions_5 (fun r1 => ?_)
  refine J.ifnull (pc := 8) C (tgt := 20) dX7_motions_8 rfl ?_ ?_
  · refine J.ldc (pc := 20) C wc_RX7_60 dX7_motions_20 ?_
    exact J.iret (pc := 22) C rfl rfl ⟨Nat.le_refl _, Nat.le_refl _⟩ dX7_motions_22
  · refine J.iload_n (pc := 11) C dX7_motions_11 rfl rfl ?_
    refine J.iconst (pc := 12) C dX7_motions_12 ki_0 ?_
    refine J.iconst (pc := 13) C dX7_motions_13 ki_4 ?_
    refine J.sI (pc := 14) C ms_X7_isWithin wm_RX7_56 (fun l => c_X7_isWithin l g S a2 0 4) ⟨⟨Nat.zero_le _, Nat.zero_le _⟩, rfl, rfl⟩ rfl ⟨Nat.le_of_ble_eq_true rfl, Nat.le_of_ble_eq_true rfl⟩ rfl cat_n (Nat.le_of_ble_eq_true rfl) dX7_motions_14 (fun r2 => ?_)
    refine J.if_ne (pc := 17) C (tgt := 23) dX7_motions_17 rfl ?_ ?_
    · refine J.aload_n (pc := 23) C (x := a0) dX7_motions_23 rfl rfl ?_
      refine J.getR (pc := 24) C fl_RX7_41 rfl dX7_motions_24 ?_
      refine J.aload_n (pc := 27) C (x := a0) dX7_motions_27 rfl rfl ?_
      refine J.getR (pc := 28) C fl_RX7_12 rfl dX7_motions_28 ?_
      refine J.iload_n (pc := 31) C dX7_motions_31 rfl rfl ?_
      refine J.vU (pc := 32) C mv_X1_run wm_RX7_226 (fun l => c_X1_run l g S (S.2.1 a0 5) (S.2.1 a0 0) a1) ⟨⟨Nat.zero_le _, Nat.zero_le _⟩, rfl, rfl⟩ rfl ⟨Nat.le_of_ble_eq_true rfl, Nat.le_of_ble_eq_true rfl⟩ rfl cat_n (Nat.le_of_ble_eq_true rfl) dX7_motions_32 (fun S_3 => ?_)
      refine J.iload_n (pc := 35) C dX7_motions_35 rfl rfl ?_
      refine J.if_le (pc := 36) C (tgt := 54) dX7_motions_36 rfl ?_ ?_
      · exact J.pick [0, 2] rfl (w_X7_motions_J54 C _ _ _)
      · refine J.aload_n (pc := 39) C (x := a0) dX7_motions_39 rfl rfl ?_
        refine J.getR (pc := 40) C fl_RX7_41 rfl dX7_motions_40 ?_
        refine J.vI (pc := 43) C mv_X1_isVain wm_RX7_230 (fun l => c_X1_isVain l g S_3 (S_3.2.1 a0 5)) ⟨⟨Nat.zero_le _, Nat.zero_le _⟩, rfl, rfl⟩ rfl ⟨Nat.le_of_ble_eq_true rfl, Nat.le_of_ble_eq_true rfl⟩ rfl cat_n (Nat.le_of_ble_eq_true rfl) dX7_motions_43 (fun r5 => ?_)
        refine J.if_eq (pc := 46) C (tgt := 54) dX7_motions_46 rfl ?_ ?_
        · exact J.pick [0, 2] rfl (w_X7_motions_J54 C _ _ _)
        · refine J.ldc (pc := 49) C wc_RX7_163 dX7_motions_49 ?_
          refine J.goto (pc := 51) C (tgt := 62) dX7_motions_51 rfl ?_
          exact J.iret (pc := 62) C rfl rfl ⟨Nat.le_refl _, Nat.le_refl _⟩ dX7_motions_62
    · refine J.ldc (pc := 20) C wc_RX7_60 dX7_motions_20 ?_
      exact J.iret (pc := 22) C rfl rfl ⟨Nat.le_refl _, Nat.le_refl _⟩ dX7_motions_22
abbrev rm_X7_pass : Room := { frames := 4, cells := 0, slots := 0, locals := 88 }
def f_X7_pass (S : St) (a0 : Nat) (a1 : Int32) : Option (Int32 × St) :=
  (bnd (f_X7_isWithin a1 1 200) fun r1 =>
  (if r1 = 0 then
  (some ((-10000001), S))
  else (chk (okc S 7 a0)
  (chk (okc S 3 (S.2.1 a0 0))
  (if ((S.1 (S.2.1 a0 0) 6) + a1) ≤ 20000 then
  (chk (okc S 7 a0) (bnd (f_X7_recordState S a0) fun S_2 =>
  (chk (okc S_2 7 a0)
  (chk (okc S_2 3 (S_2.2.1 a0 0))
  (chk (okc S_2 3 (S_2.2.1 a0 0)) (vlt (upI S_2 (S_2.2.1 a0 0) 6 ((S_2.1 (S_2.2.1 a0 0) 6) + a1)) fun S_3 =>
  (chk (okc S_3 7 a0)
  (chk (okc S_3 3 (S_3.2.1 a0 0))
  (some (S_3.1 (S_3.2.1 a0 0) 6, S_3))))))))))
  else (some ((-10000003), S)))))))
set_option maxRecDepth 100000 in
set_option maxHeartbeats 4000000 in
theorem c_X7_pass (l : Launch) (g : GG) (S : St) (a0 : Nat) (a1 : Int32) : Ct l yX7_pass cX7_pass 2 (some .int) rm_X7_pass g aW pW [rv g a0, .int a1] S (f_X7_pass S a0 a1) := by
  refine Ct.mk (cf := cw (0, 0)) (by decide +kernel) (cat_r (cat_i cat_n)) (Nat.le_of_ble_eq_true rfl) rfl ?_
  intro X hXl hin C
  show J X g _ _ 0 [(0, rv g a0), (1, .int a1)] [] S (f_X7_pass S a0 a1)
  unfold f_X7_pass
  refine J.iload_n (pc := 0) C dX7_pass_0 rfl rfl ?_
  refine J.iconst (pc := 1) C dX7_pass_1 ki_1 ?_
  refine J.sipush (pc := 2) C dX7_pass_2 ks_200 ?_
  refine J.sI (pc := 5) C ms_X7_isWithin wm_RX7_56 (fun l => c_X7_isWithin l g S a1 1 200) ⟨⟨Nat.zero_le _, Nat.zero_le _⟩, rfl, rfl⟩ rfl ⟨Nat.le_of_ble_eq_true rfl, Nat.le_of_ble_eq_true rfl⟩ rfl cat_n (Nat.le_of_ble_eq_true rfl) dX7_pass_5 (fun r1 => ?_)
  refine J.if_ne (pc := 8) C (tgt := 14) dX7_pass_8 rfl ?_ ?_
  · refine J.aload_n (pc := 14) C (x := a0) dX7_pass_14 rfl rfl ?_
    refine J.getR (pc := 15) C fl_RX7_12 rfl dX7_pass_15 ?_
    refine J.getI (pc := 18) C fl_RX7_107 rfl dX7_pass_18 ?_
    refine J.iload_n (pc := 21) C dX7_pass_21 rfl rfl ?_
    refine J.iadd (pc := 22) C dX7_pass_22 ?_
    refine J.sipush (pc := 23) C dX7_pass_23 ks_20000 ?_
    refine J.icmp_le (pc := 26) C (tgt := 32) dX7_pass_26 rfl ?_ ?_
    · refine J.aload_n (pc := 32) C (x := a0) dX7_pass_32 rfl rfl ?_
      refine J.vU (pc := 33) C mv_X7_recordState wm_RX7_75 (fun l => c_X7_recordState l g S a0) ⟨⟨Nat.zero_le _, Nat.zero_le _⟩, rfl, rfl⟩ rfl ⟨Nat.le_of_ble_eq_true rfl, Nat.le_of_ble_eq_true rfl⟩ rfl cat_n (Nat.le_of_ble_eq_true rfl) dX7_pass_33 (fun S_2 => ?_)
      refine J.aload_n (pc := 36) C (x := a0) dX7_pass_36 rfl rfl ?_
      refine J.getR (pc := 37) C fl_RX7_12 rfl dX7_pass_37 ?_
      refine J.dup (pc := 40) C dX7_pass_40 (rv_cat g _) ?_
      refine J.getI (pc := 41) C fl_RX7_107 rfl dX7_pass_41 ?_
      refine J.iload_n (pc := 44) C dX7_pass_44 rfl rfl ?_
      refine J.iadd (pc := 45) C dX7_pass_45 ?_
      refine J.putIs (pc := 46) C fl_RX7_107 rfl (fun r h => by cases h; rfl) rfl rfl dX7_pass_46 (fun S_3 => ?_)
      refine J.aload_n (pc := 49) C (x := a0) dX7_pass_49 rfl rfl ?_
      refine J.getR (pc := 50) C fl_RX7_12 rfl dX7_pass_50 ?_
      refine J.getI (pc := 53) C fl_RX7_107 rfl dX7_pass_53 ?_
      exact J.iret (pc := 56) C rfl rfl ⟨Nat.le_refl _, Nat.le_refl _⟩ dX7_pass_56
    · refine J.ldc (pc := 29) C wc_RX7_93 dX7_pass_29 ?_
      exact J.iret (pc := 31) C rfl rfl ⟨Nat.le_refl _, Nat.le_refl _⟩ dX7_pass_31
  · refine J.ldc (pc := 11) C wc_RX7_60 dX7_pass_11 ?_
    exact J.iret (pc := 13) C rfl rfl ⟨Nat.le_refl _, Nat.le_refl _⟩ dX7_pass_13
abbrev rm_X7_darkPeriods : Room := { frames := 2, cells := 0, slots := 0, locals := 42 }
def f_X7_darkPeriods_B4 (S : St) (a0 : Nat) (a1 : Int32) (kx4 : Int32 → Option Int32) (k4 : Int32 → Int32 → Option Int32) (x2 : Int32) (x3 : Int32) : Option Int32 :=
  (if (20 : Int32) < x3 then
  (kx4 x2)
  else (chk (okc S 7 a0)
  (chk (okc S 3 (S.2.1 a0 0)) (bnd (f_X3_setting S (S.2.1 a0 0) 6) fun r1 =>
  (bnd (f_X7_isDark a1 x3 r1) fun r2 =>
  (if r2 = 0 then
  (k4 x2 (x3 + 1))
  else (k4 (x2 ||| (1 <<< (x3 &&& 31))) (x3 + 1))))))))
set_option maxRecDepth 100000 in
set_option maxHeartbeats 4000000 in
theorem w_X7_darkPeriods_B4 {X : CT} {g : GG} (C : CX X g cX7_darkPeriods RX7 (some .int) 4 rm_X7_darkPeriods) (S : St) (a0 : Nat) (a1 : Int32) (kx4 : Int32 → Option Int32) (hkx4 : ∀ (x2 : Int32), J X g (Qm X g aI (pK S)) (cw (0, 0)) 39 [(2, .int x2)] [] S (kx4 x2)) : ∀ (n : Nat) (x2 : Int32) (x3 : Int32), J X g (Qm X g aI (pK S)) (cw (0, 0)) 4 [(0, rv g a0), (1, .int a1), (2, .int x2), (3, .int x3)] [] S (wl2 (f_X7_darkPeriods_B4 S a0 a1 kx4) n x2 x3) := by
  refine J.loop2 (lvf := fun (x2 : Int32) (x3 : Int32) => [(0, rv g a0), (1, .int a1), (2, .int x2), (3, .int x3)]) (Sf := fun (x2 : Int32) (x3 : Int32) => S) ?_
  intro k4 hk4 x2 x3
  show J X g _ _ 4 [(0, rv g a0), (1, .int a1), (2, .int x2), (3, .int x3)] [] S (f_X7_darkPeriods_B4 S a0 a1 kx4 k4 x2 x3)
  unfold f_X7_darkPeriods_B4
  refine J.iload_n (pc := 4) C dX7_darkPeriods_4 rfl rfl ?_
  refine J.bipush (pc := 5) C dX7_darkPeriods_5 kb_20 ?_
  refine J.icmp_gt (pc := 7) C (tgt := 39) dX7_darkPeriods_7 rfl ?_ ?_
  · exact J.pick [2] rfl (hkx4 _)
  · refine J.iload_n (pc := 10) C dX7_darkPeriods_10 rfl rfl ?_
    refine J.iload_n (pc := 11) C dX7_darkPeriods_11 rfl rfl ?_
    refine J.aload_n (pc := 12) C (x := a0) dX7_darkPeriods_12 rfl rfl ?_
    refine J.getR (pc := 13) C fl_RX7_12 rfl dX7_darkPeriods_13 ?_
    refine J.bipush (pc := 16) C dX7_darkPeriods_16 kb_6 ?_
    refine J.vI (pc := 18) C mv_X3_setting wm_RX7_78 (fun l => c_X3_setting l g S (S.2.1 a0 0) 6) ⟨⟨Nat.zero_le _, Nat.zero_le _⟩, rfl, rfl⟩ rfl ⟨Nat.le_of_ble_eq_true rfl, Nat.le_of_ble_eq_true rfl⟩ rfl (cat_i (cat_i cat_n)) (Nat.le_of_ble_eq_true rfl) dX7_darkPeriods_18 (fun r1 => ?_)
    refine J.sI (pc := 21) C ms_X7_isDark wm_RX7_251 (fun l => c_X7_isDark l g S a1 x3 r1) ⟨⟨Nat.zero_le _, Nat.zero_le _⟩, rfl, rfl⟩ rfl ⟨Nat.le_of_ble_eq_true rfl, Nat.le_of_ble_eq_true rfl⟩ rfl cat_n (Nat.le_of_ble_eq_true rfl) dX7_darkPeriods_21 (fun r2 => ?_)
    refine J.if_eq (pc := 24) C (tgt := 33) dX7_darkPeriods_24 rfl ?_ ?_
    · refine J.iinc (pc := 33) C (lv' := [(0, rv g a0), (1, .int a1), (2, .int x2), (3, .int (x3 + 1))]) dX7_darkPeriods_33 rfl (Nat.le_of_ble_eq_true rfl) ki_1 rfl ?_
      refine J.goto (pc := 36) C (tgt := 4) dX7_darkPeriods_36 rfl ?_
      exact (hk4 _ _)
    · refine J.iload_n (pc := 27) C dX7_darkPeriods_27 rfl rfl ?_
      refine J.iconst (pc := 28) C dX7_darkPeriods_28 ki_1 ?_
      refine J.iload_n (pc := 29) C dX7_darkPeriods_29 rfl rfl ?_
      refine J.ishl (pc := 30) C dX7_darkPeriods_30 ?_
      refine J.ior (pc := 31) C dX7_darkPeriods_31 ?_
      refine J.istore_n (pc := 32) C (lv' := [(0, rv g a0), (1, .int a1), (2, .int (x2 ||| (1 <<< (x3 &&& 31)))), (3, .int x3)]) dX7_darkPeriods_32 rfl (Nat.le_of_ble_eq_true rfl) rfl ?_
      refine J.iinc (pc := 33) C (lv' := [(0, rv g a0), (1, .int a1), (2, .int (x2 ||| (1 <<< (x3 &&& 31)))), (3, .int (x3 + 1))]) dX7_darkPeriods_33 rfl (Nat.le_of_ble_eq_true rfl) ki_1 rfl ?_
      refine J.goto (pc := 36) C (tgt := 4) dX7_darkPeriods_36 rfl ?_
      exact (hk4 _ _)
def f_X7_darkPeriods (S : St) (a0 : Nat) (a1 : Int32) : Option Int32 :=
  (wl2 (f_X7_darkPeriods_B4 S a0 a1 (fun (y2_3 : Int32) => (some y2_3))) FU 0 0)
set_option maxRecDepth 100000 in
set_option maxHeartbeats 4000000 in
theorem c_X7_darkPeriods (l : Launch) (g : GG) (S : St) (a0 : Nat) (a1 : Int32) : Ct l yX7_darkPeriods cX7_darkPeriods 4 (some .int) rm_X7_darkPeriods g aI (pK S) [rv g a0, .int a1] S (f_X7_darkPeriods S a0 a1) := by
  refine Ct.mk (cf := cw (0, 0)) (by decide +kernel) (cat_r (cat_i cat_n)) (Nat.le_of_ble_eq_true rfl) rfl ?_
  intro X hXl hin C
  show J X g _ _ 0 [(0, rv g a0), (1, .int a1)] [] S (f_X7_darkPeriods S a0 a1)
  unfold f_X7_darkPeriods
  refine J.iconst (pc := 0) C dX7_darkPeriods_0 ki_0 ?_
  refine J.istore_n (pc := 1) C (lv' := [(0, rv g a0), (1, .int a1), (2, .int 0)]) dX7_darkPeriods_1 rfl (Nat.le_of_ble_eq_true rfl) rfl ?_
  refine J.iconst (pc := 2) C dX7_darkPeriods_2 ki_0 ?_
  refine J.istore_n (pc := 3) C (lv' := [(0, rv g a0), (1, .int a1), (2, .int 0), (3, .int 0)]) dX7_darkPeriods_3 rfl (Nat.le_of_ble_eq_true rfl) rfl ?_
  refine w_X7_darkPeriods_B4 C _ _ _ _ (fun y2_3 => ?_) FU _ _
  refine J.iload_n (pc := 39) C dX7_darkPeriods_39 rfl rfl ?_
  exact J.iret (pc := 40) C rfl rfl ⟨Nat.le_refl _, Nat.le_refl _⟩ dX7_darkPeriods_40
abbrev rm_X7_periodsFitting : Room := { frames := 4, cells := 0, slots := 0, locals := 98 }
def f_X7_periodsFitting_J67 (S : St) (a0 : Nat) (a1 : Nat) (kx5 : St → Int32 → Option (Int32 × St)) (k5 : St → Int32 → Int32 → Option (Int32 × St)) (x2 : Int32) (x3 : Int32) (x4 : Int32) (t0 : Int32) : Option (Int32 × St) :=
  (chk (okc S 7 a0) (bnd2 (f_X7_rowFits S a0 a1 x3 100) fun r8 S_9 =>
  (if r8 = 0 then
  (k5 S_9 (x2 &&& (t0 ||| 0)) (x3 + 1))
  else (k5 S_9 (x2 &&& (t0 ||| (x4 ^^^ (-1)))) (x3 + 1)))))
set_option maxRecDepth 100000 in
set_option maxHeartbeats 4000000 in
theorem w_X7_periodsFitting_J67 {X : CT} {g : GG} (C : CX X g cX7_periodsFitting RX7 (some .int) 7 rm_X7_periodsFitting) (S : St) (a0 : Nat) (a1 : Nat) (kx5 : St → Int32 → Option (Int32 × St)) (k5 : St → Int32 → Int32 → Option (Int32 × St)) (x2 : Int32) (x3 : Int32) (x4 : Int32) (t0 : Int32) (hkx5 : ∀ (S : St) (x2 : Int32), J X g (Qm X g aW pW) (cw (0, 0)) 104 [(2, .int x2)] [] S (kx5 S x2)) (hk5 : ∀ (S : St) (x2 : Int32) (x3 : Int32), J X g (Qm X g aW pW) (cw (0, 0)) 5 [(0, rv g a0), (1, rv g a1), (2, .int x2), (3, .int x3)] [] S (k5 S x2 x3)) : J X g (Qm X g aW pW) (cw (0, 0)) 67 [(0, rv g a0), (1, rv g a1), (2, .int x2), (3, .int x3), (4, .int x4)] [.int t0] S (f_X7_periodsFitting_J67 S a0 a1 kx5 k5 x2 x3 x4 t0) := by
  unfold f_X7_periodsFitting_J67
  refine J.istore (pc := 67) C (lv' := [(0, rv g a0), (1, rv g a1), (2, .int x2), (3, .int x3), (4, .int x4), (5, .int t0)]) dX7_periodsFitting_67 (Nat.le_of_ble_eq_true rfl) rfl ?_
  refine J.aload_n (pc := 69) C (x := a0) dX7_periodsFitting_69 rfl rfl ?_
  refine J.aload_n (pc := 70) C (x := a1) dX7_periodsFitting_70 rfl rfl ?_
  refine J.iload_n (pc := 71) C dX7_periodsFitting_71 rfl rfl ?_
  refine J.bipush (pc := 72) C dX7_periodsFitting_72 kb_100 ?_
  refine J.vW (pc := 74) C mv_X7_rowFits wm_RX7_244 (fun l => c_X7_rowFits l g S a0 a1 x3 100) ⟨⟨Nat.zero_le _, Nat.zero_le _⟩, rfl, rfl⟩ rfl ⟨Nat.le_of_ble_eq_true rfl, Nat.le_of_ble_eq_true rfl⟩ rfl cat_n (Nat.le_of_ble_eq_true rfl) dX7_periodsFitting_74 (fun r8 S_9 => ?_)
  refine J.if_eq (pc := 77) C (tgt := 87) dX7_periodsFitting_77 rfl ?_ ?_
  · refine J.iconst (pc := 87) C dX7_periodsFitting_87 ki_0 ?_
    refine J.istore (pc := 88) C (lv' := [(0, rv g a0), (1, rv g a1), (2, .int x2), (3, .int x3), (4, .int x4), (5, .int t0), (6, .int 0)]) dX7_periodsFitting_88 (Nat.le_of_ble_eq_true rfl) rfl ?_
    refine J.iload_n (pc := 90) C dX7_periodsFitting_90 rfl rfl ?_
    refine J.iload (pc := 91) C dX7_periodsFitting_91 rfl ?_
    refine J.iload (pc := 93) C dX7_periodsFitting_93 rfl ?_
    refine J.ior (pc := 95) C dX7_periodsFitting_95 ?_
    refine J.iand (pc := 96) C dX7_periodsFitting_96 ?_
    refine J.istore_n (pc := 97) C (lv' := [(0, rv g a0), (1, rv g a1), (2, .int (x2 &&& (t0 ||| 0))), (3, .int x3), (4, .int x4), (5, .int t0), (6, .int 0)]) dX7_periodsFitting_97 rfl (Nat.le_of_ble_eq_true rfl) rfl ?_
    refine J.iinc (pc := 98) C (lv' := [(0, rv g a0), (1, rv g a1), (2, .int (x2 &&& (t0 ||| 0))), (3, .int (x3 + 1)), (4, .int x4), (5, .int t0), (6, .int 0)]) dX7_periodsFitting_98 rfl (Nat.le_of_ble_eq_true rfl) ki_1 rfl ?_
    refine J.goto (pc := 101) C (tgt := 5) dX7_periodsFitting_101 rfl ?_
    exact J.pick [0, 1, 2, 3] rfl (hk5 _ _ _)
  · refine J.iload (pc := 80) C dX7_periodsFitting_80 rfl ?_
    refine J.iconst (pc := 82) C dX7_periodsFitting_82 ki_m1 ?_
    refine J.ixor (pc := 83) C dX7_periodsFitting_83 ?_
    refine J.goto (pc := 84) C (tgt := 88) dX7_periodsFitting_84 rfl ?_
    refine J.istore (pc := 88) C (lv' := [(0, rv g a0), (1, rv g a1), (2, .int x2), (3, .int x3), (4, .int x4), (5, .int t0), (6, .int (x4 ^^^ (-1)))]) dX7_periodsFitting_88 (Nat.le_of_ble_eq_true rfl) rfl ?_
    refine J.iload_n (pc := 90) C dX7_periodsFitting_90 rfl rfl ?_
    refine J.iload (pc := 91) C dX7_periodsFitting_91 rfl ?_
    refine J.iload (pc := 93) C dX7_periodsFitting_93 rfl ?_
    refine J.ior (pc := 95) C dX7_periodsFitting_95 ?_
    refine J.iand (pc := 96) C dX7_periodsFitting_96 ?_
    refine J.istore_n (pc := 97) C (lv' := [(0, rv g a0), (1, rv g a1), (2, .int (x2 &&& (t0 ||| (x4 ^^^ (-1))))), (3, .int x3), (4, .int x4), (5, .int t0), (6, .int (x4 ^^^ (-1)))]) dX7_periodsFitting_97 rfl (Nat.le_of_ble_eq_true rfl) rfl ?_
    refine J.iinc (pc := 98) C (lv' := [(0, rv g a0), (1, rv g a1), (2, .int (x2 &&& (t0 ||| (x4 ^^^ (-1))))), (3, .int (x3 + 1)), (4, .int x4), (5, .int t0), (6, .int (x4 ^^^ (-1)))]) dX7_periodsFitting_98 rfl (Nat.le_of_ble_eq_true rfl) ki_1 rfl ?_
    refine J.goto (pc := 101) C (tgt := 5) dX7_periodsFitting_101 rfl ?_
    exact J.pick [0, 1, 2, 3] rfl (hk5 _ _ _)
def f_X7_periodsFitting_B5 (a0 : Nat) (a1 : Nat) (kx5 : St → Int32 → Option (Int32 × St)) (k5 : St → Int32 → Int32 → Option (Int32 × St)) (S : St) (x2 : Int32) (x3 : Int32) : Option (Int32 × St) :=
  (chk (okc S 7 a0)
  (chk (okc S 3 (S.2.1 a0 0)) (bnd (f_X3_setting S (S.2.1 a0 0) 0) fun r1 =>
  (if r1 ≤ x3 then
  (kx5 S x2)
  else (chk (okc S 0 a1)
  (bnd (f_X7_holds (S.1 a1 1) x3) fun r2 =>
  (if r2 = 0 then
  (chk (okc S 7 a0)
  (chk (okc S 3 (S.2.1 a0 0)) (bnd (f_X3_timeOfRow S (S.2.1 a0 0) a1 x3) fun r3 =>
  (chk (okc S 7 a0) (bnd (f_X7_darkPeriods S a0 r3) fun r4 =>
  (chk (okc S 7 a0)
  (chk (okc S 3 (S.2.1 a0 0)) (bnd (f_X3_setting S (S.2.1 a0 0) 7) fun r5 =>
  (chk (okc S 7 a0) (bnd2 (f_X7_rowFits S a0 a1 x3 r5) fun r6 S_7 =>
  (if r6 = 0 then
  (f_X7_periodsFitting_J67 S_7 a0 a1 kx5 k5 x2 x3 r4 0)
  else (f_X7_periodsFitting_J67 S_7 a0 a1 kx5 k5 x2 x3 r4 r4))))))))))))
  else (k5 S x2 (x3 + 1)))))))))
set_option maxRecDepth 100000 in
set_option maxHeartbeats 4000000 in
theorem w_X7_periodsFitting_B5 {X : CT} {g : GG} (C : CX X g cX7_periodsFitting RX7 (some .int) 7 rm_X7_periodsFitting) (a0 : Nat) (a1 : Nat) (kx5 : St → Int32 → Option (Int32 × St)) (hkx5 : ∀ (S : St) (x2 : Int32), J X g (Qm X g aW pW) (cw (0, 0)) 104 [(2, .int x2)] [] S (kx5 S x2)) : ∀ (n : Nat) (S : St) (x2 : Int32) (x3 : Int32), J X g (Qm X g aW pW) (cw (0, 0)) 5 [(0, rv g a0), (1, rv g a1), (2, .int x2), (3, .int x3)] [] S (wl3 (f_X7_periodsFitting_B5 a0 a1 kx5) n S x2 x3) := by
  refine J.loop3 (lvf := fun (S : St) (x2 : Int32) (x3 : Int32) => [(0, rv g a0), (1, rv g a1), (2, .int x2), (3, .int x3)]) (Sf := fun (S : St) (x2 : Int32) (x3 : Int32) => S) ?_
  intro k5 hk5 S x2 x3
  show J X g _ _ 5 [(0, rv g a0), (1, rv g a1), (2, .int x2), (3, .int x3)] [] S (f_X7_periodsFitting_B5 a0 a1 kx5 k5 S x2 x3)
  unfold f_X7_periodsFitting_B5
  refine J.iload_n (pc := 5) C dX7_periodsFitting_5 rfl rfl ?_
  refine J.aload_n (pc := 6) C (x := a0) dX7_periodsFitting_6 rfl rfl ?_
  refine J.getR (pc := 7) C fl_RX7_12 rfl dX7_periodsFitting_7 ?_
  refine J.iconst (pc := 10) C dX7_periodsFitting_10 ki_0 ?_
  refine J.vI (pc := 11) C mv_X3_setting wm_RX7_78 (fun l => c_X3_setting l g S (S.2.1 a0 0) 0) ⟨⟨Nat.zero_le _, Nat.zero_le _⟩, rfl, rfl⟩ rfl ⟨Nat.le_of_ble_eq_true rfl, Nat.le_of_ble_eq_true rfl⟩ rfl (cat_i cat_n) (Nat.le_of_ble_eq_true rfl) dX7_periodsFitting_11 (fun r1 => ?_)
  refine J.icmp_ge (pc := 14) C (tgt := 104) dX7_periodsFitting_14 rfl ?_ ?_
  · exact J.pick [2] rfl (hkx5 _ _)
  · refine J.aload_n (pc := 17) C (x := a1) dX7_periodsFitting_17 rfl rfl ?_
    refine J.getI (pc := 18) C fl_RX7_158 rfl dX7_periodsFitting_18 ?_
    refine J.iload_n (pc := 21) C dX7_periodsFitting_21 rfl rfl ?_
    refine J.sI (pc := 22) C ms_X7_holds wm_RX7_122 (fun l => c_X7_holds l g S (S.1 a1 1) x3) ⟨⟨Nat.zero_le _, Nat.zero_le _⟩, rfl, rfl⟩ rfl ⟨Nat.le_of_ble_eq_true rfl, Nat.le_of_ble_eq_true rfl⟩ rfl cat_n (Nat.le_of_ble_eq_true rfl) dX7_periodsFitting_22 (fun r2 => ?_)
    refine J.if_ne (pc := 25) C (tgt := 98) dX7_periodsFitting_25 rfl ?_ ?_
    · refine J.iinc (pc := 98) C (lv' := [(0, rv g a0), (1, rv g a1), (2, .int x2), (3, .int (x3 + 1))]) dX7_periodsFitting_98 rfl (Nat.le_of_ble_eq_true rfl) ki_1 rfl ?_
      refine J.goto (pc := 101) C (tgt := 5) dX7_periodsFitting_101 rfl ?_
      exact (hk5 _ _ _)
    · refine J.aload_n (pc := 28) C (x := a0) dX7_periodsFitting_28 rfl rfl ?_
      refine J.aload_n (pc := 29) C (x := a0) dX7_periodsFitting_29 rfl rfl ?_
      refine J.getR (pc := 30) C fl_RX7_12 rfl dX7_periodsFitting_30 ?_
      refine J.aload_n (pc := 33) C (x := a1) dX7_periodsFitting_33 rfl rfl ?_
      refine J.iload_n (pc := 34) C dX7_periodsFitting_34 rfl rfl ?_
      refine J.vI (pc := 35) C mv_X3_timeOfRow wm_RX7_241 (fun l => c_X3_timeOfRow l g S (S.2.1 a0 0) a1 x3) ⟨⟨Nat.zero_le _, Nat.zero_le _⟩, rfl, rfl⟩ rfl ⟨Nat.le_of_ble_eq_true rfl, Nat.le_of_ble_eq_true rfl⟩ rfl (cat_r cat_n) (Nat.le_of_ble_eq_true rfl) dX7_periodsFitting_35 (fun r3 => ?_)
      refine J.vI (pc := 38) C mv_X7_darkPeriods wm_RX7_299 (fun l => c_X7_darkPeriods l g S a0 r3) ⟨⟨Nat.zero_le _, Nat.zero_le _⟩, rfl, rfl⟩ rfl ⟨Nat.le_of_ble_eq_true rfl, Nat.le_of_ble_eq_true rfl⟩ rfl cat_n (Nat.le_of_ble_eq_true rfl) dX7_periodsFitting_38 (fun r4 => ?_)
      refine J.istore (pc := 41) C (lv' := [(0, rv g a0), (1, rv g a1), (2, .int x2), (3, .int x3), (4, .int r4)]) dX7_periodsFitting_41 (Nat.le_of_ble_eq_true rfl) rfl ?_
      refine J.aload_n (pc := 43) C (x := a0) dX7_periodsFitting_43 rfl rfl ?_
      refine J.aload_n (pc := 44) C (x := a1) dX7_periodsFitting_44 rfl rfl ?_
      refine J.iload_n (pc := 45) C dX7_periodsFitting_45 rfl rfl ?_
      refine J.aload_n (pc := 46) C (x := a0) dX7_periodsFitting_46 rfl rfl ?_
      refine J.getR (pc := 47) C fl_RX7_12 rfl dX7_periodsFitting_47 ?_
      refine J.bipush (pc := 50) C dX7_periodsFitting_50 kb_7 ?_
      refine J.vI (pc := 52) C mv_X3_setting wm_RX7_78 (fun l => c_X3_setting l g S (S.2.1 a0 0) 7) ⟨⟨Nat.zero_le _, Nat.zero_le _⟩, rfl, rfl⟩ rfl ⟨Nat.le_of_ble_eq_true rfl, Nat.le_of_ble_eq_true rfl⟩ rfl (cat_i (cat_r (cat_r cat_n))) (Nat.le_of_ble_eq_true rfl) dX7_periodsFitting_52 (fun r5 => ?_)
      refine J.vW (pc := 55) C mv_X7_rowFits wm_RX7_244 (fun l => c_X7_rowFits l g S a0 a1 x3 r5) ⟨⟨Nat.zero_le _, Nat.zero_le _⟩, rfl, rfl⟩ rfl ⟨Nat.le_of_ble_eq_true rfl, Nat.le_of_ble_eq_true rfl⟩ rfl cat_n (Nat.le_of_ble_eq_true rfl) dX7_periodsFitting_55 (fun r6 S_7 => ?_)
      refine J.if_eq (pc := 58) C (tgt := 66) dX7_periodsFitting_58 rfl ?_ ?_
      · refine J.iconst (pc := 66) C dX7_periodsFitting_66 ki_0 ?_
        exact (w_X7_periodsFitting_J67 C _ _ _ _ _ _ _ _ _ hkx5 hk5)
      · refine J.iload (pc := 61) C dX7_periodsFitting_61 rfl ?_
        refine J.goto (pc := 63) C (tgt := 67) dX7_periodsFitting_63 rfl ?_
        exact (w_X7_periodsFitting_J67 C _ _ _ _ _ _ _ _ _ hkx5 hk5)
def f_X7_periodsFitting (S : St) (a0 : Nat) (a1 : Nat) : Option (Int32 × St) :=
  (wl3 (f_X7_periodsFitting_B5 a0 a1 (fun (S_11 : St) (y2_10 : Int32) => (some (y2_10, S_11)))) FU S 2097151 0)
set_option maxRecDepth 100000 in
set_option maxHeartbeats 4000000 in
theorem c_X7_periodsFitting (l : Launch) (g : GG) (S : St) (a0 : Nat) (a1 : Nat) : Ct l yX7_periodsFitting cX7_periodsFitting 7 (some .int) rm_X7_periodsFitting g aW pW [rv g a0, rv g a1] S (f_X7_periodsFitting S a0 a1) := by
  refine Ct.mk (cf := cw (0, 0)) (by decide +kernel) (cat_r (cat_r cat_n)) (Nat.le_of_ble_eq_true rfl) rfl ?_
  intro X hXl hin C
  show J X g _ _ 0 [(0, rv g a0), (1, rv g a1)] [] S (f_X7_periodsFitting S a0 a1)
  unfold f_X7_periodsFitting
  refine J.ldc (pc := 0) C wc_RX7_237 dX7_periodsFitting_0 ?_
  refine J.istore_n (pc := 2) C (lv' := [(0, rv g a0), (1, rv g a1), (2, .int 2097151)]) dX7_periodsFitting_2 rfl (Nat.le_of_ble_eq_true rfl) rfl ?_
  refine J.iconst (pc := 3) C dX7_periodsFitting_3 ki_0 ?_
  refine J.istore_n (pc := 4) C (lv' := [(0, rv g a0), (1, rv g a1), (2, .int 2097151), (3, .int 0)]) dX7_periodsFitting_4 rfl (Nat.le_of_ble_eq_true rfl) rfl ?_
  refine w_X7_periodsFitting_B5 C _ _ _ (fun S_11 y2_10 => ?_) FU _ _ _
  refine J.iload_n (pc := 104) C dX7_periodsFitting_104 rfl rfl ?_
  exact J.iret (pc := 105) C rfl rfl ⟨Nat.le_refl _, Nat.le_refl _⟩ dX7_periodsFitting_105
abbrev rm_X7_periods : Room := { frames := 5, cells := 0, slots := 0, locals := 124 }
def f_X7_periods_B5 (a0 : Nat) (kx5 : St → Int32 → Option (Int32 × St)) (k5 : St → Int32 → Int32 → Option (Int32 × St)) (S : St) (x1 : Int32) (x2 : Int32) : Option (Int32 × St) :=
  (chk (okc S 7 a0)
  (chk (okc S 3 (S.2.1 a0 0))
  (if (S.1 (S.2.1 a0 0) 4) ≤ x2 then
  (kx5 S x1)
  else (chk (okc S 7 a0)
  (chk (okc S 3 (S.2.1 a0 0)) (bnd (f_X3_frameAt S (S.2.1 a0 0) x2) fun r1 =>
  (if r1 = 0 then
  (k5 S x1 (x2 + 1))
  else (chk (okc S 7 a0) (bnd2 (f_X7_periodsFitting S a0 r1) fun r2 S_3 =>
  (k5 S_3 (x1 &&& r2) (x2 + 1)))))))))))
set_option maxRecDepth 100000 in
set_option maxHeartbeats 4000000 in
theorem w_X7_periods_B5 {X : CT} {g : GG} (C : CX X g cX7_periods RX7 (some .int) 4 rm_X7_periods) (a0 : Nat) (kx5 : St → Int32 → Option (Int32 × St)) (hkx5 : ∀ (S : St) (x1 : Int32), J X g (Qm X g aW pW) (cw (0, 0)) 43 [(1, .int x1)] [] S (kx5 S x1)) : ∀ (n : Nat) (S : St) (x1 : Int32) (x2 : Int32), J X g (Qm X g aW pW) (cw (0, 0)) 5 [(0, rv g a0), (1, .int x1), (2, .int x2)] [] S (wl3 (f_X7_periods_B5 a0 kx5) n S x1 x2) := by
  refine J.loop3 (lvf := fun (S : St) (x1 : Int32) (x2 : Int32) => [(0, rv g a0), (1, .int x1), (2, .int x2)]) (Sf := fun (S : St) (x1 : Int32) (x2 : Int32) => S) ?_
  intro k5 hk5 S x1 x2
  show J X g _ _ 5 [(0, rv g a0), (1, .int x1), (2, .int x2)] [] S (f_X7_periods_B5 a0 kx5 k5 S x1 x2)
  unfold f_X7_periods_B5
  refine J.iload_n (pc := 5) C dX7_periods_5 rfl rfl ?_
  refine J.aload_n (pc := 6) C (x := a0) dX7_periods_6 rfl rfl ?_
  refine J.getR (pc := 7) C fl_RX7_12 rfl dX7_periods_7 ?_
  refine J.getI (pc := 10) C fl_RX7_71 rfl dX7_periods_10 ?_
  refine J.icmp_ge (pc := 13) C (tgt := 43) dX7_periods_13 rfl ?_ ?_
  · exact J.pick [1] rfl (hkx5 _ _)
  · refine J.aload_n (pc := 16) C (x := a0) dX7_periods_16 rfl rfl ?_
    refine J.getR (pc := 17) C fl_RX7_12 rfl dX7_periods_17 ?_
    refine J.iload_n (pc := 20) C dX7_periods_20 rfl rfl ?_
    refine J.vR (pc := 21) C mv_X3_frameAt wm_RX7_149 (fun l => c_X3_frameAt l g S (S.2.1 a0 0) x2) ⟨⟨Nat.zero_le _, Nat.zero_le _⟩, rfl, rfl⟩ rfl ⟨Nat.le_of_ble_eq_true rfl, Nat.le_of_ble_eq_true rfl⟩ rfl cat_n (Nat.le_of_ble_eq_true rfl) dX7_periods_21 (fun r1 => ?_)
    refine J.astore_n (pc := 24) C (lv' := [(0, rv g a0), (1, .int x1), (2, .int x2), (3, rv g r1)]) dX7_periods_24 rfl (Nat.le_of_ble_eq_true rfl) rfl ?_
    refine J.aload_n (pc := 25) C (x := r1) dX7_periods_25 rfl rfl ?_
    refine J.ifnull (pc := 26) C (tgt := 37) dX7_periods_26 rfl ?_ ?_
    · refine J.iinc (pc := 37) C (lv' := [(0, rv g a0), (1, .int x1), (2, .int (x2 + 1)), (3, rv g r1)]) dX7_periods_37 rfl (Nat.le_of_ble_eq_true rfl) ki_1 rfl ?_
      refine J.goto (pc := 40) C (tgt := 5) dX7_periods_40 rfl ?_
      exact J.pick [0, 1, 2] rfl (hk5 _ _ _)
    · refine J.iload_n (pc := 29) C dX7_periods_29 rfl rfl ?_
      refine J.aload_n (pc := 30) C (x := a0) dX7_periods_30 rfl rfl ?_
      refine J.aload_n (pc := 31) C (x := r1) dX7_periods_31 rfl rfl ?_
      refine J.vW (pc := 32) C mv_X7_periodsFitting wm_RX7_238 (fun l => c_X7_periodsFitting l g S a0 r1) ⟨⟨Nat.zero_le _, Nat.zero_le _⟩, rfl, rfl⟩ rfl ⟨Nat.le_of_ble_eq_true rfl, Nat.le_of_ble_eq_true rfl⟩ rfl (cat_i cat_n) (Nat.le_of_ble_eq_true rfl) dX7_periods_32 (fun r2 S_3 => ?_)
      refine J.iand (pc := 35) C dX7_periods_35 ?_
      refine J.istore_n (pc := 36) C (lv' := [(0, rv g a0), (1, .int (x1 &&& r2)), (2, .int x2), (3, rv g r1)]) dX7_periods_36 rfl (Nat.le_of_ble_eq_true rfl) rfl ?_
      refine J.iinc (pc := 37) C (lv' := [(0, rv g a0), (1, .int (x1 &&& r2)), (2, .int (x2 + 1)), (3, rv g r1)]) dX7_periods_37 rfl (Nat.le_of_ble_eq_true rfl) ki_1 rfl ?_
      refine J.goto (pc := 40) C (tgt := 5) dX7_periods_40 rfl ?_
      exact J.pick [0, 1, 2] rfl (hk5 _ _ _)
def f_X7_periods (S : St) (a0 : Nat) : Option (Int32 × St) :=
  (wl3 (f_X7_periods_B5 a0 (fun (S_5 : St) (y1_4 : Int32) => (some (y1_4, S_5)))) FU S 2097151 0)
set_option maxRecDepth 100000 in
set_option maxHeartbeats 4000000 in
theorem c_X7_periods (l : Launch) (g : GG) (S : St) (a0 : Nat) : Ct l yX7_periods cX7_periods 4 (some .int) rm_X7_periods g aW pW [rv g a0] S (f_X7_periods S a0) := by
  refine Ct.mk (cf := cw (0, 0)) (by decide +kernel) (cat_r cat_n) (Nat.le_of_ble_eq_true rfl) rfl ?_
  intro X hXl hin C
  show J X g _ _ 0 [(0, rv g a0)] [] S (f_X7_periods S a0)
  unfold f_X7_periods
  refine J.ldc (pc := 0) C wc_RX7_237 dX7_periods_0 ?_
  refine J.istore_n (pc := 2) C (lv' := [(0, rv g a0), (1, .int 2097151)]) dX7_periods_2 rfl (Nat.le_of_ble_eq_true rfl) rfl ?_
  refine J.iconst (pc := 3) C dX7_periods_3 ki_0 ?_
  refine J.istore_n (pc := 4) C (lv' := [(0, rv g a0), (1, .int 2097151), (2, .int 0)]) dX7_periods_4 rfl (Nat.le_of_ble_eq_true rfl) rfl ?_
  refine w_X7_periods_B5 C _ _ (fun S_5 y1_4 => ?_) FU _ _ _
  refine J.iload_n (pc := 43) C dX7_periods_43 rfl rfl ?_
  exact J.iret (pc := 44) C rfl rfl ⟨Nat.le_refl _, Nat.le_refl _⟩ dX7_periods_44
abbrev rm_X7_pixel : Room := { frames := 3, cells := 0, slots := 0, locals := 64 }
def f_X7_pixel (S : St) (a0 : Nat) (a1 : Int32) (a2 : Int32) (a3 : Int32) : Option Int32 :=
  (chk (okc S 7 a0)
  (chk (okc S 3 (S.2.1 a0 0)) (bnd (f_X3_frameAt S (S.2.1 a0 0) a1) fun r1 =>
  (if r1 = 0 then
  (some (-10000001))
  else (chk (okc S 7 a0) (bnd (f_X7_isPlace S a0 a2 a3) fun r2 =>
  (if r2 = 0 then
  (some (-10000001))
  else (chk (okc S 0 r1)
  (bnd (f_X7_holds (S.1 r1 1) a2) fun r3 =>
  (if r3 = 0 then
  (chk (okc S 0 r1) (bnd (f_X0_pixelAt S r1 a2 a3) fun r4 =>
  (some r4)))
  else (some (-10000004))))))))))))
set_option maxRecDepth 100000 in
set_option maxHeartbeats 4000000 in
theorem c_X7_pixel (l : Launch) (g : GG) (S : St) (a0 : Nat) (a1 : Int32) (a2 : Int32) (a3 : Int32) : Ct l yX7_pixel cX7_pixel 5 (some .int) rm_X7_pixel g aI (pK S) [rv g a0, .int a1, .int a2, .int a3] S (f_X7_pixel S a0 a1 a2 a3) := by
  refine Ct.mk (cf := cw (0, 0)) (by decide +kernel) (cat_r (cat_i (cat_i (cat_i cat_n)))) (Nat.le_of_ble_eq_true rfl) rfl ?_
  intro X hXl hin C
  show J X g _ _ 0 [(0, rv g a0), (1, .int a1), (2, .int a2), (3, .int a3)] [] S (f_X7_pixel S a0 a1 a2 a3)
  unfold f_X7_pixel
  refine J.aload_n (pc := 0) C (x := a0) dX7_pixel_0 rfl rfl ?_
  refine J.getR (pc := 1) C fl_RX7_12 rfl dX7_pixel_1 ?_
  refine J.iload_n (pc := 4) C dX7_pixel_4 rfl rfl ?_
  refine J.vR (pc := 5) C mv_X3_frameAt wm_RX7_149 (fun l => c_X3_frameAt l g S (S.2.1 a0 0) a1) ⟨⟨Nat.zero_le _, Nat.zero_le _⟩, rfl, rfl⟩ rfl ⟨Nat.le_of_ble_eq_true rfl, Nat.le_of_ble_eq_true rfl⟩ rfl cat_n (Nat.le_of_ble_eq_true rfl) dX7_pixel_5 (fun r1 => ?_)
  refine J.astore (pc := 8) C (lv' := [(0, rv g a0), (1, .int a1), (2, .int a2), (3, .int a3), (4, rv g r1)]) dX7_pixel_8 (Nat.le_of_ble_eq_true rfl) rfl ?_
  refine J.aload (pc := 10) C (x := r1) dX7_pixel_10 rfl ?_
  refine J.ifnull (pc := 12) C (tgt := 24) dX7_pixel_12 rfl ?_ ?_
  · refine J.ldc (pc := 24) C wc_RX7_60 dX7_pixel_24 ?_
    exact J.iret (pc := 26) C rfl rfl ⟨Nat.le_refl _, Nat.le_refl _⟩ dX7_pixel_26
  · refine J.aload_n (pc := 15) C (x := a0) dX7_pixel_15 rfl rfl ?_
    refine J.iload_n (pc := 16) C dX7_pixel_16 rfl rfl ?_
    refine J.iload_n (pc := 17) C dX7_pixel_17 rfl rfl ?_
    refine J.vI (pc := 18) C mv_X7_isPlace wm_RX7_131 (fun l => c_X7_isPlace l g S a0 a2 a3) ⟨⟨Nat.zero_le _, Nat.zero_le _⟩, rfl, rfl⟩ rfl ⟨Nat.le_of_ble_eq_true rfl, Nat.le_of_ble_eq_true rfl⟩ rfl cat_n (Nat.le_of_ble_eq_true rfl) dX7_pixel_18 (fun r2 => ?_)
    refine J.if_ne (pc := 21) C (tgt := 27) dX7_pixel_21 rfl ?_ ?_
    · refine J.aload (pc := 27) C (x := r1) dX7_pixel_27 rfl ?_
      refine J.getI (pc := 29) C fl_RX7_158 rfl dX7_pixel_29 ?_
      refine J.iload_n (pc := 32) C dX7_pixel_32 rfl rfl ?_
      refine J.sI (pc := 33) C ms_X7_holds wm_RX7_122 (fun l => c_X7_holds l g S (S.1 r1 1) a2) ⟨⟨Nat.zero_le _, Nat.zero_le _⟩, rfl, rfl⟩ rfl ⟨Nat.le_of_ble_eq_true rfl, Nat.le_of_ble_eq_true rfl⟩ rfl cat_n (Nat.le_of_ble_eq_true rfl) dX7_pixel_33 (fun r3 => ?_)
      refine J.if_eq (pc := 36) C (tgt := 44) dX7_pixel_36 rfl ?_ ?_
      · refine J.aload (pc := 44) C (x := r1) dX7_pixel_44 rfl ?_
        refine J.iload_n (pc := 46) C dX7_pixel_46 rfl rfl ?_
        refine J.iload_n (pc := 47) C dX7_pixel_47 rfl rfl ?_
        refine J.vI (pc := 48) C mv_X0_pixelAt wm_RX7_164 (fun l => c_X0_pixelAt l g S r1 a2 a3) ⟨⟨Nat.zero_le _, Nat.zero_le _⟩, rfl, rfl⟩ rfl ⟨Nat.le_of_ble_eq_true rfl, Nat.le_of_ble_eq_true rfl⟩ rfl cat_n (Nat.le_of_ble_eq_true rfl) dX7_pixel_48 (fun r4 => ?_)
        exact J.iret (pc := 51) C rfl rfl ⟨Nat.le_refl _, Nat.le_refl _⟩ dX7_pixel_51
      · refine J.ldc (pc := 39) C wc_RX7_163 dX7_pixel_39 ?_
        refine J.goto (pc := 41) C (tgt := 51) dX7_pixel_41 rfl ?_
        exact J.iret (pc := 51) C rfl rfl ⟨Nat.le_refl _, Nat.le_refl _⟩ dX7_pixel_51
    · refine J.ldc (pc := 24) C wc_RX7_60 dX7_pixel_24 ?_
      exact J.iret (pc := 26) C rfl rfl ⟨Nat.le_refl _, Nat.le_refl _⟩ dX7_pixel_26
abbrev rm_X3_addThing : Room := { frames := 0, cells := 0, slots := 0, locals := 0 }
def f_X3_addThing (S : St) (a0 : Nat) (a1 : Int32) (a2 : Int32) (a3 : Int32) (a4 : Int32) (a5 : Int32) (a6 : Int32) : Option St :=
  (chk (okc S 3 a0)
  (if (S.1 a0 2) < 0 then
  (some S)
  else (chk (okc S 3 a0)
  (chk (okc S 3 a0)
  (chk (okc S 14 (S.2.1 a0 1))
  (if (S.1 a0 2) < (Int32.ofNat (ln (S.2.1 a0 1))) then
  (chk (okc S 3 a0)
  (chk (okc S 3 a0)
  (chk (ina S 14 (S.2.1 a0 1) (S.1 a0 2))
  (if (S.2.1 (S.2.1 a0 1) (S.1 a0 2).toNatClampNeg) = 0 then
  (some S)
  else (chk (okc S 5 (S.2.1 (S.2.1 a0 1) (S.1 a0 2).toNatClampNeg)) (vlt (upI S (S.2.1 (S.2.1 a0 1) (S.1 a0 2).toNatClampNeg) 0 a1) fun S_1 =>
  (chk (okc S_1 5 (S.2.1 (S.2.1 a0 1) (S.1 a0 2).toNatClampNeg)) (vlt (upI S_1 (S.2.1 (S.2.1 a0 1) (S.1 a0 2).toNatClampNeg) 1 a2) fun S_2 =>
  (chk (okc S_2 5 (S.2.1 (S.2.1 a0 1) (S.1 a0 2).toNatClampNeg)) (vlt (upI S_2 (S.2.1 (S.2.1 a0 1) (S.1 a0 2).toNatClampNeg) 2 a3) fun S_3 =>
  (chk (okc S_3 5 (S.2.1 (S.2.1 a0 1) (S.1 a0 2).toNatClampNeg)) (vlt (upI S_3 (S.2.1 (S.2.1 a0 1) (S.1 a0 2).toNatClampNeg) 3 a4) fun S_4 =>
  (chk (okc S_4 5 (S.2.1 (S.2.1 a0 1) (S.1 a0 2).toNatClampNeg)) (vlt (upI S_4 (S.2.1 (S.2.1 a0 1) (S.1 a0 2).toNatClampNeg) 4 a5) fun S_5 =>
  (chk (okc S_5 5 (S.2.1 (S.2.1 a0 1) (S.1 a0 2).toNatClampNeg)) (vlt (upI S_5 (S.2.1 (S.2.1 a0 1) (S.1 a0 2).toNatClampNeg) 5 a6) fun S_6 =>
  (chk (okc S_6 3 a0)
  (chk (okc S_6 3 a0) (vlt (upI S_6 a0 2 ((S_6.1 a0 2) + 1)) fun S_7 =>
  (some S_7))))))))))))))))))))
  else (some S)))))))
set_option maxRecDepth 100000 in
set_option maxHeartbeats 4000000 in
theorem c_X3_addThing (l : Launch) (g : GG) (S : St) (a0 : Nat) (a1 : Int32) (a2 : Int32) (a3 : Int32) (a4 : Int32) (a5 : Int32) (a6 : Int32) : Ct l yX3_addThing cX3_addThing 8 none rm_X3_addThing g aU pU [rv g a0, .int a1, .int a2, .int a3, .int a4, .int a5, .int a6] S (f_X3_addThing S a0 a1 a2 a3 a4 a5 a6) := by
  refine Ct.mk (cf := cw (0, 0)) (by decide +kernel) (cat_r (cat_i (cat_i (cat_i (cat_i (cat_i (cat_i cat_n))))))) (Nat.le_of_ble_eq_true rfl) rfl ?_
  intro X hXl hin C
  show J X g _ _ 0 [(0, rv g a0), (1, .int a1), (2, .int a2), (3, .int a3), (4, .int a4), (5, .int a5), (6, .int a6)] [] S (f_X3_addThing S a0 a1 a2 a3 a4 a5 a6)
  unfold f_X3_addThing
  refine J.aload_n (pc := 0) C (x := a0) dX3_addThing_0 rfl rfl ?_
  refine J.getI (pc := 1) C fl_RX3_56 rfl dX3_addThing_1 ?_
  refine J.if_lt (pc := 4) C (tgt := 19) dX3_addThing_4 rfl ?_ ?_
  · exact J.vret (pc := 19) C rfl rfl ⟨Nat.le_refl _, Nat.le_refl _⟩ dX3_addThing_19
  · refine J.aload_n (pc := 7) C (x := a0) dX3_addThing_7 rfl rfl ?_
    refine J.getI (pc := 8) C fl_RX3_56 rfl dX3_addThing_8 ?_
    refine J.aload_n (pc := 11) C (x := a0) dX3_addThing_11 rfl rfl ?_
    refine J.getR (pc := 12) C fl_RX3_17 rfl dX3_addThing_12 ?_
    refine J.alen (pc := 15) C 14 (by decide) dX3_addThing_15 ?_
    refine J.icmp_lt (pc := 16) C (tgt := 20) dX3_addThing_16 rfl ?_ ?_
    · refine J.aload_n (pc := 20) C (x := a0) dX3_addThing_20 rfl rfl ?_
      refine J.getR (pc := 21) C fl_RX3_17 rfl dX3_addThing_21 ?_
      refine J.aload_n (pc := 24) C (x := a0) dX3_addThing_24 rfl rfl ?_
      refine J.getI (pc := 25) C fl_RX3_56 rfl dX3_addThing_25 ?_
      refine J.aald (pc := 28) C 14 (by decide) (fun _ => rfl) rfl dX3_addThing_28 ?_
      refine J.astore (pc := 29) C (lv' := [(0, rv g a0), (1, .int a1), (2, .int a2), (3, .int a3), (4, .int a4), (5, .int a5), (6, .int a6), (7, rv g (S.2.1 (S.2.1 a0 1) (S.1 a0 2).toNatClampNeg))]) dX3_addThing_29 (Nat.le_of_ble_eq_true rfl) rfl ?_
      refine J.aload (pc := 31) C (x := S.2.1 (S.2.1 a0 1) (S.1 a0 2).toNatClampNeg) dX3_addThing_31 rfl ?_
      refine J.ifnonnull (pc := 33) C (tgt := 37) dX3_addThing_33 rfl ?_ ?_
      · refine J.aload (pc := 37) C (x := S.2.1 (S.2.1 a0 1) (S.1 a0 2).toNatClampNeg) dX3_addThing_37 rfl ?_
        refine J.iload_n (pc := 39) C dX3_addThing_39 rfl rfl ?_
        refine J.putIs (pc := 40) C fl_RX3_80 rfl (fun r h => by cases h; rfl) rfl rfl dX3_addThing_40 (fun S_1 => ?_)
        refine J.aload (pc := 43) C (x := S.2.1 (S.2.1 a0 1) (S.1 a0 2).toNatClampNeg) dX3_addThing_43 rfl ?_
        refine J.iload_n (pc := 45) C dX3_addThing_45 rfl rfl ?_
        refine J.putIs (pc := 46) C fl_RX3_83 rfl (fun r h => by cases h; rfl) rfl rfl dX3_addThing_46 (fun S_2 => ?_)
        refine J.aload (pc := 49) C (x := S.2.1 (S.2.1 a0 1) (S.1 a0 2).toNatClampNeg) dX3_addThing_49 rfl ?_
        refine J.iload_n (pc := 51) C dX3_addThing_51 rfl rfl ?_
        refine J.putIs (pc := 52) C fl_RX3_86 rfl (fun r h => by cases h; rfl) rfl rfl dX3_addThing_52 (fun S_3 => ?_)
        refine J.aload (pc := 55) C (x := S.2.1 (S.2.1 a0 1) (S.1 a0 2).toNatClampNeg) dX3_addThing_55 rfl ?_
        refine J.iload (pc := 57) C dX3_addThing_57 rfl ?_
        refine J.putIs (pc := 59) C fl_RX3_89 rfl (fun r h => by cases h; rfl) rfl rfl dX3_addThing_59 (fun S_4 => ?_)
        refine J.aload (pc := 62) C (x := S.2.1 (S.2.1 a0 1) (S.1 a0 2).toNatClampNeg) dX3_addThing_62 rfl ?_
        refine J.iload (pc := 64) C dX3_addThing_64 rfl ?_
        refine J.putIs (pc := 66) C fl_RX3_92 rfl (fun r h => by cases h; rfl) rfl rfl dX3_addThing_66 (fun S_5 => ?_)
        refine J.aload (pc := 69) C (x := S.2.1 (S.2.1 a0 1) (S.1 a0 2).toNatClampNeg) dX3_addThing_69 rfl ?_
        refine J.iload (pc := 71) C dX3_addThing_71 rfl ?_
        refine J.putIs (pc := 73) C fl_RX3_95 rfl (fun r h => by cases h; rfl) rfl rfl dX3_addThing_73 (fun S_6 => ?_)
        refine J.aload_n (pc := 76) C (x := a0) dX3_addThing_76 rfl rfl ?_
        refine J.dup (pc := 77) C dX3_addThing_77 (rv_cat g _) ?_
        refine J.getI (pc := 78) C fl_RX3_56 rfl dX3_addThing_78 ?_
        refine J.iconst (pc := 81) C dX3_addThing_81 ki_1 ?_
        refine J.iadd (pc := 82) C dX3_addThing_82 ?_
        refine J.putIs (pc := 83) C fl_RX3_56 rfl (fun r h => by cases h; rfl) rfl rfl dX3_addThing_83 (fun S_7 => ?_)
        exact J.vret (pc := 86) C rfl rfl ⟨Nat.le_refl _, Nat.le_refl _⟩ dX3_addThing_86
      · exact J.vret (pc := 36) C rfl rfl ⟨Nat.le_refl _, Nat.le_refl _⟩ dX3_addThing_36
    · exact J.vret (pc := 19) C rfl rfl ⟨Nat.le_refl _, Nat.le_refl _⟩ dX3_addThing_19
abbrev rm_X3_takeFrame : Room := { frames := 4, cells := 0, slots := 0, locals := 100 }
def f_X3_takeFrame_J17 (S : St) (x0 : Nat) (x1 : Nat) : Option St :=
  (chk (okc S 3 x0)
  (chk (okc S 3 x0) (vlt (upI S x0 5 ((S.1 x0 5) + 1)) fun S_1 =>
  (chk (okc S_1 3 x0)
  (chk (okc S_1 3 x0) (vlt (upI S_1 x0 4 ((S_1.1 x0 4) + 1)) fun S_2 =>
  (chk (okc S_2 3 x0)
  (chk (okc S_2 3 x0) (bnd (f_X3_frameAt S_2 x0 ((S_2.1 x0 4) - 1)) fun r3 =>
  (if r3 = 0 then
  (some S_2)
  else (chk (okc S_2 3 x0)
  (chk (okc S_2 3 x0) (bnd (f_X3_photograph S_2 x0 r3 (S_2.1 x0 6) x1) fun S_4 =>
  (some S_4))))))))))))))
set_option maxRecDepth 100000 in
set_option maxHeartbeats 4000000 in
theorem w_X3_takeFrame_J17 {X : CT} {g : GG} (C : CX X g cX3_takeFrame RX3 none 3 rm_X3_takeFrame) (S : St) (x0 : Nat) (x1 : Nat) : J X g (Qm X g aU pU) (cw (0, 0)) 17 [(0, rv g x0), (1, rv g x1)] [] S (f_X3_takeFrame_J17 S x0 x1) := by
  unfold f_X3_takeFrame_J17
  refine J.aload_n (pc := 17) C (x := x0) dX3_takeFrame_17 rfl rfl ?_
  refine J.dup (pc := 18) C dX3_takeFrame_18 (rv_cat g _) ?_
  refine J.getI (pc := 19) C fl_RX3_70 rfl dX3_takeFrame_19 ?_
  refine J.iconst (pc := 22) C dX3_takeFrame_22 ki_1 ?_
  refine J.iadd (pc := 23) C dX3_takeFrame_23 ?_
  refine J.putIs (pc := 24) C fl_RX3_70 rfl (fun r h => by cases h; rfl) rfl rfl dX3_takeFrame_24 (fun S_1 => ?_)
  refine J.aload_n (pc := 27) C (x := x0) dX3_takeFrame_27 rfl rfl ?_
  refine J.dup (pc := 28) C dX3_takeFrame_28 (rv_cat g _) ?_
  refine J.getI (pc := 29) C fl_RX3_67 rfl dX3_takeFrame_29 ?_
  refine J.iconst (pc := 32) C dX3_takeFrame_32 ki_1 ?_
  refine J.iadd (pc := 33) C dX3_takeFrame_33 ?_
  refine J.putIs (pc := 34) C fl_RX3_67 rfl (fun r h => by cases h; rfl) rfl rfl dX3_takeFrame_34 (fun S_2 => ?_)
  refine J.aload_n (pc := 37) C (x := x0) dX3_takeFrame_37 rfl rfl ?_
  refine J.aload_n (pc := 38) C (x := x0) dX3_takeFrame_38 rfl rfl ?_
  refine J.getI (pc := 39) C fl_RX3_67 rfl dX3_takeFrame_39 ?_
  refine J.iconst (pc := 42) C dX3_takeFrame_42 ki_1 ?_
  refine J.isub (pc := 43) C dX3_takeFrame_43 ?_
  refine J.vR (pc := 44) C mv_X3_frameAt wm_RX3_73 (fun l => c_X3_frameAt l g S_2 x0 ((S_2.1 x0 4) - 1)) ⟨⟨Nat.zero_le _, Nat.zero_le _⟩, rfl, rfl⟩ rfl ⟨Nat.le_of_ble_eq_true rfl, Nat.le_of_ble_eq_true rfl⟩ rfl cat_n (Nat.le_of_ble_eq_true rfl) dX3_takeFrame_44 (fun r3 => ?_)
  refine J.astore_n (pc := 47) C (lv' := [(0, rv g x0), (1, rv g x1), (2, rv g r3)]) dX3_takeFrame_47 rfl (Nat.le_of_ble_eq_true rfl) rfl ?_
  refine J.aload_n (pc := 48) C (x := r3) dX3_takeFrame_48 rfl rfl ?_
  refine J.ifnull (pc := 49) C (tgt := 62) dX3_takeFrame_49 rfl ?_ ?_
  · exact J.vret (pc := 62) C rfl rfl ⟨Nat.le_refl _, Nat.le_refl _⟩ dX3_takeFrame_62
  · refine J.aload_n (pc := 52) C (x := x0) dX3_takeFrame_52 rfl rfl ?_
    refine J.aload_n (pc := 53) C (x := r3) dX3_takeFrame_53 rfl rfl ?_
    refine J.aload_n (pc := 54) C (x := x0) dX3_takeFrame_54 rfl rfl ?_
    refine J.getI (pc := 55) C fl_RX3_49 rfl dX3_takeFrame_55 ?_
    refine J.aload_n (pc := 58) C (x := x1) dX3_takeFrame_58 rfl rfl ?_
    refine J.vU (pc := 59) C mv_X3_photograph wm_RX3_102 (fun l => c_X3_photograph l g S_2 x0 r3 (S_2.1 x0 6) x1) ⟨⟨Nat.zero_le _, Nat.zero_le _⟩, rfl, rfl⟩ rfl ⟨Nat.le_of_ble_eq_true rfl, Nat.le_of_ble_eq_true rfl⟩ rfl cat_n (Nat.le_of_ble_eq_true rfl) dX3_takeFrame_59 (fun S_4 => ?_)
    exact J.vret (pc := 62) C rfl rfl ⟨Nat.le_refl _, Nat.le_refl _⟩ dX3_takeFrame_62
def f_X3_takeFrame (S : St) (a0 : Nat) (a1 : Nat) : Option St :=
  (chk (okc S 3 a0)
  (chk (okc S 3 a0)
  (chk (okc S 12 (S.2.1 a0 3))
  (if (S.1 a0 4) < (Int32.ofNat (ln (S.2.1 a0 3))) then
  (f_X3_takeFrame_J17 S a0 a1)
  else (chk (okc S 3 a0) (bnd (f_X3_dropFrame S a0 0) fun S_5 =>
  (f_X3_takeFrame_J17 S_5 a0 a1)))))))
set_option maxRecDepth 100000 in
set_option maxHeartbeats 4000000 in
theorem c_X3_takeFrame (l : Launch) (g : GG) (S : St) (a0 : Nat) (a1 : Nat) : Ct l yX3_takeFrame cX3_takeFrame 3 none rm_X3_takeFrame g aU pU [rv g a0, rv g a1] S (f_X3_takeFrame S a0 a1) := by
  refine Ct.mk (cf := cw (0, 0)) (by decide +kernel) (cat_r (cat_r cat_n)) (Nat.le_of_ble_eq_true rfl) rfl ?_
  intro X hXl hin C
  show J X g _ _ 0 [(0, rv g a0), (1, rv g a1)] [] S (f_X3_takeFrame S a0 a1)
  unfold f_X3_takeFrame
  refine J.aload_n (pc := 0) C (x := a0) dX3_takeFrame_0 rfl rfl ?_
  refine J.getI (pc := 1) C fl_RX3_67 rfl dX3_takeFrame_1 ?_
  refine J.aload_n (pc := 4) C (x := a0) dX3_takeFrame_4 rfl rfl ?_
  refine J.getR (pc := 5) C fl_RX3_23 rfl dX3_takeFrame_5 ?_
  refine J.alen (pc := 8) C 12 (by decide) dX3_takeFrame_8 ?_
  refine J.icmp_lt (pc := 9) C (tgt := 17) dX3_takeFrame_9 rfl ?_ ?_
  · exact (w_X3_takeFrame_J17 C _ _ _)
  · refine J.aload_n (pc := 12) C (x := a0) dX3_takeFrame_12 rfl rfl ?_
    refine J.iconst (pc := 13) C dX3_takeFrame_13 ki_0 ?_
    refine J.vU (pc := 14) C mv_X3_dropFrame wm_RX3_98 (fun l => c_X3_dropFrame l g S a0 0) ⟨⟨Nat.zero_le _, Nat.zero_le _⟩, rfl, rfl⟩ rfl ⟨Nat.le_of_ble_eq_true rfl, Nat.le_of_ble_eq_true rfl⟩ rfl cat_n (Nat.le_of_ble_eq_true rfl) dX3_takeFrame_14 (fun S_5 => ?_)
    exact (w_X3_takeFrame_J17 C _ _ _)
abbrev rm_X2_perform : Room := { frames := 5, cells := 0, slots := 0, locals := 122 }
def f_X2_perform (S : St) (a0 : Nat) (a1 : Nat) (a2 : Nat) : Option St :=
  (chk (okc S 2 a0)
  (if (S.1 a0 0) = 116 then
  (chk (okc S 2 a0) (bnd (f_X2_numberAt S a0 0) fun r8 =>
  (chk (okc S 2 a0) (bnd (f_X2_numberAt S a0 1) fun r9 =>
  (chk (okc S 2 a0) (bnd (f_X2_numberAt S a0 2) fun r10 =>
  (chk (okc S 2 a0) (bnd (f_X2_numberAt S a0 3) fun r11 =>
  (chk (okc S 2 a0) (bnd (f_X2_numberAt S a0 4) fun r12 =>
  (chk (okc S 2 a0) (bnd (f_X2_numberAt S a0 5) fun r13 =>
  (chk (okc S 3 a1) (bnd (f_X3_addThing S a1 r8 r9 r10 r11 r12 r13) fun S_14 =>
  (some S_14)))))))))))))))
  else (chk (okc S 2 a0)
  (if (S.1 a0 0) = 103 then
  (chk (okc S 3 a1)
  (chk (okc S 2 a0) (bnd (f_X2_numberAt S a0 0) fun r6 =>
  (chk (okc S 3 a1) (vlt (upI S a1 6 ((S.1 a1 6) + r6)) fun S_7 =>
  (some S_7))))))
  else (chk (okc S 2 a0)
  (if (S.1 a0 0) = 115 then
  (chk (okc S 3 a1) (bnd (f_X3_takeFrame S a1 a2) fun S_5 =>
  (some S_5)))
  else (chk (okc S 2 a0)
  (if (S.1 a0 0) = 98 then
  (chk (okc S 3 a1)
  (chk (okc S 2 a0) (bnd (f_X2_numberAt S a0 0) fun r3 =>
  (chk (okc S 3 a1) (vlt (upI S a1 7 ((S.1 a1 7) ||| (1 <<< (r3 &&& 31)))) fun S_4 =>
  (some S_4))))))
  else (chk (okc S 2 a0)
  (if (S.1 a0 0) = 117 then
  (chk (okc S 3 a1)
  (chk (okc S 2 a0) (bnd (f_X2_numberAt S a0 0) fun r1 =>
  (chk (okc S 3 a1) (vlt (upI S a1 7 ((S.1 a1 7) &&& ((1 <<< (r1 &&& 31)) ^^^ (-1)))) fun S_2 =>
  (some S_2))))))
  else (some S)))))))))))
set_option maxRecDepth 100000 in
set_option maxHeartbeats 4000000 in
theorem c_X2_perform (l : Launch) (g : GG) (S : St) (a0 : Nat) (a1 : Nat) (a2 : Nat) : Ct l yX2_perform cX2_perform 3 none rm_X2_perform g aU pU [rv g a0, rv g a1, rv g a2] S (f_X2_perform S a0 a1 a2) := by
  refine Ct.mk (cf := cw (0, 0)) (by decide +kernel) (cat_r (cat_r (cat_r cat_n))) (Nat.le_of_ble_eq_true rfl) rfl ?_
  intro X hXl hin C
  show J X g _ _ 0 [(0, rv g a0), (1, rv g a1), (2, rv g a2)] [] S (f_X2_perform S a0 a1 a2)
  unfold f_X2_perform
  refine J.aload_n (pc := 0) C (x := a0) dX2_perform_0 rfl rfl ?_
  refine J.getI (pc := 1) C fl_RX2_21 rfl dX2_perform_1 ?_
  refine J.bipush (pc := 4) C dX2_perform_4 kb_116 ?_
  refine J.icmp_ne (pc := 6) C (tgt := 46) dX2_perform_6 rfl ?_ ?_
  · refine J.aload_n (pc := 46) C (x := a0) dX2_perform_46 rfl rfl ?_
    refine J.getI (pc := 47) C fl_RX2_21 rfl dX2_perform_47 ?_
    refine J.bipush (pc := 50) C dX2_perform_50 kb_103 ?_
    refine J.icmp_ne (pc := 52) C (tgt := 72) dX2_perform_52 rfl ?_ ?_
    · refine J.aload_n (pc := 72) C (x := a0) dX2_perform_72 rfl rfl ?_
      refine J.getI (pc := 73) C fl_RX2_21 rfl dX2_perform_73 ?_
      refine J.bipush (pc := 76) C dX2_perform_76 kb_115 ?_
      refine J.icmp_ne (pc := 78) C (tgt := 89) dX2_perform_78 rfl ?_ ?_
      · refine J.aload_n (pc := 89) C (x := a0) dX2_perform_89 rfl rfl ?_
        refine J.getI (pc := 90) C fl_RX2_21 rfl dX2_perform_90 ?_
        refine J.bipush (pc := 93) C dX2_perform_93 kb_98 ?_
        refine J.icmp_ne (pc := 95) C (tgt := 117) dX2_perform_95 rfl ?_ ?_
        · refine J.aload_n (pc := 117) C (x := a0) dX2_perform_117 rfl rfl ?_
          refine J.getI (pc := 118) C fl_RX2_21 rfl dX2_perform_118 ?_
          refine J.bipush (pc := 121) C dX2_perform_121 kb_117 ?_
          refine J.icmp_ne (pc := 123) C (tgt := 144) dX2_perform_123 rfl ?_ ?_
          · exact J.vret (pc := 144) C rfl rfl ⟨Nat.le_refl _, Nat.le_refl _⟩ dX2_perform_144
          · refine J.aload_n (pc := 126) C (x := a1) dX2_perform_126 rfl rfl ?_
            refine J.dup (pc := 127) C dX2_perform_127 (rv_cat g _) ?_
            refine J.getI (pc := 128) C fl_RX2_78 rfl dX2_perform_128 ?_
            refine J.iconst (pc := 131) C dX2_perform_131 ki_1 ?_
            refine J.aload_n (pc := 132) C (x := a0) dX2_perform_132 rfl rfl ?_
            refine J.iconst (pc := 133) C dX2_perform_133 ki_0 ?_
            refine J.vI (pc := 134) C mv_X2_numberAt wm_RX2_53 (fun l => c_X2_numberAt l g S a0 0) ⟨⟨Nat.zero_le _, Nat.zero_le _⟩, rfl, rfl⟩ rfl ⟨Nat.le_of_ble_eq_true rfl, Nat.le_of_ble_eq_true rfl⟩ rfl (cat_i (cat_i (cat_r cat_n))) (Nat.le_of_ble_eq_true rfl) dX2_perform_134 (fun r1 => ?_)
            refine J.ishl (pc := 137) C dX2_perform_137 ?_
            refine J.iconst (pc := 138) C dX2_perform_138 ki_m1 ?_
            refine J.ixor (pc := 139) C dX2_perform_139 ?_
            refine J.iand (pc := 140) C dX2_perform_140 ?_
            refine J.putIs (pc := 141) C fl_RX2_78 rfl (fun r h => by cases h; rfl) rfl rfl dX2_perform_141 (fun S_2 => ?_)
            exact J.vret (pc := 144) C rfl rfl ⟨Nat.le_refl _, Nat.le_refl _⟩ dX2_perform_144
        · refine J.aload_n (pc := 98) C (x := a1) dX2_perform_98 rfl rfl ?_
          refine J.dup (pc := 99) C dX2_perform_99 (rv_cat g _) ?_
          refine J.getI (pc := 100) C fl_RX2_78 rfl dX2_perform_100 ?_
          refine J.iconst (pc := 103) C dX2_perform_103 ki_1 ?_
          refine J.aload_n (pc := 104) C (x := a0) dX2_perform_104 rfl rfl ?_
          refine J.iconst (pc := 105) C dX2_perform_105 ki_0 ?_
          refine J.vI (pc := 106) C mv_X2_numberAt wm_RX2_53 (fun l => c_X2_numberAt l g S a0 0) ⟨⟨Nat.zero_le _, Nat.zero_le _⟩, rfl, rfl⟩ rfl ⟨Nat.le_of_ble_eq_true rfl, Nat.le_of_ble_eq_true rfl⟩ rfl (cat_i (cat_i (cat_r cat_n))) (Nat.le_of_ble_eq_true rfl) dX2_perform_106 (fun r3 => ?_)
          refine J.ishl (pc := 109) C dX2_perform_109 ?_
          refine J.ior (pc := 110) C dX2_perform_110 ?_
          refine J.putIs (pc := 111) C fl_RX2_78 rfl (fun r h => by cases h; rfl) rfl rfl dX2_perform_111 (fun S_4 => ?_)
          refine J.goto (pc := 114) C (tgt := 144) dX2_perform_114 rfl ?_
          exact J.vret (pc := 144) C rfl rfl ⟨Nat.le_refl _, Nat.le_refl _⟩ dX2_perform_144
      · refine J.aload_n (pc := 81) C (x := a1) dX2_perform_81 rfl rfl ?_
        refine J.aload_n (pc := 82) C (x := a2) dX2_perform_82 rfl rfl ?_
        refine J.vU (pc := 83) C mv_X3_takeFrame wm_RX2_74 (fun l => c_X3_takeFrame l g S a1 a2) ⟨⟨Nat.zero_le _, Nat.zero_le _⟩, rfl, rfl⟩ rfl ⟨Nat.le_of_ble_eq_true rfl, Nat.le_of_ble_eq_true rfl⟩ rfl cat_n (Nat.le_of_ble_eq_true rfl) dX2_perform_83 (fun S_5 => ?_)
        refine J.goto (pc := 86) C (tgt := 144) dX2_perform_86 rfl ?_
        exact J.vret (pc := 144) C rfl rfl ⟨Nat.le_refl _, Nat.le_refl _⟩ dX2_perform_144
    · refine J.aload_n (pc := 55) C (x := a1) dX2_perform_55 rfl rfl ?_
      refine J.dup (pc := 56) C dX2_perform_56 (rv_cat g _) ?_
      refine J.getI (pc := 57) C fl_RX2_71 rfl dX2_perform_57 ?_
      refine J.aload_n (pc := 60) C (x := a0) dX2_perform_60 rfl rfl ?_
      refine J.iconst (pc := 61) C dX2_perform_61 ki_0 ?_
      refine J.vI (pc := 62) C mv_X2_numberAt wm_RX2_53 (fun l => c_X2_numberAt l g S a0 0) ⟨⟨Nat.zero_le _, Nat.zero_le _⟩, rfl, rfl⟩ rfl ⟨Nat.le_of_ble_eq_true rfl, Nat.le_of_ble_eq_true rfl⟩ rfl (cat_i (cat_r cat_n)) (Nat.le_of_ble_eq_true rfl) dX2_perform_62 (fun r6 => ?_)
      refine J.iadd (pc := 65) C dX2_perform_65 ?_
      refine J.putIs (pc := 66) C fl_RX2_71 rfl (fun r h => by cases h; rfl) rfl rfl dX2_perform_66 (fun S_7 => ?_)
      refine J.goto (pc := 69) C (tgt := 144) dX2_perform_69 rfl ?_
      exact J.vret (pc := 144) C rfl rfl ⟨Nat.le_refl _, Nat.le_refl _⟩ dX2_perform_144
  · refine J.aload_n (pc := 9) C (x := a1) dX2_perform_9 rfl rfl ?_
    refine J.aload_n (pc := 10) C (x := a0) dX2_perform_10 rfl rfl ?_
    refine J.iconst (pc := 11) C dX2_perform_11 ki_0 ?_
    refine J.vI (pc := 12) C mv_X2_numberAt wm_RX2_53 (fun l => c_X2_numberAt l g S a0 0) ⟨⟨Nat.zero_le _, Nat.zero_le _⟩, rfl, rfl⟩ rfl ⟨Nat.le_of_ble_eq_true rfl, Nat.le_of_ble_eq_true rfl⟩ rfl (cat_r cat_n) (Nat.le_of_ble_eq_true rfl) dX2_perform_12 (fun r8 => ?_)
    refine J.aload_n (pc := 15) C (x := a0) dX2_perform_15 rfl rfl ?_
    refine J.iconst (pc := 16) C dX2_perform_16 ki_1 ?_
    refine J.vI (pc := 17) C mv_X2_numberAt wm_RX2_53 (fun l => c_X2_numberAt l g S a0 1) ⟨⟨Nat.zero_le _, Nat.zero_le _⟩, rfl, rfl⟩ rfl ⟨Nat.le_of_ble_eq_true rfl, Nat.le_of_ble_eq_true rfl⟩ rfl (cat_i (cat_r cat_n)) (Nat.le_of_ble_eq_true rfl) dX2_perform_17 (fun r9 => ?_)
    refine J.aload_n (pc := 20) C (x := a0) dX2_perform_20 rfl rfl ?_
    refine J.iconst (pc := 21) C dX2_perform_21 ki_2 ?_
    refine J.vI (pc := 22) C mv_X2_numberAt wm_RX2_53 (fun l => c_X2_numberAt l g S a0 2) ⟨⟨Nat.zero_le _, Nat.zero_le _⟩, rfl, rfl⟩ rfl ⟨Nat.le_of_ble_eq_true rfl, Nat.le_of_ble_eq_true rfl⟩ rfl (cat_i (cat_i (cat_r cat_n))) (Nat.le_of_ble_eq_true rfl) dX2_perform_22 (fun r10 => ?_)
    refine J.aload_n (pc := 25) C (x := a0) dX2_perform_25 rfl rfl ?_
    refine J.iconst (pc := 26) C dX2_perform_26 ki_3 ?_
    refine J.vI (pc := 27) C mv_X2_numberAt wm_RX2_53 (fun l => c_X2_numberAt l g S a0 3) ⟨⟨Nat.zero_le _, Nat.zero_le _⟩, rfl, rfl⟩ rfl ⟨Nat.le_of_ble_eq_true rfl, Nat.le_of_ble_eq_true rfl⟩ rfl (cat_i (cat_i (cat_i (cat_r cat_n)))) (Nat.le_of_ble_eq_true rfl) dX2_perform_27 (fun r11 => ?_)
    refine J.aload_n (pc := 30) C (x := a0) dX2_perform_30 rfl rfl ?_
    refine J.iconst (pc := 31) C dX2_perform_31 ki_4 ?_
    refine J.vI (pc := 32) C mv_X2_numberAt wm_RX2_53 (fun l => c_X2_numberAt l g S a0 4) ⟨⟨Nat.zero_le _, Nat.zero_le _⟩, rfl, rfl⟩ rfl ⟨Nat.le_of_ble_eq_true rfl, Nat.le_of_ble_eq_true rfl⟩ rfl (cat_i (cat_i (cat_i (cat_i (cat_r cat_n))))) (Nat.le_of_ble_eq_true rfl) dX2_perform_32 (fun r12 => ?_)
    refine J.aload_n (pc := 35) C (x := a0) dX2_perform_35 rfl rfl ?_
    refine J.iconst (pc := 36) C dX2_perform_36 ki_5 ?_
    refine J.vI (pc := 37) C mv_X2_numberAt wm_RX2_53 (fun l => c_X2_numberAt l g S a0 5) ⟨⟨Nat.zero_le _, Nat.zero_le _⟩, rfl, rfl⟩ rfl ⟨Nat.le_of_ble_eq_true rfl, Nat.le_of_ble_eq_true rfl⟩ rfl (cat_i (cat_i (cat_i (cat_i (cat_i (cat_r cat_n)))))) (Nat.le_of_ble_eq_true rfl) dX2_perform_37 (fun r13 => ?_)
    refine J.vU (pc := 40) C mv_X3_addThing wm_RX2_65 (fun l => c_X3_addThing l g S a1 r8 r9 r10 r11 r12 r13) ⟨⟨Nat.zero_le _, Nat.zero_le _⟩, rfl, rfl⟩ rfl ⟨Nat.le_of_ble_eq_true rfl, Nat.le_of_ble_eq_true rfl⟩ rfl cat_n (Nat.le_of_ble_eq_true rfl) dX2_perform_40 (fun S_14 => ?_)
    refine J.goto (pc := 43) C (tgt := 144) dX2_perform_43 rfl ?_
    exact J.vret (pc := 144) C rfl rfl ⟨Nat.le_refl _, Nat.le_refl _⟩ dX2_perform_144
abbrev rm_X7_play : Room := { frames := 6, cells := 0, slots := 0, locals := 144 }
def f_X7_play_B40 (a0 : Nat) (a1 : Nat) (kx40 : St → Option (Int32 × St)) (k40 : St → Int32 → Int32 → Option (Int32 × St)) (S : St) (x2 : Int32) (x3 : Int32) : Option (Int32 × St) :=
  (chk (okc S 7 a0)
  (chk (okc S 4 (S.2.1 a0 3))
  (if (S.1 (S.2.1 a0 3) 3) ≤ x3 then
  (kx40 S)
  else (chk (okc S 7 a0)
  (chk (okc S 2 a1) (bnd (f_X2_read S a1 (S.2.1 a0 3) x2) fun S_3 =>
  (chk (okc S_3 7 a0)
  (chk (okc S_3 7 a0)
  (chk (okc S_3 2 a1) (bnd (f_X2_perform S_3 a1 (S_3.2.1 a0 0) (S_3.2.1 a0 7)) fun S_4 =>
  (chk (okc S_4 2 a1)
  (k40 S_4 (S_4.1 a1 2) (x3 + 1)))))))))))))
set_option maxRecDepth 100000 in
set_option maxHeartbeats 4000000 in
theorem w_X7_play_B40 {X : CT} {g : GG} (C : CX X g cX7_play RX7 (some .int) 4 rm_X7_play) (a0 : Nat) (a1 : Nat) (kx40 : St → Option (Int32 × St)) (hkx40 : ∀ (S : St), J X g (Qm X g aW pW) (cw (0, 0)) 83 [(0, rv g a0)] [] S (kx40 S)) : ∀ (n : Nat) (S : St) (x2 : Int32) (x3 : Int32), J X g (Qm X g aW pW) (cw (0, 0)) 40 [(0, rv g a0), (1, rv g a1), (2, .int x2), (3, .int x3)] [] S (wl3 (f_X7_play_B40 a0 a1 kx40) n S x2 x3) := by
  refine J.loop3 (lvf := fun (S : St) (x2 : Int32) (x3 : Int32) => [(0, rv g a0), (1, rv g a1), (2, .int x2), (3, .int x3)]) (Sf := fun (S : St) (x2 : Int32) (x3 : Int32) => S) ?_
  intro k40 hk40 S x2 x3
  show J X g _ _ 40 [(0, rv g a0), (1, rv g a1), (2, .int x2), (3, .int x3)] [] S (f_X7_play_B40 a0 a1 kx40 k40 S x2 x3)
  unfold f_X7_play_B40
  refine J.iload_n (pc := 40) C dX7_play_40 rfl rfl ?_
  refine J.aload_n (pc := 41) C (x := a0) dX7_play_41 rfl rfl ?_
  refine J.getR (pc := 42) C fl_RX7_27 rfl dX7_play_42 ?_
  refine J.getI (pc := 45) C fl_RX7_280 rfl dX7_play_45 ?_
  refine J.icmp_ge (pc := 48) C (tgt := 83) dX7_play_48 rfl ?_ ?_
  · exact J.pick [0] rfl (hkx40 _)
  · refine J.aload_n (pc := 51) C (x := a1) dX7_play_51 rfl rfl ?_
    refine J.aload_n (pc := 52) C (x := a0) dX7_play_52 rfl rfl ?_
    refine J.getR (pc := 53) C fl_RX7_27 rfl dX7_play_53 ?_
    refine J.iload_n (pc := 56) C dX7_play_56 rfl rfl ?_
    refine J.vU (pc := 57) C mv_X2_read wm_RX7_283 (fun l => c_X2_read l g S a1 (S.2.1 a0 3) x2) ⟨⟨Nat.zero_le _, Nat.zero_le _⟩, rfl, rfl⟩ rfl ⟨Nat.le_of_ble_eq_true rfl, Nat.le_of_ble_eq_true rfl⟩ rfl cat_n (Nat.le_of_ble_eq_true rfl) dX7_play_57 (fun S_3 => ?_)
    refine J.aload_n (pc := 60) C (x := a1) dX7_play_60 rfl rfl ?_
    refine J.aload_n (pc := 61) C (x := a0) dX7_play_61 rfl rfl ?_
    refine J.getR (pc := 62) C fl_RX7_12 rfl dX7_play_62 ?_
    refine J.aload_n (pc := 65) C (x := a0) dX7_play_65 rfl rfl ?_
    refine J.getR (pc := 66) C fl_RX7_52 rfl dX7_play_66 ?_
    refine J.vU (pc := 69) C mv_X2_perform wm_RX7_289 (fun l => c_X2_perform l g S_3 a1 (S_3.2.1 a0 0) (S_3.2.1 a0 7)) ⟨⟨Nat.zero_le _, Nat.zero_le _⟩, rfl, rfl⟩ rfl ⟨Nat.le_of_ble_eq_true rfl, Nat.le_of_ble_eq_true rfl⟩ rfl cat_n (Nat.le_of_ble_eq_true rfl) dX7_play_69 (fun S_4 => ?_)
    refine J.aload_n (pc := 72) C (x := a1) dX7_play_72 rfl rfl ?_
    refine J.getI (pc := 73) C fl_RX7_293 rfl dX7_play_73 ?_
    refine J.istore_n (pc := 76) C (lv' := [(0, rv g a0), (1, rv g a1), (2, .int (S_4.1 a1 2)), (3, .int x3)]) dX7_play_76 rfl (Nat.le_of_ble_eq_true rfl) rfl ?_
    refine J.iinc (pc := 77) C (lv' := [(0, rv g a0), (1, rv g a1), (2, .int (S_4.1 a1 2)), (3, .int (x3 + 1))]) dX7_play_77 rfl (Nat.le_of_ble_eq_true rfl) ki_1 rfl ?_
    refine J.goto (pc := 80) C (tgt := 40) dX7_play_80 rfl ?_
    exact (hk40 _ _ _)
def f_X7_play (S : St) (a0 : Nat) : Option (Int32 × St) :=
  (chk (okc S 7 a0)
  (chk (okc S 7 a0)
  (chk (okc S 4 (S.2.1 a0 3)) (bnd (f_X4_examine S (S.2.1 a0 3) (S.2.1 a0 0)) fun S_1 =>
  (chk (okc S_1 7 a0)
  (chk (okc S_1 4 (S_1.2.1 a0 3))
  (if (S_1.1 (S_1.2.1 a0 3) 5) = 0 then
  (chk (okc S_1 7 a0) (bnd (f_X7_recordState S_1 a0) fun S_2 =>
  (chk (okc S_2 7 a0)
  (chk (okc S_2 4 (S_2.2.1 a0 3))
  (wl3 (f_X7_play_B40 a0 (S_2.2.1 (S_2.2.1 a0 3) 2) (fun (S_5 : St) => (chk (okc S_5 7 a0)
  (chk (okc S_5 4 (S_5.2.1 a0 3))
  (some (S_5.1 (S_5.2.1 a0 3) 3, S_5)))))) FU S_2 0 0)))))
  else (some ((-10000002), S_1)))))))))
set_option maxRecDepth 100000 in
set_option maxHeartbeats 4000000 in
theorem c_X7_play (l : Launch) (g : GG) (S : St) (a0 : Nat) : Ct l yX7_play cX7_play 4 (some .int) rm_X7_play g aW pW [rv g a0] S (f_X7_play S a0) := by
  refine Ct.mk (cf := cw (0, 0)) (by decide +kernel) (cat_r cat_n) (Nat.le_of_ble_eq_true rfl) rfl ?_
  intro X hXl hin C
  show J X g _ _ 0 [(0, rv g a0)] [] S (f_X7_play S a0)
  unfold f_X7_play
  refine J.aload_n (pc := 0) C (x := a0) dX7_play_0 rfl rfl ?_
  refine J.getR (pc := 1) C fl_RX7_27 rfl dX7_play_1 ?_
  refine J.aload_n (pc := 4) C (x := a0) dX7_play_4 rfl rfl ?_
  refine J.getR (pc := 5) C fl_RX7_12 rfl dX7_play_5 ?_
  refine J.vU (pc := 8) C mv_X4_examine wm_RX7_264 (fun l => c_X4_examine l g S (S.2.1 a0 3) (S.2.1 a0 0)) ⟨⟨Nat.zero_le _, Nat.zero_le _⟩, rfl, rfl⟩ rfl ⟨Nat.le_of_ble_eq_true rfl, Nat.le_of_ble_eq_true rfl⟩ rfl cat_n (Nat.le_of_ble_eq_true rfl) dX7_play_8 (fun S_1 => ?_)
  refine J.aload_n (pc := 11) C (x := a0) dX7_play_11 rfl rfl ?_
  refine J.getR (pc := 12) C fl_RX7_27 rfl dX7_play_12 ?_
  refine J.getI (pc := 15) C fl_RX7_267 rfl dX7_play_15 ?_
  refine J.if_eq (pc := 18) C (tgt := 24) dX7_play_18 rfl ?_ ?_
  · refine J.aload_n (pc := 24) C (x := a0) dX7_play_24 rfl rfl ?_
    refine J.vU (pc := 25) C mv_X7_recordState wm_RX7_75 (fun l => c_X7_recordState l g S_1 a0) ⟨⟨Nat.zero_le _, Nat.zero_le _⟩, rfl, rfl⟩ rfl ⟨Nat.le_of_ble_eq_true rfl, Nat.le_of_ble_eq_true rfl⟩ rfl cat_n (Nat.le_of_ble_eq_true rfl) dX7_play_25 (fun S_2 => ?_)
    refine J.aload_n (pc := 28) C (x := a0) dX7_play_28 rfl rfl ?_
    refine J.getR (pc := 29) C fl_RX7_27 rfl dX7_play_29 ?_
    refine J.getR (pc := 32) C fl_RX7_276 rfl dX7_play_32 ?_
    refine J.astore_n (pc := 35) C (lv' := [(0, rv g a0), (1, rv g (S_2.2.1 (S_2.2.1 a0 3) 2))]) dX7_play_35 rfl (Nat.le_of_ble_eq_true rfl) rfl ?_
    refine J.iconst (pc := 36) C dX7_play_36 ki_0 ?_
    refine J.istore_n (pc := 37) C (lv' := [(0, rv g a0), (1, rv g (S_2.2.1 (S_2.2.1 a0 3) 2)), (2, .int 0)]) dX7_play_37 rfl (Nat.le_of_ble_eq_true rfl) rfl ?_
    refine J.iconst (pc := 38) C dX7_play_38 ki_0 ?_
    refine J.istore_n (pc := 39) C (lv' := [(0, rv g a0), (1, rv g (S_2.2.1 (S_2.2.1 a0 3) 2)), (2, .int 0), (3, .int 0)]) dX7_play_39 rfl (Nat.le_of_ble_eq_true rfl) rfl ?_
    refine w_X7_play_B40 C _ _ _ (fun S_5 => ?_) FU _ _ _
    refine J.aload_n (pc := 83) C (x := a0) dX7_play_83 rfl rfl ?_
    refine J.getR (pc := 84) C fl_RX7_27 rfl dX7_play_84 ?_
    refine J.getI (pc := 87) C fl_RX7_280 rfl dX7_play_87 ?_
    exact J.iret (pc := 90) C rfl rfl ⟨Nat.le_refl _, Nat.le_refl _⟩ dX7_play_90
  · refine J.ldc (pc := 21) C wc_RX7_74 dX7_play_21 ?_
    exact J.iret (pc := 23) C rfl rfl ⟨Nat.le_refl _, Nat.le_refl _⟩ dX7_play_23
abbrev rm_X7_rowOf : Room := { frames := 2, cells := 0, slots := 0, locals := 42 }
def f_X7_rowOf_J82 (S : St) (x1 : Int32) (t0 : Nat) : Option Int32 :=
  (bnd (f_X7_numberIn S t0 x1) fun r3 =>
  (some r3))
set_option maxRecDepth 100000 in
set_option maxHeartbeats 4000000 in
theorem w_X7_rowOf_J82 {X : CT} {g : GG} (C : CX X g cX7_rowOf RX7 (some .int) 3 rm_X7_rowOf) (S : St) (x1 : Int32) (t0 : Nat) : J X g (Qm X g aI (pK S)) (cw (0, 0)) 82 [(1, .int x1)] [rv g t0] S (f_X7_rowOf_J82 S x1 t0) := by
  unfold f_X7_rowOf_J82
  refine J.iload_n (pc := 82) C dX7_rowOf_82 rfl rfl ?_
  refine J.sI (pc := 83) C ms_X7_numberIn wm_RX7_64 (fun l => c_X7_numberIn l g S t0 x1) ⟨⟨Nat.zero_le _, Nat.zero_le _⟩, rfl, rfl⟩ rfl ⟨Nat.le_of_ble_eq_true rfl, Nat.le_of_ble_eq_true rfl⟩ rfl cat_n (Nat.le_of_ble_eq_true rfl) dX7_rowOf_83 (fun r3 => ?_)
  exact J.iret (pc := 86) C rfl rfl ⟨Nat.le_refl _, Nat.le_refl _⟩ dX7_rowOf_86
def f_X7_rowOf (S : St) (a0 : Nat) (a1 : Int32) (a2 : Int32) : Option Int32 :=
  (bnd (f_X7_isWithin a1 0 9) fun r1 =>
  (if r1 = 0 then
  (some (-10000001))
  else (bnd (f_X7_isWithin a2 0 3) fun r2 =>
  (if r2 = 0 then
  (some (-10000001))
  else (if a2 = 0 then
  (chk (okc S 7 a0)
  (chk (okc S 3 (S.2.1 a0 0))
  (bnd (f_X7_holds (S.1 (S.2.1 a0 0) 7) a1) fun r5 =>
  (if r5 = 0 then
  (some 0)
  else (some 1)))))
  else (if a2 = 3 then
  (chk (okc S 7 a0)
  (chk (okc S 3 (S.2.1 a0 0)) (bnd (f_X3_weightOf S (S.2.1 a0 0) a1) fun r4 =>
  (some r4))))
  else (if a2 = 1 then
  (chk (okc S 7 a0)
  (chk (okc S 3 (S.2.1 a0 0))
  (f_X7_rowOf_J82 S a1 (S.2.1 (S.2.1 a0 0) 8))))
  else (chk (okc S 7 a0)
  (chk (okc S 3 (S.2.1 a0 0))
  (f_X7_rowOf_J82 S a1 (S.2.1 (S.2.1 a0 0) 9)))))))))))
set_option maxRecDepth 100000 in
set_option maxHeartbeats 4000000 in
theorem c_X7_rowOf (l : Launch) (g : GG) (S : St) (a0 : Nat) (a1 : Int32) (a2 : Int32) : Ct l yX7_rowOf cX7_rowOf 3 (some .int) rm_X7_rowOf g aI (pK S) [rv g a0, .int a1, .int a2] S (f_X7_rowOf S a0 a1 a2) := by
  refine Ct.mk (cf := cw (0, 0)) (by decide +kernel) (cat_r (cat_i (cat_i cat_n))) (Nat.le_of_ble_eq_true rfl) rfl ?_
  intro X hXl hin C
  show J X g _ _ 0 [(0, rv g a0), (1, .int a1), (2, .int a2)] [] S (f_X7_rowOf S a0 a1 a2)
  unfold f_X7_rowOf
  refine J.iload_n (pc := 0) C dX7_rowOf_0 rfl rfl ?_
  refine J.iconst (pc := 1) C dX7_rowOf_1 ki_0 ?_
  refine J.bipush (pc := 2) C dX7_rowOf_2 kb_9 ?_
  refine J.sI (pc := 4) C ms_X7_isWithin wm_RX7_56 (fun l => c_X7_isWithin l g S a1 0 9) ⟨⟨Nat.zero_le _, Nat.zero_le _⟩, rfl, rfl⟩ rfl ⟨Nat.le_of_ble_eq_true rfl, Nat.le_of_ble_eq_true rfl⟩ rfl cat_n (Nat.le_of_ble_eq_true rfl) dX7_rowOf_4 (fun r1 => ?_)
  refine J.if_eq (pc := 7) C (tgt := 19) dX7_rowOf_7 rfl ?_ ?_
  · refine J.ldc (pc := 19) C wc_RX7_60 dX7_rowOf_19 ?_
    exact J.iret (pc := 21) C rfl rfl ⟨Nat.le_refl _, Nat.le_refl _⟩ dX7_rowOf_21
  · refine J.iload_n (pc := 10) C dX7_rowOf_10 rfl rfl ?_
    refine J.iconst (pc := 11) C dX7_rowOf_11 ki_0 ?_
    refine J.iconst (pc := 12) C dX7_rowOf_12 ki_3 ?_
    refine J.sI (pc := 13) C ms_X7_isWithin wm_RX7_56 (fun l => c_X7_isWithin l g S a2 0 3) ⟨⟨Nat.zero_le _, Nat.zero_le _⟩, rfl, rfl⟩ rfl ⟨Nat.le_of_ble_eq_true rfl, Nat.le_of_ble_eq_true rfl⟩ rfl cat_n (Nat.le_of_ble_eq_true rfl) dX7_rowOf_13 (fun r2 => ?_)
    refine J.if_ne (pc := 16) C (tgt := 22) dX7_rowOf_16 rfl ?_ ?_
    · refine J.iload_n (pc := 22) C dX7_rowOf_22 rfl rfl ?_
      refine J.if_ne (pc := 23) C (tgt := 46) dX7_rowOf_23 rfl ?_ ?_
      · refine J.iload_n (pc := 46) C dX7_rowOf_46 rfl rfl ?_
        refine J.iconst (pc := 47) C dX7_rowOf_47 ki_3 ?_
        refine J.icmp_ne (pc := 48) C (tgt := 60) dX7_rowOf_48 rfl ?_ ?_
        · refine J.iload_n (pc := 60) C dX7_rowOf_60 rfl rfl ?_
          refine J.iconst (pc := 61) C dX7_rowOf_61 ki_1 ?_
          refine J.icmp_ne (pc := 62) C (tgt := 75) dX7_rowOf_62 rfl ?_ ?_
          · refine J.aload_n (pc := 75) C (x := a0) dX7_rowOf_75 rfl rfl ?_
            refine J.getR (pc := 76) C fl_RX7_12 rfl dX7_rowOf_76 ?_
            refine J.getR (pc := 79) C fl_RX7_207 rfl dX7_rowOf_79 ?_
            exact J.pick [1] rfl (w_X7_rowOf_J82 C _ _ _)
          · refine J.aload_n (pc := 65) C (x := a0) dX7_rowOf_65 rfl rfl ?_
            refine J.getR (pc := 66) C fl_RX7_12 rfl dX7_rowOf_66 ?_
            refine J.getR (pc := 69) C fl_RX7_204 rfl dX7_rowOf_69 ?_
            refine J.goto (pc := 72) C (tgt := 82) dX7_rowOf_72 rfl ?_
            exact J.pick [1] rfl (w_X7_rowOf_J82 C _ _ _)
        · refine J.aload_n (pc := 51) C (x := a0) dX7_rowOf_51 rfl rfl ?_
          refine J.getR (pc := 52) C fl_RX7_12 rfl dX7_rowOf_52 ?_
          refine J.iload_n (pc := 55) C dX7_rowOf_55 rfl rfl ?_
          refine J.vI (pc := 56) C mv_X3_weightOf wm_RX7_201 (fun l => c_X3_weightOf l g S (S.2.1 a0 0) a1) ⟨⟨Nat.zero_le _, Nat.zero_le _⟩, rfl, rfl⟩ rfl ⟨Nat.le_of_ble_eq_true rfl, Nat.le_of_ble_eq_true rfl⟩ rfl cat_n (Nat.le_of_ble_eq_true rfl) dX7_rowOf_56 (fun r4 => ?_)
          exact J.iret (pc := 59) C rfl rfl ⟨Nat.le_refl _, Nat.le_refl _⟩ dX7_rowOf_59
      · refine J.aload_n (pc := 26) C (x := a0) dX7_rowOf_26 rfl rfl ?_
        refine J.getR (pc := 27) C fl_RX7_12 rfl dX7_rowOf_27 ?_
        refine J.getI (pc := 30) C fl_RX7_119 rfl dX7_rowOf_30 ?_
        refine J.iload_n (pc := 33) C dX7_rowOf_33 rfl rfl ?_
        refine J.sI (pc := 34) C ms_X7_holds wm_RX7_122 (fun l => c_X7_holds l g S (S.1 (S.2.1 a0 0) 7) a1) ⟨⟨Nat.zero_le _, Nat.zero_le _⟩, rfl, rfl⟩ rfl ⟨Nat.le_of_ble_eq_true rfl, Nat.le_of_ble_eq_true rfl⟩ rfl cat_n (Nat.le_of_ble_eq_true rfl) dX7_rowOf_34 (fun r5 => ?_)
        refine J.if_eq (pc := 37) C (tgt := 44) dX7_rowOf_37 rfl ?_ ?_
        · refine J.iconst (pc := 44) C dX7_rowOf_44 ki_0 ?_
          exact J.iret (pc := 45) C rfl rfl ⟨Nat.le_refl _, Nat.le_refl _⟩ dX7_rowOf_45
        · refine J.iconst (pc := 40) C dX7_rowOf_40 ki_1 ?_
          refine J.goto (pc := 41) C (tgt := 45) dX7_rowOf_41 rfl ?_
          exact J.iret (pc := 45) C rfl rfl ⟨Nat.le_refl _, Nat.le_refl _⟩ dX7_rowOf_45
    · refine J.ldc (pc := 19) C wc_RX7_60 dX7_rowOf_19 ?_
      exact J.iret (pc := 21) C rfl rfl ⟨Nat.le_refl _, Nat.le_refl _⟩ dX7_rowOf_21
abbrev rm_X3_changeSetting : Room := { frames := 0, cells := 0, slots := 0, locals := 0 }
def f_X3_changeSetting (S : St) (a0 : Nat) (a1 : Int32) (a2 : Int32) : Option St :=
  (if a1 < 0 then
  (some S)
  else (chk (okc S 3 a0)
  (chk (okc S 10 (S.2.1 a0 0))
  (if (Int32.ofNat (ln (S.2.1 a0 0))) ≤ a1 then
  (some S)
  else (chk (okc S 3 a0)
  (chk (inw S 10 (S.2.1 a0 0) a1) (vlt (upI S (S.2.1 a0 0) a1.toNatClampNeg a2) fun S_1 =>
  (some S_1))))))))
set_option maxRecDepth 100000 in
set_option maxHeartbeats 4000000 in
theorem c_X3_changeSetting (l : Launch) (g : GG) (S : St) (a0 : Nat) (a1 : Int32) (a2 : Int32) : Ct l yX3_changeSetting cX3_changeSetting 3 none rm_X3_changeSetting g aU pU [rv g a0, .int a1, .int a2] S (f_X3_changeSetting S a0 a1 a2) := by
  refine Ct.mk (cf := cw (0, 0)) (by decide +kernel) (cat_r (cat_i (cat_i cat_n))) (Nat.le_of_ble_eq_true rfl) rfl ?_
  intro X hXl hin C
  show J X g _ _ 0 [(0, rv g a0), (1, .int a1), (2, .int a2)] [] S (f_X3_changeSetting S a0 a1 a2)
  unfold f_X3_changeSetting
  refine J.iload_n (pc := 0) C dX3_changeSetting_0 rfl rfl ?_
  refine J.if_lt (pc := 1) C (tgt := 20) dX3_changeSetting_1 rfl ?_ ?_
  · exact J.vret (pc := 20) C rfl rfl ⟨Nat.le_refl _, Nat.le_refl _⟩ dX3_changeSetting_20
  · refine J.iload_n (pc := 4) C dX3_changeSetting_4 rfl rfl ?_
    refine J.aload_n (pc := 5) C (x := a0) dX3_changeSetting_5 rfl rfl ?_
    refine J.getR (pc := 6) C fl_RX3_9 rfl dX3_changeSetting_6 ?_
    refine J.alen (pc := 9) C 10 (by decide) dX3_changeSetting_9 ?_
    refine J.icmp_ge (pc := 10) C (tgt := 20) dX3_changeSetting_10 rfl ?_ ?_
    · exact J.vret (pc := 20) C rfl rfl ⟨Nat.le_refl _, Nat.le_refl _⟩ dX3_changeSetting_20
    · refine J.aload_n (pc := 13) C (x := a0) dX3_changeSetting_13 rfl rfl ?_
      refine J.getR (pc := 14) C fl_RX3_9 rfl dX3_changeSetting_14 ?_
      refine J.iload_n (pc := 17) C dX3_changeSetting_17 rfl rfl ?_
      refine J.iload_n (pc := 18) C dX3_changeSetting_18 rfl rfl ?_
      refine J.iasts (pc := 19) C dX3_changeSetting_19 (fun S_1 => ?_)
      exact J.vret (pc := 20) C rfl rfl ⟨Nat.le_refl _, Nat.le_refl _⟩ dX3_changeSetting_20
abbrev rm_X7_set : Room := { frames := 4, cells := 0, slots := 0, locals := 88 }
def f_X7_set_J55 (S : St) (x0 : Nat) (x1 : Int32) (x2 : Int32) : Option (Int32 × St) :=
  (chk (okc S 7 x0) (bnd (f_X7_recordState S x0) fun S_5 =>
  (chk (okc S_5 7 x0)
  (chk (okc S_5 3 (S_5.2.1 x0 0)) (bnd (f_X3_setting S_5 (S_5.2.1 x0 0) x1) fun r6 =>
  (chk (okc S_5 7 x0)
  (chk (okc S_5 3 (S_5.2.1 x0 0)) (bnd (f_X3_changeSetting S_5 (S_5.2.1 x0 0) x1 x2) fun S_7 =>
  (some (r6, S_7))))))))))
set_option maxRecDepth 100000 in
set_option maxHeartbeats 4000000 in
theorem w_X7_set_J55 {X : CT} {g : GG} (C : CX X g cX7_set RX7 (some .int) 4 rm_X7_set) (S : St) (x0 : Nat) (x1 : Int32) (x2 : Int32) : J X g (Qm X g aW pW) (cw (0, 0)) 55 [(0, rv g x0), (1, .int x1), (2, .int x2)] [] S (f_X7_set_J55 S x0 x1 x2) := by
  unfold f_X7_set_J55
  refine J.aload_n (pc := 55) C (x := x0) dX7_set_55 rfl rfl ?_
  refine J.vU (pc := 56) C mv_X7_recordState wm_RX7_75 (fun l => c_X7_recordState l g S x0) ⟨⟨Nat.zero_le _, Nat.zero_le _⟩, rfl, rfl⟩ rfl ⟨Nat.le_of_ble_eq_true rfl, Nat.le_of_ble_eq_true rfl⟩ rfl cat_n (Nat.le_of_ble_eq_true rfl) dX7_set_56 (fun S_5 => ?_)
  refine J.aload_n (pc := 59) C (x := x0) dX7_set_59 rfl rfl ?_
  refine J.getR (pc := 60) C fl_RX7_12 rfl dX7_set_60 ?_
  refine J.iload_n (pc := 63) C dX7_set_63 rfl rfl ?_
  refine J.vI (pc := 64) C mv_X3_setting wm_RX7_78 (fun l => c_X3_setting l g S_5 (S_5.2.1 x0 0) x1) ⟨⟨Nat.zero_le _, Nat.zero_le _⟩, rfl, rfl⟩ rfl ⟨Nat.le_of_ble_eq_true rfl, Nat.le_of_ble_eq_true rfl⟩ rfl cat_n (Nat.le_of_ble_eq_true rfl) dX7_set_64 (fun r6 => ?_)
  refine J.istore_n (pc := 67) C (lv' := [(0, rv g x0), (1, .int x1), (2, .int x2), (3, .int r6)]) dX7_set_67 rfl (Nat.le_of_ble_eq_true rfl) rfl ?_
  refine J.aload_n (pc := 68) C (x := x0) dX7_set_68 rfl rfl ?_
  refine J.getR (pc := 69) C fl_RX7_12 rfl dX7_set_69 ?_
  refine J.iload_n (pc := 72) C dX7_set_72 rfl rfl ?_
  refine J.iload_n (pc := 73) C dX7_set_73 rfl rfl ?_
  refine J.vU (pc := 74) C mv_X3_changeSetting wm_RX7_82 (fun l => c_X3_changeSetting l g S_5 (S_5.2.1 x0 0) x1 x2) ⟨⟨Nat.zero_le _, Nat.zero_le _⟩, rfl, rfl⟩ rfl ⟨Nat.le_of_ble_eq_true rfl, Nat.le_of_ble_eq_true rfl⟩ rfl cat_n (Nat.le_of_ble_eq_true rfl) dX7_set_74 (fun S_7 => ?_)
  refine J.iload_n (pc := 77) C dX7_set_77 rfl rfl ?_
  exact J.iret (pc := 78) C rfl rfl ⟨Nat.le_refl _, Nat.le_refl _⟩ dX7_set_78
def f_X7_set (S : St) (a0 : Nat) (a1 : Int32) (a2 : Int32) : Option (Int32 × St) :=
  (bnd (f_X7_isWithin a1 0 7) fun r1 =>
  (if r1 = 0 then
  (some ((-10000001), S))
  else (bnd (f_X7_numberIn S 1 a1) fun r2 =>
  (bnd (f_X7_numberIn S 2 a1) fun r3 =>
  (bnd (f_X7_isWithin a2 r2 r3) fun r4 =>
  (if r4 = 0 then
  (some ((-10000001), S))
  else (if (2 : Int32) < a1 then
  (f_X7_set_J55 S a0 a1 a2)
  else (chk (okc S 7 a0)
  (chk (okc S 3 (S.2.1 a0 0))
  (if (S.1 (S.2.1 a0 0) 4) ≤ 0 then
  (f_X7_set_J55 S a0 a1 a2)
  else (some ((-10000002), S))))))))))))
set_option maxRecDepth 100000 in
set_option maxHeartbeats 4000000 in
theorem c_X7_set (l : Launch) (g : GG) (S : St) (a0 : Nat) (a1 : Int32) (a2 : Int32) : Ct l yX7_set cX7_set 4 (some .int) rm_X7_set g aW pW [rv g a0, .int a1, .int a2] S (f_X7_set S a0 a1 a2) := by
  refine Ct.mk (cf := cw (0, 0)) (by decide +kernel) (cat_r (cat_i (cat_i cat_n))) (Nat.le_of_ble_eq_true rfl) rfl ?_
  intro X hXl hin C
  show J X g _ _ 0 [(0, rv g a0), (1, .int a1), (2, .int a2)] [] S (f_X7_set S a0 a1 a2)
  unfold f_X7_set
  refine J.iload_n (pc := 0) C dX7_set_0 rfl rfl ?_
  refine J.iconst (pc := 1) C dX7_set_1 ki_0 ?_
  refine J.bipush (pc := 2) C dX7_set_2 kb_7 ?_
  refine J.sI (pc := 4) C ms_X7_isWithin wm_RX7_56 (fun l => c_X7_isWithin l g S a1 0 7) ⟨⟨Nat.zero_le _, Nat.zero_le _⟩, rfl, rfl⟩ rfl ⟨Nat.le_of_ble_eq_true rfl, Nat.le_of_ble_eq_true rfl⟩ rfl cat_n (Nat.le_of_ble_eq_true rfl) dX7_set_4 (fun r1 => ?_)
  refine J.if_ne (pc := 7) C (tgt := 13) dX7_set_7 rfl ?_ ?_
  · refine J.iload_n (pc := 13) C dX7_set_13 rfl rfl ?_
    refine J.gets (pc := 14) C 1 (by decide) ws_RX7_61 dX7_set_14 ?_
    refine J.iload_n (pc := 17) C dX7_set_17 rfl rfl ?_
    refine J.sI (pc := 18) C ms_X7_numberIn wm_RX7_64 (fun l => c_X7_numberIn l g S 1 a1) ⟨⟨Nat.zero_le _, Nat.zero_le _⟩, rfl, rfl⟩ rfl ⟨Nat.le_of_ble_eq_true rfl, Nat.le_of_ble_eq_true rfl⟩ rfl (cat_i cat_n) (Nat.le_of_ble_eq_true rfl) dX7_set_18 (fun r2 => ?_)
    refine J.gets (pc := 21) C 2 (by decide) ws_RX7_68 dX7_set_21 ?_
    refine J.iload_n (pc := 24) C dX7_set_24 rfl rfl ?_
    refine J.sI (pc := 25) C ms_X7_numberIn wm_RX7_64 (fun l => c_X7_numberIn l g S 2 a1) ⟨⟨Nat.zero_le _, Nat.zero_le _⟩, rfl, rfl⟩ rfl ⟨Nat.le_of_ble_eq_true rfl, Nat.le_of_ble_eq_true rfl⟩ rfl (cat_i (cat_i cat_n)) (Nat.le_of_ble_eq_true rfl) dX7_set_25 (fun r3 => ?_)
    refine J.sI (pc := 28) C ms_X7_isWithin wm_RX7_56 (fun l => c_X7_isWithin l g S a2 r2 r3) ⟨⟨Nat.zero_le _, Nat.zero_le _⟩, rfl, rfl⟩ rfl ⟨Nat.le_of_ble_eq_true rfl, Nat.le_of_ble_eq_true rfl⟩ rfl cat_n (Nat.le_of_ble_eq_true rfl) dX7_set_28 (fun r4 => ?_)
    refine J.if_ne (pc := 31) C (tgt := 37) dX7_set_31 rfl ?_ ?_
    · refine J.iload_n (pc := 37) C dX7_set_37 rfl rfl ?_
      refine J.iconst (pc := 38) C dX7_set_38 ki_2 ?_
      refine J.icmp_gt (pc := 39) C (tgt := 55) dX7_set_39 rfl ?_ ?_
      · exact (w_X7_set_J55 C _ _ _ _)
      · refine J.aload_n (pc := 42) C (x := a0) dX7_set_42 rfl rfl ?_
        refine J.getR (pc := 43) C fl_RX7_12 rfl dX7_set_43 ?_
        refine J.getI (pc := 46) C fl_RX7_71 rfl dX7_set_46 ?_
        refine J.if_le (pc := 49) C (tgt := 55) dX7_set_49 rfl ?_ ?_
        · exact (w_X7_set_J55 C _ _ _ _)
        · refine J.ldc (pc := 52) C wc_RX7_74 dX7_set_52 ?_
          exact J.iret (pc := 54) C rfl rfl ⟨Nat.le_refl _, Nat.le_refl _⟩ dX7_set_54
    · refine J.ldc (pc := 34) C wc_RX7_60 dX7_set_34 ?_
      exact J.iret (pc := 36) C rfl rfl ⟨Nat.le_refl _, Nat.le_refl _⟩ dX7_set_36
  · refine J.ldc (pc := 10) C wc_RX7_60 dX7_set_10 ?_
    exact J.iret (pc := 12) C rfl rfl ⟨Nat.le_refl _, Nat.le_refl _⟩ dX7_set_12
abbrev rm_X7_shift : Room := { frames := 6, cells := 0, slots := 0, locals := 138 }
def f_X7_shift (S : St) (a0 : Nat) (a1 : Int32) (a2 : Int32) : Option (Int32 × St) :=
  (chk (okc S 7 a0) (bnd (f_X7_isPair S a0 a1 a2) fun r1 =>
  (if r1 = 0 then
  (some ((-10000001), S))
  else (chk (okc S 7 a0) (bnd (f_X7_voteOn S a0 a1 a2) fun S_2 =>
  (chk (okc S_2 7 a0)
  (chk (okc S_2 6 (S_2.2.1 a0 4)) (bnd (f_X6_told S_2 (S_2.2.1 a0 4)) fun r3 =>
  (some (r3, S_2))))))))))
set_option maxRecDepth 100000 in
set_option maxHeartbeats 4000000 in
theorem c_X7_shift (l : Launch) (g : GG) (S : St) (a0 : Nat) (a1 : Int32) (a2 : Int32) : Ct l yX7_shift cX7_shift 3 (some .int) rm_X7_shift g aW pW [rv g a0, .int a1, .int a2] S (f_X7_shift S a0 a1 a2) := by
  refine Ct.mk (cf := cw (0, 0)) (by decide +kernel) (cat_r (cat_i (cat_i cat_n))) (Nat.le_of_ble_eq_true rfl) rfl ?_
  intro X hXl hin C
  show J X g _ _ 0 [(0, rv g a0), (1, .int a1), (2, .int a2)] [] S (f_X7_shift S a0 a1 a2)
  unfold f_X7_shift
  refine J.aload_n (pc := 0) C (x := a0) dX7_shift_0 rfl rfl ?_
  refine J.iload_n (pc := 1) C dX7_shift_1 rfl rfl ?_
  refine J.iload_n (pc := 2) C dX7_shift_2 rfl rfl ?_
  refine J.vI (pc := 3) C mv_X7_isPair wm_RX7_171 (fun l => c_X7_isPair l g S a0 a1 a2) ⟨⟨Nat.zero_le _, Nat.zero_le _⟩, rfl, rfl⟩ rfl ⟨Nat.le_of_ble_eq_true rfl, Nat.le_of_ble_eq_true rfl⟩ rfl cat_n (Nat.le_of_ble_eq_true rfl) dX7_shift_3 (fun r1 => ?_)
  refine J.if_ne (pc := 6) C (tgt := 12) dX7_shift_6 rfl ?_ ?_
  · refine J.aload_n (pc := 12) C (x := a0) dX7_shift_12 rfl rfl ?_
    refine J.iload_n (pc := 13) C dX7_shift_13 rfl rfl ?_
    refine J.iload_n (pc := 14) C dX7_shift_14 rfl rfl ?_
    refine J.vU (pc := 15) C mv_X7_voteOn wm_RX7_174 (fun l => c_X7_voteOn l g S a0 a1 a2) ⟨⟨Nat.zero_le _, Nat.zero_le _⟩, rfl, rfl⟩ rfl ⟨Nat.le_of_ble_eq_true rfl, Nat.le_of_ble_eq_true rfl⟩ rfl cat_n (Nat.le_of_ble_eq_true rfl) dX7_shift_15 (fun S_2 => ?_)
    refine J.aload_n (pc := 18) C (x := a0) dX7_shift_18 rfl rfl ?_
    refine J.getR (pc := 19) C fl_RX7_34 rfl dX7_shift_19 ?_
    refine J.vI (pc := 22) C mv_X6_told wm_RX7_180 (fun l => c_X6_told l g S_2 (S_2.2.1 a0 4)) ⟨⟨Nat.zero_le _, Nat.zero_le _⟩, rfl, rfl⟩ rfl ⟨Nat.le_of_ble_eq_true rfl, Nat.le_of_ble_eq_true rfl⟩ rfl cat_n (Nat.le_of_ble_eq_true rfl) dX7_shift_22 (fun r3 => ?_)
    exact J.iret (pc := 25) C rfl rfl ⟨Nat.le_refl _, Nat.le_refl _⟩ dX7_shift_25
  · refine J.ldc (pc := 9) C wc_RX7_60 dX7_shift_9 ?_
    exact J.iret (pc := 11) C rfl rfl ⟨Nat.le_refl _, Nat.le_refl _⟩ dX7_shift_11
abbrev rm_X7_shoot : Room := { frames := 5, cells := 0, slots := 0, locals := 122 }
def f_X7_shoot (S : St) (a0 : Nat) : Option (Int32 × St) :=
  (chk (okc S 7 a0) (bnd (f_X7_recordState S a0) fun S_1 =>
  (chk (okc S_1 7 a0)
  (chk (okc S_1 7 a0)
  (chk (okc S_1 3 (S_1.2.1 a0 0)) (bnd (f_X3_takeFrame S_1 (S_1.2.1 a0 0) (S_1.2.1 a0 7)) fun S_2 =>
  (chk (okc S_2 7 a0)
  (chk (okc S_2 3 (S_2.2.1 a0 0))
  (some (S_2.1 (S_2.2.1 a0 0) 4, S_2))))))))))
set_option maxRecDepth 100000 in
set_option maxHeartbeats 4000000 in
theorem c_X7_shoot (l : Launch) (g : GG) (S : St) (a0 : Nat) : Ct l yX7_shoot cX7_shoot 1 (some .int) rm_X7_shoot g aW pW [rv g a0] S (f_X7_shoot S a0) := by
  refine Ct.mk (cf := cw (0, 0)) (by decide +kernel) (cat_r cat_n) (Nat.le_of_ble_eq_true rfl) rfl ?_
  intro X hXl hin C
  show J X g _ _ 0 [(0, rv g a0)] [] S (f_X7_shoot S a0)
  unfold f_X7_shoot
  refine J.aload_n (pc := 0) C (x := a0) dX7_shoot_0 rfl rfl ?_
  refine J.vU (pc := 1) C mv_X7_recordState wm_RX7_75 (fun l => c_X7_recordState l g S a0) ⟨⟨Nat.zero_le _, Nat.zero_le _⟩, rfl, rfl⟩ rfl ⟨Nat.le_of_ble_eq_true rfl, Nat.le_of_ble_eq_true rfl⟩ rfl cat_n (Nat.le_of_ble_eq_true rfl) dX7_shoot_1 (fun S_1 => ?_)
  refine J.aload_n (pc := 4) C (x := a0) dX7_shoot_4 rfl rfl ?_
  refine J.getR (pc := 5) C fl_RX7_12 rfl dX7_shoot_5 ?_
  refine J.aload_n (pc := 8) C (x := a0) dX7_shoot_8 rfl rfl ?_
  refine J.getR (pc := 9) C fl_RX7_52 rfl dX7_shoot_9 ?_
  refine J.vU (pc := 12) C mv_X3_takeFrame wm_RX7_145 (fun l => c_X3_takeFrame l g S_1 (S_1.2.1 a0 0) (S_1.2.1 a0 7)) ⟨⟨Nat.zero_le _, Nat.zero_le _⟩, rfl, rfl⟩ rfl ⟨Nat.le_of_ble_eq_true rfl, Nat.le_of_ble_eq_true rfl⟩ rfl cat_n (Nat.le_of_ble_eq_true rfl) dX7_shoot_12 (fun S_2 => ?_)
  refine J.aload_n (pc := 15) C (x := a0) dX7_shoot_15 rfl rfl ?_
  refine J.getR (pc := 16) C fl_RX7_12 rfl dX7_shoot_16 ?_
  refine J.getI (pc := 19) C fl_RX7_71 rfl dX7_shoot_19 ?_
  exact J.iret (pc := 22) C rfl rfl ⟨Nat.le_refl _, Nat.le_refl _⟩ dX7_shoot_22
abbrev rm_X7_shows : Room := { frames := 3, cells := 0, slots := 0, locals := 74 }
def f_X7_shows (S : St) (a0 : Nat) (a1 : Int32) (a2 : Int32) (a3 : Int32) : Option (Int32 × St) :=
  (chk (okc S 7 a0) (bnd (f_X7_isPlace S a0 a1 a2) fun r1 =>
  (if r1 = 0 then
  (some ((-10000001), S))
  else (bnd (f_X7_isWithin a3 0 20000) fun r2 =>
  (if r2 = 0 then
  (some ((-10000001), S))
  else (chk (okc S 7 a0)
  (chk (okc S 7 a0)
  (chk (okc S 3 (S.2.1 a0 0)) (bnd (f_X3_paint S (S.2.1 a0 0) a1 a3 (-1) 0 (S.2.1 a0 7)) fun S_3 =>
  (chk (okc S_3 7 a0)
  (bnd (f_X7_numberIn S_3 (S_3.2.1 a0 7) a2) fun r4 =>
  (chk (okc S_3 7 a0)
  (chk (okc S_3 3 (S_3.2.1 a0 0)) (bnd (f_X3_percentAt S_3 (S_3.2.1 a0 0) a3) fun r5 =>
  (bnd (f_X7_dimmed r4 r5) fun r6 =>
  (some (r6, S_3)))))))))))))))))
set_option maxRecDepth 100000 in
set_option maxHeartbeats 4000000 in
theorem c_X7_shows (l : Launch) (g : GG) (S : St) (a0 : Nat) (a1 : Int32) (a2 : Int32) (a3 : Int32) : Ct l yX7_shows cX7_shows 4 (some .int) rm_X7_shows g aW pW [rv g a0, .int a1, .int a2, .int a3] S (f_X7_shows S a0 a1 a2 a3) := by
  refine Ct.mk (cf := cw (0, 0)) (by decide +kernel) (cat_r (cat_i (cat_i (cat_i cat_n)))) (Nat.le_of_ble_eq_true rfl) rfl ?_
  intro X hXl hin C
  show J X g _ _ 0 [(0, rv g a0), (1, .int a1), (2, .int a2), (3, .int a3)] [] S (f_X7_shows S a0 a1 a2 a3)
  unfold f_X7_shows
  refine J.aload_n (pc := 0) C (x := a0) dX7_shows_0 rfl rfl ?_
  refine J.iload_n (pc := 1) C dX7_shows_1 rfl rfl ?_
  refine J.iload_n (pc := 2) C dX7_shows_2 rfl rfl ?_
  refine J.vI (pc := 3) C mv_X7_isPlace wm_RX7_131 (fun l => c_X7_isPlace l g S a0 a1 a2) ⟨⟨Nat.zero_le _, Nat.zero_le _⟩, rfl, rfl⟩ rfl ⟨Nat.le_of_ble_eq_true rfl, Nat.le_of_ble_eq_true rfl⟩ rfl cat_n (Nat.le_of_ble_eq_true rfl) dX7_shows_3 (fun r1 => ?_)
  refine J.if_eq (pc := 6) C (tgt := 20) dX7_shows_6 rfl ?_ ?_
  · refine J.ldc (pc := 20) C wc_RX7_60 dX7_shows_20 ?_
    exact J.iret (pc := 22) C rfl rfl ⟨Nat.le_refl _, Nat.le_refl _⟩ dX7_shows_22
  · refine J.iload_n (pc := 9) C dX7_shows_9 rfl rfl ?_
    refine J.iconst (pc := 10) C dX7_shows_10 ki_0 ?_
    refine J.sipush (pc := 11) C dX7_shows_11 ks_20000 ?_
    refine J.sI (pc := 14) C ms_X7_isWithin wm_RX7_56 (fun l => c_X7_isWithin l g S a3 0 20000) ⟨⟨Nat.zero_le _, Nat.zero_le _⟩, rfl, rfl⟩ rfl ⟨Nat.le_of_ble_eq_true rfl, Nat.le_of_ble_eq_true rfl⟩ rfl cat_n (Nat.le_of_ble_eq_true rfl) dX7_shows_14 (fun r2 => ?_)
    refine J.if_ne (pc := 17) C (tgt := 23) dX7_shows_17 rfl ?_ ?_
    · refine J.aload_n (pc := 23) C (x := a0) dX7_shows_23 rfl rfl ?_
      refine J.getR (pc := 24) C fl_RX7_12 rfl dX7_shows_24 ?_
      refine J.iload_n (pc := 27) C dX7_shows_27 rfl rfl ?_
      refine J.iload_n (pc := 28) C dX7_shows_28 rfl rfl ?_
      refine J.iconst (pc := 29) C dX7_shows_29 ki_m1 ?_
      refine J.iconst (pc := 30) C dX7_shows_30 ki_0 ?_
      refine J.aload_n (pc := 31) C (x := a0) dX7_shows_31 rfl rfl ?_
      refine J.getR (pc := 32) C fl_RX7_52 rfl dX7_shows_32 ?_
      refine J.vU (pc := 35) C mv_X3_paint wm_RX7_134 (fun l => c_X3_paint l g S (S.2.1 a0 0) a1 a3 (-1) 0 (S.2.1 a0 7)) ⟨⟨Nat.zero_le _, Nat.zero_le _⟩, rfl, rfl⟩ rfl ⟨Nat.le_of_ble_eq_true rfl, Nat.le_of_ble_eq_true rfl⟩ rfl cat_n (Nat.le_of_ble_eq_true rfl) dX7_shows_35 (fun S_3 => ?_)
      refine J.aload_n (pc := 38) C (x := a0) dX7_shows_38 rfl rfl ?_
      refine J.getR (pc := 39) C fl_RX7_52 rfl dX7_shows_39 ?_
      refine J.iload_n (pc := 42) C dX7_shows_42 rfl rfl ?_
      refine J.sI (pc := 43) C ms_X7_numberIn wm_RX7_64 (fun l => c_X7_numberIn l g S_3 (S_3.2.1 a0 7) a2) ⟨⟨Nat.zero_le _, Nat.zero_le _⟩, rfl, rfl⟩ rfl ⟨Nat.le_of_ble_eq_true rfl, Nat.le_of_ble_eq_true rfl⟩ rfl cat_n (Nat.le_of_ble_eq_true rfl) dX7_shows_43 (fun r4 => ?_)
      refine J.aload_n (pc := 46) C (x := a0) dX7_shows_46 rfl rfl ?_
      refine J.getR (pc := 47) C fl_RX7_12 rfl dX7_shows_47 ?_
      refine J.iload_n (pc := 50) C dX7_shows_50 rfl rfl ?_
      refine J.vI (pc := 51) C mv_X3_percentAt wm_RX7_138 (fun l => c_X3_percentAt l g S_3 (S_3.2.1 a0 0) a3) ⟨⟨Nat.zero_le _, Nat.zero_le _⟩, rfl, rfl⟩ rfl ⟨Nat.le_of_ble_eq_true rfl, Nat.le_of_ble_eq_true rfl⟩ rfl (cat_i cat_n) (Nat.le_of_ble_eq_true rfl) dX7_shows_51 (fun r5 => ?_)
      refine J.sI (pc := 54) C ms_X7_dimmed wm_RX7_141 (fun l => c_X7_dimmed l g S_3 r4 r5) ⟨⟨Nat.zero_le _, Nat.zero_le _⟩, rfl, rfl⟩ rfl ⟨Nat.le_of_ble_eq_true rfl, Nat.le_of_ble_eq_true rfl⟩ rfl cat_n (Nat.le_of_ble_eq_true rfl) dX7_shows_54 (fun r6 => ?_)
      exact J.iret (pc := 57) C rfl rfl ⟨Nat.le_refl _, Nat.le_refl _⟩ dX7_shows_57
    · refine J.ldc (pc := 20) C wc_RX7_60 dX7_shows_20 ?_
      exact J.iret (pc := 22) C rfl rfl ⟨Nat.le_refl _, Nat.le_refl _⟩ dX7_shows_22
abbrev rm_X6_voteOnSlant : Room := { frames := 5, cells := 0, slots := 0, locals := 116 }
def f_X6_voteOnSlant_B8 (a0 : Nat) (kx8 : St → Option St) (k8 : St → Int32 → Option St) (S : St) (x3 : Int32) : Option St :=
  (chk (okc S 6 a0)
  (chk (okc S 10 (S.2.1 a0 2))
  (if (Int32.ofNat (ln (S.2.1 a0 2))) ≤ x3 then
  (kx8 S)
  else (chk (okc S 6 a0)
  (chk (okc S 6 a0)
  (bnd (f_X7_numberIn S (S.2.1 a0 0) x3) fun r2 =>
  (chk (okc S 6 a0)
  (bnd (f_X7_numberIn S (S.2.1 a0 0) (x3 + 1)) fun r3 =>
  (bnd (f_X7_bestShift r2 r3) fun r4 =>
  (chk (inw S 10 (S.2.1 a0 2) x3) (vlt (upI S (S.2.1 a0 2) x3.toNatClampNeg r4) fun S_5 =>
  (k8 S_5 (x3 + 1)))))))))))))
set_option maxRecDepth 100000 in
set_option maxHeartbeats 4000000 in
theorem w_X6_voteOnSlant_B8 {X : CT} {g : GG} (C : CX X g cX6_voteOnSlant RX6 none 4 rm_X6_voteOnSlant) (a0 : Nat) (kx8 : St → Option St) (hkx8 : ∀ (S : St), J X g (Qm X g aU pU) (cw (0, 0)) 50 [(0, rv g a0)] [] S (kx8 S)) : ∀ (n : Nat) (S : St) (x3 : Int32), J X g (Qm X g aU pU) (cw (0, 0)) 8 [(0, rv g a0), (3, .int x3)] [] S (wl2 (f_X6_voteOnSlant_B8 a0 kx8) n S x3) := by
  refine J.loop2 (lvf := fun (S : St) (x3 : Int32) => [(0, rv g a0), (3, .int x3)]) (Sf := fun (S : St) (x3 : Int32) => S) ?_
  intro k8 hk8 S x3
  show J X g _ _ 8 [(0, rv g a0), (3, .int x3)] [] S (f_X6_voteOnSlant_B8 a0 kx8 k8 S x3)
  unfold f_X6_voteOnSlant_B8
  refine J.iload_n (pc := 8) C dX6_voteOnSlant_8 rfl rfl ?_
  refine J.aload_n (pc := 9) C (x := a0) dX6_voteOnSlant_9 rfl rfl ?_
  refine J.getR (pc := 10) C fl_RX6_18 rfl dX6_voteOnSlant_10 ?_
  refine J.alen (pc := 13) C 10 (by decide) dX6_voteOnSlant_13 ?_
  refine J.icmp_ge (pc := 14) C (tgt := 50) dX6_voteOnSlant_14 rfl ?_ ?_
  · exact J.pick [0] rfl (hkx8 _)
  · refine J.aload_n (pc := 17) C (x := a0) dX6_voteOnSlant_17 rfl rfl ?_
    refine J.getR (pc := 18) C fl_RX6_18 rfl dX6_voteOnSlant_18 ?_
    refine J.iload_n (pc := 21) C dX6_voteOnSlant_21 rfl rfl ?_
    refine J.aload_n (pc := 22) C (x := a0) dX6_voteOnSlant_22 rfl rfl ?_
    refine J.getR (pc := 23) C fl_RX6_9 rfl dX6_voteOnSlant_23 ?_
    refine J.iload_n (pc := 26) C dX6_voteOnSlant_26 rfl rfl ?_
    refine J.snI (pc := 27) C ms_X7_numberIn wn_RX6_38 (fun l => c_X7_numberIn l g S (S.2.1 a0 0) x3) ⟨⟨Nat.zero_le _, Nat.zero_le _⟩, rfl, rfl⟩ rfl ⟨Nat.le_of_ble_eq_true rfl, Nat.le_of_ble_eq_true rfl⟩ rfl (cat_i (cat_r cat_n)) (Nat.le_of_ble_eq_true rfl) dX6_voteOnSlant_27 (fun r2 => ?_)
    refine J.aload_n (pc := 30) C (x := a0) dX6_voteOnSlant_30 rfl rfl ?_
    refine J.getR (pc := 31) C fl_RX6_9 rfl dX6_voteOnSlant_31 ?_
    refine J.iload_n (pc := 34) C dX6_voteOnSlant_34 rfl rfl ?_
    refine J.iconst (pc := 35) C dX6_voteOnSlant_35 ki_1 ?_
    refine J.iadd (pc := 36) C dX6_voteOnSlant_36 ?_
    refine J.snI (pc := 37) C ms_X7_numberIn wn_RX6_38 (fun l => c_X7_numberIn l g S (S.2.1 a0 0) (x3 + 1)) ⟨⟨Nat.zero_le _, Nat.zero_le _⟩, rfl, rfl⟩ rfl ⟨Nat.le_of_ble_eq_true rfl, Nat.le_of_ble_eq_true rfl⟩ rfl (cat_i (cat_i (cat_r cat_n))) (Nat.le_of_ble_eq_true rfl) dX6_voteOnSlant_37 (fun r3 => ?_)
    refine J.snI (pc := 40) C ms_X7_bestShift wn_RX6_42 (fun l => c_X7_bestShift l g S r2 r3) ⟨⟨Nat.zero_le _, Nat.zero_le _⟩, rfl, rfl⟩ rfl ⟨Nat.le_of_ble_eq_true rfl, Nat.le_of_ble_eq_true rfl⟩ rfl (cat_i (cat_r cat_n)) (Nat.le_of_ble_eq_true rfl) dX6_voteOnSlant_40 (fun r4 => ?_)
    refine J.iasts (pc := 43) C dX6_voteOnSlant_43 (fun S_5 => ?_)
    refine J.iinc (pc := 44) C (lv' := [(0, rv g a0), (3, .int (x3 + 1))]) dX6_voteOnSlant_44 rfl (Nat.le_of_ble_eq_true rfl) ki_1 rfl ?_
    refine J.goto (pc := 47) C (tgt := 8) dX6_voteOnSlant_47 rfl ?_
    exact (hk8 _ _)
def f_X6_voteOnSlant (S : St) (a0 : Nat) (a1 : Nat) (a2 : Nat) : Option St :=
  (chk (okc S 6 a0) (bnd (f_X6_readFirst S a0 a1 a2) fun S_1 =>
  (wl2 (f_X6_voteOnSlant_B8 a0 (fun (S_6 : St) => (chk (okc S_6 6 a0) (bnd (f_X6_countVotes S_6 a0 0) fun S_7 =>
  (some S_7))))) FU S_1 0)))
set_option maxRecDepth 100000 in
set_option maxHeartbeats 4000000 in
theorem c_X6_voteOnSlant (l : Launch) (g : GG) (S : St) (a0 : Nat) (a1 : Nat) (a2 : Nat) : Ct l yX6_voteOnSlant cX6_voteOnSlant 4 none rm_X6_voteOnSlant g aU pU [rv g a0, rv g a1, rv g a2] S (f_X6_voteOnSlant S a0 a1 a2) := by
  refine Ct.mk (cf := cw (0, 0)) (by decide +kernel) (cat_r (cat_r (cat_r cat_n))) (Nat.le_of_ble_eq_true rfl) rfl ?_
  intro X hXl hin C
  show J X g _ _ 0 [(0, rv g a0), (1, rv g a1), (2, rv g a2)] [] S (f_X6_voteOnSlant S a0 a1 a2)
  unfold f_X6_voteOnSlant
  refine J.aload_n (pc := 0) C (x := a0) dX6_voteOnSlant_0 rfl rfl ?_
  refine J.aload_n (pc := 1) C (x := a1) dX6_voteOnSlant_1 rfl rfl ?_
  refine J.aload_n (pc := 2) C (x := a2) dX6_voteOnSlant_2 rfl rfl ?_
  refine J.vU (pc := 3) C mv_X6_readFirst wm_RX6_50 (fun l => c_X6_readFirst l g S a0 a1 a2) ⟨⟨Nat.zero_le _, Nat.zero_le _⟩, rfl, rfl⟩ rfl ⟨Nat.le_of_ble_eq_true rfl, Nat.le_of_ble_eq_true rfl⟩ rfl cat_n (Nat.le_of_ble_eq_true rfl) dX6_voteOnSlant_3 (fun S_1 => ?_)
  refine J.iconst (pc := 6) C dX6_voteOnSlant_6 ki_0 ?_
  refine J.istore_n (pc := 7) C (lv' := [(0, rv g a0), (1, rv g a1), (2, rv g a2), (3, .int 0)]) dX6_voteOnSlant_7 rfl (Nat.le_of_ble_eq_true rfl) rfl ?_
  refine J.pick [0, 3] rfl ?_
  refine w_X6_voteOnSlant_B8 C _ _ (fun S_6 => ?_) FU _ _
  refine J.aload_n (pc := 50) C (x := a0) dX6_voteOnSlant_50 rfl rfl ?_
  refine J.anull (pc := 51) C dX6_voteOnSlant_51 ?_
  refine J.vU (pc := 52) C mv_X6_countVotes wm_RX6_46 (fun l => c_X6_countVotes l g S_6 a0 0) ⟨⟨Nat.zero_le _, Nat.zero_le _⟩, rfl, rfl⟩ rfl ⟨Nat.le_of_ble_eq_true rfl, Nat.le_of_ble_eq_true rfl⟩ rfl cat_n (Nat.le_of_ble_eq_true rfl) dX6_voteOnSlant_52 (fun S_7 => ?_)
  exact J.vret (pc := 55) C rfl rfl ⟨Nat.le_refl _, Nat.le_refl _⟩ dX6_voteOnSlant_55
abbrev rm_X7_slant : Room := { frames := 6, cells := 0, slots := 0, locals := 139 }
def f_X7_slant (S : St) (a0 : Nat) (a1 : Int32) : Option (Int32 × St) :=
  (chk (okc S 7 a0)
  (chk (okc S 3 (S.2.1 a0 0)) (bnd (f_X3_frameAt S (S.2.1 a0 0) a1) fun r1 =>
  (if r1 = 0 then
  (some ((-10000001), S))
  else (chk (okc S 7 a0)
  (chk (okc S 7 a0)
  (chk (okc S 6 (S.2.1 a0 4)) (bnd (f_X6_voteOnSlant S (S.2.1 a0 4) (S.2.1 a0 0) r1) fun S_2 =>
  (chk (okc S_2 7 a0)
  (chk (okc S_2 6 (S_2.2.1 a0 4)) (bnd (f_X6_told S_2 (S_2.2.1 a0 4)) fun r3 =>
  (some (r3, S_2)))))))))))))
set_option maxRecDepth 100000 in
set_option maxHeartbeats 4000000 in
theorem c_X7_slant (l : Launch) (g : GG) (S : St) (a0 : Nat) (a1 : Int32) : Ct l yX7_slant cX7_slant 3 (some .int) rm_X7_slant g aW pW [rv g a0, .int a1] S (f_X7_slant S a0 a1) := by
  refine Ct.mk (cf := cw (0, 0)) (by decide +kernel) (cat_r (cat_i cat_n)) (Nat.le_of_ble_eq_true rfl) rfl ?_
  intro X hXl hin C
  show J X g _ _ 0 [(0, rv g a0), (1, .int a1)] [] S (f_X7_slant S a0 a1)
  unfold f_X7_slant
  refine J.aload_n (pc := 0) C (x := a0) dX7_slant_0 rfl rfl ?_
  refine J.getR (pc := 1) C fl_RX7_12 rfl dX7_slant_1 ?_
  refine J.iload_n (pc := 4) C dX7_slant_4 rfl rfl ?_
  refine J.vR (pc := 5) C mv_X3_frameAt wm_RX7_149 (fun l => c_X3_frameAt l g S (S.2.1 a0 0) a1) ⟨⟨Nat.zero_le _, Nat.zero_le _⟩, rfl, rfl⟩ rfl ⟨Nat.le_of_ble_eq_true rfl, Nat.le_of_ble_eq_true rfl⟩ rfl cat_n (Nat.le_of_ble_eq_true rfl) dX7_slant_5 (fun r1 => ?_)
  refine J.astore_n (pc := 8) C (lv' := [(0, rv g a0), (1, .int a1), (2, rv g r1)]) dX7_slant_8 rfl (Nat.le_of_ble_eq_true rfl) rfl ?_
  refine J.aload_n (pc := 9) C (x := r1) dX7_slant_9 rfl rfl ?_
  refine J.ifnonnull (pc := 10) C (tgt := 16) dX7_slant_10 rfl ?_ ?_
  · refine J.aload_n (pc := 16) C (x := a0) dX7_slant_16 rfl rfl ?_
    refine J.getR (pc := 17) C fl_RX7_34 rfl dX7_slant_17 ?_
    refine J.aload_n (pc := 20) C (x := a0) dX7_slant_20 rfl rfl ?_
    refine J.getR (pc := 21) C fl_RX7_12 rfl dX7_slant_21 ?_
    refine J.aload_n (pc := 24) C (x := r1) dX7_slant_24 rfl rfl ?_
    refine J.vU (pc := 25) C mv_X6_voteOnSlant wm_RX7_190 (fun l => c_X6_voteOnSlant l g S (S.2.1 a0 4) (S.2.1 a0 0) r1) ⟨⟨Nat.zero_le _, Nat.zero_le _⟩, rfl, rfl⟩ rfl ⟨Nat.le_of_ble_eq_true rfl, Nat.le_of_ble_eq_true rfl⟩ rfl cat_n (Nat.le_of_ble_eq_true rfl) dX7_slant_25 (fun S_2 => ?_)
    refine J.aload_n (pc := 28) C (x := a0) dX7_slant_28 rfl rfl ?_
    refine J.getR (pc := 29) C fl_RX7_34 rfl dX7_slant_29 ?_
    refine J.vI (pc := 32) C mv_X6_told wm_RX7_180 (fun l => c_X6_told l g S_2 (S_2.2.1 a0 4)) ⟨⟨Nat.zero_le _, Nat.zero_le _⟩, rfl, rfl⟩ rfl ⟨Nat.le_of_ble_eq_true rfl, Nat.le_of_ble_eq_true rfl⟩ rfl cat_n (Nat.le_of_ble_eq_true rfl) dX7_slant_32 (fun r3 => ?_)
    exact J.iret (pc := 35) C rfl rfl ⟨Nat.le_refl _, Nat.le_refl _⟩ dX7_slant_35
  · refine J.ldc (pc := 13) C wc_RX7_60 dX7_slant_13 ?_
    exact J.iret (pc := 15) C rfl rfl ⟨Nat.le_refl _, Nat.le_refl _⟩ dX7_slant_15
abbrev rm_X7_slantSpeed : Room := { frames := 6, cells := 0, slots := 0, locals := 139 }
def f_X7_slantSpeed (S : St) (a0 : Nat) (a1 : Int32) : Option (Int32 × St) :=
  (chk (okc S 7 a0)
  (chk (okc S 3 (S.2.1 a0 0)) (bnd (f_X3_frameAt S (S.2.1 a0 0) a1) fun r1 =>
  (if r1 = 0 then
  (some ((-10000001), S))
  else (chk (okc S 7 a0)
  (chk (okc S 3 (S.2.1 a0 0)) (bnd (f_X3_setting S (S.2.1 a0 0) 2) fun r2 =>
  (if r2 = 0 then
  (some ((-10000002), S))
  else (chk (okc S 7 a0)
  (chk (okc S 7 a0)
  (chk (okc S 6 (S.2.1 a0 4)) (bnd (f_X6_voteOnSlant S (S.2.1 a0 4) (S.2.1 a0 0) r1) fun S_3 =>
  (chk (okc S_3 7 a0)
  (chk (okc S_3 6 (S_3.2.1 a0 4)) (bnd (f_X6_told S_3 (S_3.2.1 a0 4)) fun r4 =>
  (if r4 = (-10000004) then
  (some ((-10000004), S_3))
  else (chk (¬ r2 = 0)
  (some ((r4 * 100) / r2, S_3)))))))))))))))))))
set_option maxRecDepth 100000 in
set_option maxHeartbeats 4000000 in
theorem c_X7_slantSpeed (l : Launch) (g : GG) (S : St) (a0 : Nat) (a1 : Int32) : Ct l yX7_slantSpeed cX7_slantSpeed 5 (some .int) rm_X7_slantSpeed g aW pW [rv g a0, .int a1] S (f_X7_slantSpeed S a0 a1) := by
  refine Ct.mk (cf := cw (0, 0)) (by decide +kernel) (cat_r (cat_i cat_n)) (Nat.le_of_ble_eq_true rfl) rfl ?_
  intro X hXl hin C
  show J X g _ _ 0 [(0, rv g a0), (1, .int a1)] [] S (f_X7_slantSpeed S a0 a1)
  unfold f_X7_slantSpeed
  refine J.aload_n (pc := 0) C (x := a0) dX7_slantSpeed_0 rfl rfl ?_
  refine J.getR (pc := 1) C fl_RX7_12 rfl dX7_slantSpeed_1 ?_
  refine J.iload_n (pc := 4) C dX7_slantSpeed_4 rfl rfl ?_
  refine J.vR (pc := 5) C mv_X3_frameAt wm_RX7_149 (fun l => c_X3_frameAt l g S (S.2.1 a0 0) a1) ⟨⟨Nat.zero_le _, Nat.zero_le _⟩, rfl, rfl⟩ rfl ⟨Nat.le_of_ble_eq_true rfl, Nat.le_of_ble_eq_true rfl⟩ rfl cat_n (Nat.le_of_ble_eq_true rfl) dX7_slantSpeed_5 (fun r1 => ?_)
  refine J.astore_n (pc := 8) C (lv' := [(0, rv g a0), (1, .int a1), (2, rv g r1)]) dX7_slantSpeed_8 rfl (Nat.le_of_ble_eq_true rfl) rfl ?_
  refine J.aload_n (pc := 9) C (x := r1) dX7_slantSpeed_9 rfl rfl ?_
  refine J.ifnonnull (pc := 10) C (tgt := 16) dX7_slantSpeed_10 rfl ?_ ?_
  · refine J.aload_n (pc := 16) C (x := a0) dX7_slantSpeed_16 rfl rfl ?_
    refine J.getR (pc := 17) C fl_RX7_12 rfl dX7_slantSpeed_17 ?_
    refine J.iconst (pc := 20) C dX7_slantSpeed_20 ki_2 ?_
    refine J.vI (pc := 21) C mv_X3_setting wm_RX7_78 (fun l => c_X3_setting l g S (S.2.1 a0 0) 2) ⟨⟨Nat.zero_le _, Nat.zero_le _⟩, rfl, rfl⟩ rfl ⟨Nat.le_of_ble_eq_true rfl, Nat.le_of_ble_eq_true rfl⟩ rfl cat_n (Nat.le_of_ble_eq_true rfl) dX7_slantSpeed_21 (fun r2 => ?_)
    refine J.istore_n (pc := 24) C (lv' := [(0, rv g a0), (1, .int a1), (2, rv g r1), (3, .int r2)]) dX7_slantSpeed_24 rfl (Nat.le_of_ble_eq_true rfl) rfl ?_
    refine J.iload_n (pc := 25) C dX7_slantSpeed_25 rfl rfl ?_
    refine J.if_ne (pc := 26) C (tgt := 32) dX7_slantSpeed_26 rfl ?_ ?_
    · refine J.aload_n (pc := 32) C (x := a0) dX7_slantSpeed_32 rfl rfl ?_
      refine J.getR (pc := 33) C fl_RX7_34 rfl dX7_slantSpeed_33 ?_
      refine J.aload_n (pc := 36) C (x := a0) dX7_slantSpeed_36 rfl rfl ?_
      refine J.getR (pc := 37) C fl_RX7_12 rfl dX7_slantSpeed_37 ?_
      refine J.aload_n (pc := 40) C (x := r1) dX7_slantSpeed_40 rfl rfl ?_
      refine J.vU (pc := 41) C mv_X6_voteOnSlant wm_RX7_190 (fun l => c_X6_voteOnSlant l g S (S.2.1 a0 4) (S.2.1 a0 0) r1) ⟨⟨Nat.zero_le _, Nat.zero_le _⟩, rfl, rfl⟩ rfl ⟨Nat.le_of_ble_eq_true rfl, Nat.le_of_ble_eq_true rfl⟩ rfl cat_n (Nat.le_of_ble_eq_true rfl) dX7_slantSpeed_41 (fun S_3 => ?_)
      refine J.aload_n (pc := 44) C (x := a0) dX7_slantSpeed_44 rfl rfl ?_
      refine J.getR (pc := 45) C fl_RX7_34 rfl dX7_slantSpeed_45 ?_
      refine J.vI (pc := 48) C mv_X6_told wm_RX7_180 (fun l => c_X6_told l g S_3 (S_3.2.1 a0 4)) ⟨⟨Nat.zero_le _, Nat.zero_le _⟩, rfl, rfl⟩ rfl ⟨Nat.le_of_ble_eq_true rfl, Nat.le_of_ble_eq_true rfl⟩ rfl cat_n (Nat.le_of_ble_eq_true rfl) dX7_slantSpeed_48 (fun r4 => ?_)
      refine J.istore (pc := 51) C (lv' := [(0, rv g a0), (1, .int a1), (2, rv g r1), (3, .int r2), (4, .int r4)]) dX7_slantSpeed_51 (Nat.le_of_ble_eq_true rfl) rfl ?_
      refine J.iload (pc := 53) C dX7_slantSpeed_53 rfl ?_
      refine J.ldc (pc := 55) C wc_RX7_163 dX7_slantSpeed_55 ?_
      refine J.icmp_ne (pc := 57) C (tgt := 65) dX7_slantSpeed_57 rfl ?_ ?_
      · refine J.iload (pc := 65) C dX7_slantSpeed_65 rfl ?_
        refine J.bipush (pc := 67) C dX7_slantSpeed_67 kb_100 ?_
        refine J.imul (pc := 69) C dX7_slantSpeed_69 ?_
        refine J.iload_n (pc := 70) C dX7_slantSpeed_70 rfl rfl ?_
        refine J.idiv (pc := 71) C dX7_slantSpeed_71 ?_
        exact J.iret (pc := 72) C rfl rfl ⟨Nat.le_refl _, Nat.le_refl _⟩ dX7_slantSpeed_72
      · refine J.ldc (pc := 60) C wc_RX7_163 dX7_slantSpeed_60 ?_
        refine J.goto (pc := 62) C (tgt := 72) dX7_slantSpeed_62 rfl ?_
        exact J.iret (pc := 72) C rfl rfl ⟨Nat.le_refl _, Nat.le_refl _⟩ dX7_slantSpeed_72
    · refine J.ldc (pc := 29) C wc_RX7_74 dX7_slantSpeed_29 ?_
      exact J.iret (pc := 31) C rfl rfl ⟨Nat.le_refl _, Nat.le_refl _⟩ dX7_slantSpeed_31
  · refine J.ldc (pc := 13) C wc_RX7_60 dX7_slantSpeed_13 ?_
    exact J.iret (pc := 15) C rfl rfl ⟨Nat.le_refl _, Nat.le_refl _⟩ dX7_slantSpeed_15
abbrev rm_X7_speed : Room := { frames := 6, cells := 0, slots := 0, locals := 138 }
def f_X7_speed (S : St) (a0 : Nat) (a1 : Int32) (a2 : Int32) : Option (Int32 × St) :=
  (chk (okc S 7 a0)
  (chk (okc S 3 (S.2.1 a0 0)) (bnd (f_X3_frameAt S (S.2.1 a0 0) a1) fun r1 =>
  (chk (okc S 7 a0)
  (chk (okc S 3 (S.2.1 a0 0)) (bnd (f_X3_frameAt S (S.2.1 a0 0) a2) fun r2 =>
  (if r1 = 0 then
  (some ((-10000001), S))
  else (if r2 = 0 then
  (some ((-10000001), S))
  else (if a1 = a2 then
  (some ((-10000001), S))
  else (chk (okc S 0 r2)
  (chk (okc S 0 r1)
  (if ((S.1 r2 0) - (S.1 r1 0)) = 0 then
  (some ((-10000002), S))
  else (chk (okc S 7 a0) (bnd (f_X7_voteOn S a0 a1 a2) fun S_3 =>
  (chk (okc S_3 7 a0)
  (chk (okc S_3 6 (S_3.2.1 a0 4)) (bnd (f_X6_told S_3 (S_3.2.1 a0 4)) fun r4 =>
  (if r4 = (-10000004) then
  (some ((-10000004), S_3))
  else (chk (¬ ((S.1 r2 0) - (S.1 r1 0)) = 0)
  (some ((r4 * 100) / ((S.1 r2 0) - (S.1 r1 0)), S_3)))))))))))))))))))))
set_option maxRecDepth 100000 in
set_option maxHeartbeats 4000000 in
theorem c_X7_speed (l : Launch) (g : GG) (S : St) (a0 : Nat) (a1 : Int32) (a2 : Int32) : Ct l yX7_speed cX7_speed 7 (some .int) rm_X7_speed g aW pW [rv g a0, .int a1, .int a2] S (f_X7_speed S a0 a1 a2) := by
  refine Ct.mk (cf := cw (0, 0)) (by decide +kernel) (cat_r (cat_i (cat_i cat_n))) (Nat.le_of_ble_eq_true rfl) rfl ?_
  intro X hXl hin C
  show J X g _ _ 0 [(0, rv g a0), (1, .int a1), (2, .int a2)] [] S (f_X7_speed S a0 a1 a2)
  unfold f_X7_speed
  refine J.aload_n (pc := 0) C (x := a0) dX7_speed_0 rfl rfl ?_
  refine J.getR (pc := 1) C fl_RX7_12 rfl dX7_speed_1 ?_
  refine J.iload_n (pc := 4) C dX7_speed_4 rfl rfl ?_
  refine J.vR (pc := 5) C mv_X3_frameAt wm_RX7_149 (fun l => c_X3_frameAt l g S (S.2.1 a0 0) a1) ⟨⟨Nat.zero_le _, Nat.zero_le _⟩, rfl, rfl⟩ rfl ⟨Nat.le_of_ble_eq_true rfl, Nat.le_of_ble_eq_true rfl⟩ rfl cat_n (Nat.le_of_ble_eq_true rfl) dX7_speed_5 (fun r1 => ?_)
  refine J.astore_n (pc := 8) C (lv' := [(0, rv g a0), (1, .int a1), (2, .int a2), (3, rv g r1)]) dX7_speed_8 rfl (Nat.le_of_ble_eq_true rfl) rfl ?_
  refine J.aload_n (pc := 9) C (x := a0) dX7_speed_9 rfl rfl ?_
  refine J.getR (pc := 10) C fl_RX7_12 rfl dX7_speed_10 ?_
  refine J.iload_n (pc := 13) C dX7_speed_13 rfl rfl ?_
  refine J.vR (pc := 14) C mv_X3_frameAt wm_RX7_149 (fun l => c_X3_frameAt l g S (S.2.1 a0 0) a2) ⟨⟨Nat.zero_le _, Nat.zero_le _⟩, rfl, rfl⟩ rfl ⟨Nat.le_of_ble_eq_true rfl, Nat.le_of_ble_eq_true rfl⟩ rfl cat_n (Nat.le_of_ble_eq_true rfl) dX7_speed_14 (fun r2 => ?_)
  refine J.astore (pc := 17) C (lv' := [(0, rv g a0), (1, .int a1), (2, .int a2), (3, rv g r1), (4, rv g r2)]) dX7_speed_17 (Nat.le_of_ble_eq_true rfl) rfl ?_
  refine J.aload_n (pc := 19) C (x := r1) dX7_speed_19 rfl rfl ?_
  refine J.ifnull (pc := 20) C (tgt := 33) dX7_speed_20 rfl ?_ ?_
  · refine J.ldc (pc := 33) C wc_RX7_60 dX7_speed_33 ?_
    exact J.iret (pc := 35) C rfl rfl ⟨Nat.le_refl _, Nat.le_refl _⟩ dX7_speed_35
  · refine J.aload (pc := 23) C (x := r2) dX7_speed_23 rfl ?_
    refine J.ifnull (pc := 25) C (tgt := 33) dX7_speed_25 rfl ?_ ?_
    · refine J.ldc (pc := 33) C wc_RX7_60 dX7_speed_33 ?_
      exact J.iret (pc := 35) C rfl rfl ⟨Nat.le_refl _, Nat.le_refl _⟩ dX7_speed_35
    · refine J.iload_n (pc := 28) C dX7_speed_28 rfl rfl ?_
      refine J.iload_n (pc := 29) C dX7_speed_29 rfl rfl ?_
      refine J.icmp_ne (pc := 30) C (tgt := 36) dX7_speed_30 rfl ?_ ?_
      · refine J.aload (pc := 36) C (x := r2) dX7_speed_36 rfl ?_
        refine J.getI (pc := 38) C fl_RX7_157 rfl dX7_speed_38 ?_
        refine J.aload_n (pc := 41) C (x := r1) dX7_speed_41 rfl rfl ?_
        refine J.getI (pc := 42) C fl_RX7_157 rfl dX7_speed_42 ?_
        refine J.isub (pc := 45) C dX7_speed_45 ?_
        refine J.istore (pc := 46) C (lv' := [(0, rv g a0), (1, .int a1), (2, .int a2), (3, rv g r1), (4, rv g r2), (5, .int ((S.1 r2 0) - (S.1 r1 0)))]) dX7_speed_46 (Nat.le_of_ble_eq_true rfl) rfl ?_
        refine J.iload (pc := 48) C dX7_speed_48 rfl ?_
        refine J.if_ne (pc := 50) C (tgt := 56) dX7_speed_50 rfl ?_ ?_
        · refine J.aload_n (pc := 56) C (x := a0) dX7_speed_56 rfl rfl ?_
          refine J.iload_n (pc := 57) C dX7_speed_57 rfl rfl ?_
          refine J.iload_n (pc := 58) C dX7_speed_58 rfl rfl ?_
          refine J.vU (pc := 59) C mv_X7_voteOn wm_RX7_174 (fun l => c_X7_voteOn l g S a0 a1 a2) ⟨⟨Nat.zero_le _, Nat.zero_le _⟩, rfl, rfl⟩ rfl ⟨Nat.le_of_ble_eq_true rfl, Nat.le_of_ble_eq_true rfl⟩ rfl cat_n (Nat.le_of_ble_eq_true rfl) dX7_speed_59 (fun S_3 => ?_)
          refine J.aload_n (pc := 62) C (x := a0) dX7_speed_62 rfl rfl ?_
          refine J.getR (pc := 63) C fl_RX7_34 rfl dX7_speed_63 ?_
          refine J.vI (pc := 66) C mv_X6_told wm_RX7_180 (fun l => c_X6_told l g S_3 (S_3.2.1 a0 4)) ⟨⟨Nat.zero_le _, Nat.zero_le _⟩, rfl, rfl⟩ rfl ⟨Nat.le_of_ble_eq_true rfl, Nat.le_of_ble_eq_true rfl⟩ rfl cat_n (Nat.le_of_ble_eq_true rfl) dX7_speed_66 (fun r4 => ?_)
          refine J.istore (pc := 69) C (lv' := [(0, rv g a0), (1, .int a1), (2, .int a2), (3, rv g r1), (4, rv g r2), (5, .int ((S.1 r2 0) - (S.1 r1 0))), (6, .int r4)]) dX7_speed_69 (Nat.le_of_ble_eq_true rfl) rfl ?_
          refine J.iload (pc := 71) C dX7_speed_71 rfl ?_
          refine J.ldc (pc := 73) C wc_RX7_163 dX7_speed_73 ?_
          refine J.icmp_ne (pc := 75) C (tgt := 83) dX7_speed_75 rfl ?_ ?_
          · refine J.iload (pc := 83) C dX7_speed_83 rfl ?_
            refine J.bipush (pc := 85) C dX7_speed_85 kb_100 ?_
            refine J.imul (pc := 87) C dX7_speed_87 ?_
            refine J.iload (pc := 88) C dX7_speed_88 rfl ?_
            refine J.idiv (pc := 90) C dX7_speed_90 ?_
            exact J.iret (pc := 91) C rfl rfl ⟨Nat.le_refl _, Nat.le_refl _⟩ dX7_speed_91
          · refine J.ldc (pc := 78) C wc_RX7_163 dX7_speed_78 ?_
            refine J.goto (pc := 80) C (tgt := 91) dX7_speed_80 rfl ?_
            exact J.iret (pc := 91) C rfl rfl ⟨Nat.le_refl _, Nat.le_refl _⟩ dX7_speed_91
        · refine J.ldc (pc := 53) C wc_RX7_74 dX7_speed_53 ?_
          exact J.iret (pc := 55) C rfl rfl ⟨Nat.le_refl _, Nat.le_refl _⟩ dX7_speed_55
      · refine J.ldc (pc := 33) C wc_RX7_60 dX7_speed_33 ?_
        exact J.iret (pc := 35) C rfl rfl ⟨Nat.le_refl _, Nat.le_refl _⟩ dX7_speed_35
