abbrev rm_X7_darkPeriods : Room := { frames := 2, cells := 0, slots := 0, locals := 42 }
def f_X7_darkPeriods_B4 (S : St) (a0 : Nat) (a1 : Int32) (kx4 : Int32 → Option Int32) (k4 : Int32 → Int32 → Option Int32) (x2 : Int32) (x3 : Int32) : Option Int32 :=
  (if (20 : Int32) < x3 then
  (kx4 x2)
  else (chk (okc S 7 a0)
  (chk (okc S 3 (S.2.1 a0 0)) (bnd (f_X3_setting S (S.2.1 a0 0) 6) fun r1 =>
  (bnd (f_X7_isDark a1 x3 r1) fun r2 =>
  (if r2 = 0 then
  (k4 x2 (x3 + 1))
  else (k4 (x2 ||| (1 <<< (x3 &&& 31))) (x3 + 1))))))))
set_option maxRecDepth 100000 in
set_option maxHeartbeats 4000000 in
theorem w_X7_darkPeriods_B4 {X : CT} {g : GG} (C : CX X g cX7_darkPeriods RX7 (some .int) 4 rm_X7_darkPeriods) (S : St) (a0 : Nat) (a1 : Int32) (kx4 : Int32 → Option Int32) (hkx4 : ∀ (x2 : Int32), J X g (Qm X g aI (pK S)) (cw (0, 0)) 39 [(2, .int x2)] [] S (kx4 x2)) : ∀ (n : Nat) (x2 : Int32) (x3 : Int32), J X g (Qm X g aI (pK S)) (cw (0, 0)) 4 [(0, rv g a0), (1, .int a1), (2, .int x2), (3, .int x3)] [] S (wl2 (f_X7_darkPeriods_B4 S a0 a1 kx4) n x2 x3) := by
  refine J.loop2 (lvf := fun (x2 : Int32) (x3 : Int32) => [(0, rv g a0), (1, .int a1), (2, .int x2), (3, .int x3)]) (Sf := fun (x2 : Int32) (x3 : Int32) => S) ?_
  intro k4 hk4 x2 x3
  show J X g _ _ 4 [(0, rv g a0), (1, .int a1), (2, .int x2), (3, .int x3)] [] S (f_X7_darkPeriods_B4 S a0 a1 kx4 k4 x2 x3)
  unfold f_X7_darkPeriods_B4
  refine J.iload_n (pc := 4) C dX7_darkPeriods_4 rfl rfl ?_
  refine J.bipush (pc := 5) C dX7_darkPeriods_5 kb_20 ?_
  refine J.icmp_gt (pc := 7) C (tgt := 39) dX7_darkPeriods_7 rfl ?_ ?_
  · exact J.pick [2] rfl (hkx4 _)
  · refine J.iload_n (pc := 10) C dX7_darkPeriods_10 rfl rfl ?_
    refine J.iload_n (pc := 11) C dX7_darkPeriods_11 rfl rfl ?_
    refine J.aload_n (pc := 12) C (x := a0) dX7_darkPeriods_12 rfl rfl ?_
    refine J.getR (pc := 13) C fl_RX7_12 rfl dX7_darkPeriods_13 ?_
    refine J.bipush (pc := 16) C dX7_darkPeriods_16 kb_6 ?_
    refine J.vI (pc := 18) C mv_X3_setting wm_RX7_78 (fun l => c_X3_setting l g S (S.2.1 a0 0) 6) ⟨⟨Nat.zero_le _, Nat.zero_le _⟩, rfl, rfl⟩ rfl ⟨Nat.le_of_ble_eq_true rfl, Nat.le_of_ble_eq_true rfl⟩ rfl (ct_i (ct_i ct_n)) (Nat.le_of_ble_eq_true rfl) dX7_darkPeriods_18 (fun r1 => ?_)
    refine J.sI (pc := 21) C ms_X7_isDark wm_RX7_251 (fun l => c_X7_isDark l g S a1 x3 r1) ⟨⟨Nat.zero_le _, Nat.zero_le _⟩, rfl, rfl⟩ rfl ⟨Nat.le_of_ble_eq_true rfl, Nat.le_of_ble_eq_true rfl⟩ rfl ct_n (Nat.le_of_ble_eq_true rfl) dX7_darkPeriods_21 (fun r2 => ?_)
    refine J.if_eq (pc := 24) C (tgt := 33) dX7_darkPeriods_24 rfl ?_ ?_
    · refine J.iinc (pc := 33) C (lv' := [(0, rv g a0), (1, .int a1), (2, .int x2), (3, .int (x3 + 1))]) dX7_darkPeriods_33 rfl (Nat.le_of_ble_eq_true rfl) (lsf_r (lsf_i (lsf_i (lsf_i lsf_n)))) ki_1 rfl ?_
      refine J.goto (pc := 36) C (tgt := 4) dX7_darkPeriods_36 rfl ?_
      exact (hk4 _ _)
    · refine J.iload_n (pc := 27) C dX7_darkPeriods_27 rfl rfl ?_
      refine J.iconst (pc := 28) C dX7_darkPeriods_28 ki_1 ?_
      refine J.iload_n (pc := 29) C dX7_darkPeriods_29 rfl rfl ?_
      refine J.ishl (pc := 30) C dX7_darkPeriods_30 ?_
      refine J.ior (pc := 31) C dX7_darkPeriods_31 ?_
      refine J.istore_n (pc := 32) C (lv' := [(0, rv g a0), (1, .int a1), (2, .int (x2 ||| (1 <<< (x3 &&& 31)))), (3, .int x3)]) dX7_darkPeriods_32 rfl (Nat.le_of_ble_eq_true rfl) (lsf_r (lsf_i (lsf_i (lsf_i lsf_n)))) rfl ?_
      refine J.iinc (pc := 33) C (lv' := [(0, rv g a0), (1, .int a1), (2, .int (x2 ||| (1 <<< (x3 &&& 31)))), (3, .int (x3 + 1))]) dX7_darkPeriods_33 rfl (Nat.le_of_ble_eq_true rfl) (lsf_r (lsf_i (lsf_i (lsf_i lsf_n)))) ki_1 rfl ?_
      refine J.goto (pc := 36) C (tgt := 4) dX7_darkPeriods_36 rfl ?_
      exact (hk4 _ _)
def f_X7_darkPeriods (S : St) (a0 : Nat) (a1 : Int32) : Option Int32 :=
  (wl2 (f_X7_darkPeriods_B4 S a0 a1 (fun (y2_3 : Int32) => (some y2_3))) FU 0 0)
set_option maxRecDepth 100000 in
set_option maxHeartbeats 4000000 in
theorem c_X7_darkPeriods (l : Launch) (g : GG) (S : St) (a0 : Nat) (a1 : Int32) : Ct l yX7_darkPeriods cX7_darkPeriods 4 (some .int) rm_X7_darkPeriods g aI (pK S) [rv g a0, .int a1] S (f_X7_darkPeriods S a0 a1) := by
  refine Ct.mk (cf := cw (0, 0)) (by decide +kernel) (cat_r (cat_i cat_n)) (Nat.le_of_ble_eq_true rfl) rfl ?_
  intro X hXl hin C
  show J X g _ _ 0 [(0, rv g a0), (1, .int a1)] [] S (f_X7_darkPeriods S a0 a1)
  unfold f_X7_darkPeriods
  refine J.iconst (pc := 0) C dX7_darkPeriods_0 ki_0 ?_
  refine J.istore_n (pc := 1) C (lv' := [(0, rv g a0), (1, .int a1), (2, .int 0)]) dX7_darkPeriods_1 rfl (Nat.le_of_ble_eq_true rfl) (lsf_r (lsf_i lsf_n)) rfl ?_
  refine J.iconst (pc := 2) C dX7_darkPeriods_2 ki_0 ?_
  refine J.istore_n (pc := 3) C (lv' := [(0, rv g a0), (1, .int a1), (2, .int 0), (3, .int 0)]) dX7_darkPeriods_3 rfl (Nat.le_of_ble_eq_true rfl) (lsf_r (lsf_i (lsf_i lsf_n))) rfl ?_
  refine w_X7_darkPeriods_B4 C _ _ _ _ (fun y2_3 => ?_) FU _ _
  refine J.iload_n (pc := 39) C dX7_darkPeriods_39 rfl rfl ?_
  exact J.iret (pc := 40) C rfl rfl ⟨Nat.le_refl _, Nat.le_refl _⟩ dX7_darkPeriods_40
abbrev rm_X7_periodsFitting : Room := { frames := 4, cells := 0, slots := 0, locals := 98 }
def f_X7_periodsFitting_J67 (S : St) (a0 : Nat) (a1 : Nat) (kx5 : St → Int32 → Option (Int32 × St)) (k5 : St → Int32 → Int32 → Option (Int32 × St)) (x2 : Int32) (x3 : Int32) (x4 : Int32) (t0 : Int32) : Option (Int32 × St) :=
  (chk (okc S 7 a0) (bnd2 (f_X7_rowFits S a0 a1 x3 100) fun r8 S_9 =>
  (if r8 = 0 then
  (k5 S_9 (x2 &&& (t0 ||| 0)) (x3 + 1))
  else (k5 S_9 (x2 &&& (t0 ||| (x4 ^^^ (-1)))) (x3 + 1)))))
set_option maxRecDepth 100000 in
set_option maxHeartbeats 4000000 in
theorem w_X7_periodsFitting_J67 {X : CT} {g : GG} (C : CX X g cX7_periodsFitting RX7 (some .int) 7 rm_X7_periodsFitting) (S : St) (a0 : Nat) (a1 : Nat) (kx5 : St → Int32 → Option (Int32 × St)) (k5 : St → Int32 → Int32 → Option (Int32 × St)) (x2 : Int32) (x3 : Int32) (x4 : Int32) (t0 : Int32) (hkx5 : ∀ (S : St) (x2 : Int32), J X g (Qm X g aW pW) (cw (0, 0)) 104 [(2, .int x2)] [] S (kx5 S x2)) (hk5 : ∀ (S : St) (x2 : Int32) (x3 : Int32), J X g (Qm X g aW pW) (cw (0, 0)) 5 [(0, rv g a0), (1, rv g a1), (2, .int x2), (3, .int x3)] [] S (k5 S x2 x3)) : J X g (Qm X g aW pW) (cw (0, 0)) 67 [(0, rv g a0), (1, rv g a1), (2, .int x2), (3, .int x3), (4, .int x4)] [.int t0] S (f_X7_periodsFitting_J67 S a0 a1 kx5 k5 x2 x3 x4 t0) := by
  unfold f_X7_periodsFitting_J67
  refine J.istore (pc := 67) C (lv' := [(0, rv g a0), (1, rv g a1), (2, .int x2), (3, .int x3), (4, .int x4), (5, .int t0)]) dX7_periodsFitting_67 (Nat.le_of_ble_eq_true rfl) (lsf_r (lsf_r (lsf_i (lsf_i (lsf_i lsf_n))))) rfl ?_
  refine J.aload_n (pc := 69) C (x := a0) dX7_periodsFitting_69 rfl rfl ?_
  refine J.aload_n (pc := 70) C (x := a1) dX7_periodsFitting_70 rfl rfl ?_
  refine J.iload_n (pc := 71) C dX7_periodsFitting_71 rfl rfl ?_
  refine J.bipush (pc := 72) C dX7_periodsFitting_72 kb_100 ?_
  refine J.vW (pc := 74) C mv_X7_rowFits wm_RX7_244 (fun l => c_X7_rowFits l g S a0 a1 x3 100) ⟨⟨Nat.zero_le _, Nat.zero_le _⟩, rfl, rfl⟩ rfl ⟨Nat.le_of_ble_eq_true rfl, Nat.le_of_ble_eq_true rfl⟩ rfl ct_n (Nat.le_of_ble_eq_true rfl) dX7_periodsFitting_74 (fun r8 S_9 => ?_)
  refine J.if_eq (pc := 77) C (tgt := 87) dX7_periodsFitting_77 rfl ?_ ?_
  · refine J.iconst (pc := 87) C dX7_periodsFitting_87 ki_0 ?_
    refine J.istore (pc := 88) C (lv' := [(0, rv g a0), (1, rv g a1), (2, .int x2), (3, .int x3), (4, .int x4), (5, .int t0), (6, .int 0)]) dX7_periodsFitting_88 (Nat.le_of_ble_eq_true rfl) (lsf_r (lsf_r (lsf_i (lsf_i (lsf_i (lsf_i lsf_n)))))) rfl ?_
    refine J.iload_n (pc := 90) C dX7_periodsFitting_90 rfl rfl ?_
    refine J.iload (pc := 91) C dX7_periodsFitting_91 rfl ?_
    refine J.iload (pc := 93) C dX7_periodsFitting_93 rfl ?_
    refine J.ior (pc := 95) C dX7_periodsFitting_95 ?_
    refine J.iand (pc := 96) C dX7_periodsFitting_96 ?_
    refine J.istore_n (pc := 97) C (lv' := [(0, rv g a0), (1, rv g a1), (2, .int (x2 &&& (t0 ||| 0))), (3, .int x3), (4, .int x4), (5, .int t0), (6, .int 0)]) dX7_periodsFitting_97 rfl (Nat.le_of_ble_eq_true rfl) (lsf_r (lsf_r (lsf_i (lsf_i (lsf_i (lsf_i (lsf_i lsf_n))))))) rfl ?_
    refine J.iinc (pc := 98) C (lv' := [(0, rv g a0), (1, rv g a1), (2, .int (x2 &&& (t0 ||| 0))), (3, .int (x3 + 1)), (4, .int x4), (5, .int t0), (6, .int 0)]) dX7_periodsFitting_98 rfl (Nat.le_of_ble_eq_true rfl) (lsf_r (lsf_r (lsf_i (lsf_i (lsf_i (lsf_i (lsf_i lsf_n))))))) ki_1 rfl ?_
    refine J.goto (pc := 101) C (tgt := 5) dX7_periodsFitting_101 rfl ?_
    exact J.pick [0, 1, 2, 3] rfl (hk5 _ _ _)
  · refine J.iload (pc := 80) C dX7_periodsFitting_80 rfl ?_
    refine J.iconst (pc := 82) C dX7_periodsFitting_82 ki_m1 ?_
    refine J.ixor (pc := 83) C dX7_periodsFitting_83 ?_
    refine J.goto (pc := 84) C (tgt := 88) dX7_periodsFitting_84 rfl ?_
    refine J.istore (pc := 88) C (lv' := [(0, rv g a0), (1, rv g a1), (2, .int x2), (3, .int x3), (4, .int x4), (5, .int t0), (6, .int (x4 ^^^ (-1)))]) dX7_periodsFitting_88 (Nat.le_of_ble_eq_true rfl) (lsf_r (lsf_r (lsf_i (lsf_i (lsf_i (lsf_i lsf_n)))))) rfl ?_
    refine J.iload_n (pc := 90) C dX7_periodsFitting_90 rfl rfl ?_
    refine J.iload (pc := 91) C dX7_periodsFitting_91 rfl ?_
    refine J.iload (pc := 93) C dX7_periodsFitting_93 rfl ?_
    refine J.ior (pc := 95) C dX7_periodsFitting_95 ?_
    refine J.iand (pc := 96) C dX7_periodsFitting_96 ?_
    refine J.istore_n (pc := 97) C (lv' := [(0, rv g a0), (1, rv g a1), (2, .int (x2 &&& (t0 ||| (x4 ^^^ (-1))))), (3, .int x3), (4, .int x4), (5, .int t0), (6, .int (x4 ^^^ (-1)))]) dX7_periodsFitting_97 rfl (Nat.le_of_ble_eq_true rfl) (lsf_r (lsf_r (lsf_i (lsf_i (lsf_i (lsf_i (lsf_i lsf_n))))))) rfl ?_
    refine J.iinc (pc := 98) C (lv' := [(0, rv g a0), (1, rv g a1), (2, .int (x2 &&& (t0 ||| (x4 ^^^ (-1))))), (3, .int (x3 + 1)), (4, .int x4), (5, .int t0), (6, .int (x4 ^^^ (-1)))]) dX7_periodsFitting_98 rfl (Nat.le_of_ble_eq_true rfl) (lsf_r (lsf_r (lsf_i (lsf_i (lsf_i (lsf_i (lsf_i lsf_n))))))) ki_1 rfl ?_
    refine J.goto (pc := 101) C (tgt := 5) dX7_periodsFitting_101 rfl ?_
    exact J.pick [0, 1, 2, 3] rfl (hk5 _ _ _)
def f_X7_periodsFitting_B5 (a0 : Nat) (a1 : Nat) (kx5 : St → Int32 → Option (Int32 × St)) (k5 : St → Int32 → Int32 → Option (Int32 × St)) (S : St) (x2 : Int32) (x3 : Int32) : Option (Int32 × St) :=
  (chk (okc S 7 a0)
  (chk (okc S 3 (S.2.1 a0 0)) (bnd (f_X3_setting S (S.2.1 a0 0) 0) fun r1 =>
  (if r1 ≤ x3 then
  (kx5 S x2)
  else (chk (okc S 0 a1)
  (bnd (f_X7_holds (S.1 a1 1) x3) fun r2 =>
  (if r2 = 0 then
  (chk (okc S 7 a0)
  (chk (okc S 3 (S.2.1 a0 0)) (bnd (f_X3_timeOfRow S (S.2.1 a0 0) a1 x3) fun r3 =>
  (chk (okc S 7 a0) (bnd (f_X7_darkPeriods S a0 r3) fun r4 =>
  (chk (okc S 7 a0)
  (chk (okc S 3 (S.2.1 a0 0)) (bnd (f_X3_setting S (S.2.1 a0 0) 7) fun r5 =>
  (chk (okc S 7 a0) (bnd2 (f_X7_rowFits S a0 a1 x3 r5) fun r6 S_7 =>
  (if r6 = 0 then
  (f_X7_periodsFitting_J67 S_7 a0 a1 kx5 k5 x2 x3 r4 0)
  else (f_X7_periodsFitting_J67 S_7 a0 a1 kx5 k5 x2 x3 r4 r4))))))))))))
  else (k5 S x2 (x3 + 1)))))))))
set_option maxRecDepth 100000 in
set_option maxHeartbeats 4000000 in
theorem w_X7_periodsFitting_B5 {X : CT} {g : GG} (C : CX X g cX7_periodsFitting RX7 (some .int) 7 rm_X7_periodsFitting) (a0 : Nat) (a1 : Nat) (kx5 : St → Int32 → Option (Int32 × St)) (hkx5 : ∀ (S : St) (x2 : Int32), J X g (Qm X g aW pW) (cw (0, 0)) 104 [(2, .int x2)] [] S (kx5 S x2)) : ∀ (n : Nat) (S : St) (x2 : Int32) (x3 : Int32), J X g (Qm X g aW pW) (cw (0, 0)) 5 [(0, rv g a0), (1, rv g a1), (2, .int x2), (3, .int x3)] [] S (wl3 (f_X7_periodsFitting_B5 a0 a1 kx5) n S x2 x3) := by
  refine J.loop3 (lvf := fun (S : St) (x2 : Int32) (x3 : Int32) => [(0, rv g a0), (1, rv g a1), (2, .int x2), (3, .int x3)]) (Sf := fun (S : St) (x2 : Int32) (x3 : Int32) => S) ?_
  intro k5 hk5 S x2 x3
  show J X g _ _ 5 [(0, rv g a0), (1, rv g a1), (2, .int x2), (3, .int x3)] [] S (f_X7_periodsFitting_B5 a0 a1 kx5 k5 S x2 x3)
  unfold f_X7_periodsFitting_B5
  refine J.iload_n (pc := 5) C dX7_periodsFitting_5 rfl rfl ?_
  refine J.aload_n (pc := 6) C (x := a0) dX7_periodsFitting_6 rfl rfl ?_
  refine J.getR (pc := 7) C fl_RX7_12 rfl dX7_periodsFitting_7 ?_
  refine J.iconst (pc := 10) C dX7_periodsFitting_10 ki_0 ?_
  refine J.vI (pc := 11) C mv_X3_setting wm_RX7_78 (fun l => c_X3_setting l g S (S.2.1 a0 0) 0) ⟨⟨Nat.zero_le _, Nat.zero_le _⟩, rfl, rfl⟩ rfl ⟨Nat.le_of_ble_eq_true rfl, Nat.le_of_ble_eq_true rfl⟩ rfl (ct_i ct_n) (Nat.le_of_ble_eq_true rfl) dX7_periodsFitting_11 (fun r1 => ?_)
  refine J.icmp_ge (pc := 14) C (tgt := 104) dX7_periodsFitting_14 rfl ?_ ?_
  · exact J.pick [2] rfl (hkx5 _ _)
  · refine J.aload_n (pc := 17) C (x := a1) dX7_periodsFitting_17 rfl rfl ?_
    refine J.getI (pc := 18) C fl_RX7_158 rfl dX7_periodsFitting_18 ?_
    refine J.iload_n (pc := 21) C dX7_periodsFitting_21 rfl rfl ?_
    refine J.sI (pc := 22) C ms_X7_holds wm_RX7_122 (fun l => c_X7_holds l g S (S.1 a1 1) x3) ⟨⟨Nat.zero_le _, Nat.zero_le _⟩, rfl, rfl⟩ rfl ⟨Nat.le_of_ble_eq_true rfl, Nat.le_of_ble_eq_true rfl⟩ rfl ct_n (Nat.le_of_ble_eq_true rfl) dX7_periodsFitting_22 (fun r2 => ?_)
    refine J.if_ne (pc := 25) C (tgt := 98) dX7_periodsFitting_25 rfl ?_ ?_
    · refine J.iinc (pc := 98) C (lv' := [(0, rv g a0), (1, rv g a1), (2, .int x2), (3, .int (x3 + 1))]) dX7_periodsFitting_98 rfl (Nat.le_of_ble_eq_true rfl) (lsf_r (lsf_r (lsf_i (lsf_i lsf_n)))) ki_1 rfl ?_
      refine J.goto (pc := 101) C (tgt := 5) dX7_periodsFitting_101 rfl ?_
      exact (hk5 _ _ _)
    · refine J.aload_n (pc := 28) C (x := a0) dX7_periodsFitting_28 rfl rfl ?_
      refine J.aload_n (pc := 29) C (x := a0) dX7_periodsFitting_29 rfl rfl ?_
      refine J.getR (pc := 30) C fl_RX7_12 rfl dX7_periodsFitting_30 ?_
      refine J.aload_n (pc := 33) C (x := a1) dX7_periodsFitting_33 rfl rfl ?_
      refine J.iload_n (pc := 34) C dX7_periodsFitting_34 rfl rfl ?_
      refine J.vI (pc := 35) C mv_X3_timeOfRow wm_RX7_241 (fun l => c_X3_timeOfRow l g S (S.2.1 a0 0) a1 x3) ⟨⟨Nat.zero_le _, Nat.zero_le _⟩, rfl, rfl⟩ rfl ⟨Nat.le_of_ble_eq_true rfl, Nat.le_of_ble_eq_true rfl⟩ rfl (ct_r ct_n) (Nat.le_of_ble_eq_true rfl) dX7_periodsFitting_35 (fun r3 => ?_)
      refine J.vI (pc := 38) C mv_X7_darkPeriods wm_RX7_299 (fun l => c_X7_darkPeriods l g S a0 r3) ⟨⟨Nat.zero_le _, Nat.zero_le _⟩, rfl, rfl⟩ rfl ⟨Nat.le_of_ble_eq_true rfl, Nat.le_of_ble_eq_true rfl⟩ rfl ct_n (Nat.le_of_ble_eq_true rfl) dX7_periodsFitting_38 (fun r4 => ?_)
      refine J.istore (pc := 41) C (lv' := [(0, rv g a0), (1, rv g a1), (2, .int x2), (3, .int x3), (4, .int r4)]) dX7_periodsFitting_41 (Nat.le_of_ble_eq_true rfl) (lsf_r (lsf_r (lsf_i (lsf_i lsf_n)))) rfl ?_
      refine J.aload_n (pc := 43) C (x := a0) dX7_periodsFitting_43 rfl rfl ?_
      refine J.aload_n (pc := 44) C (x := a1) dX7_periodsFitting_44 rfl rfl ?_
      refine J.iload_n (pc := 45) C dX7_periodsFitting_45 rfl rfl ?_
      refine J.aload_n (pc := 46) C (x := a0) dX7_periodsFitting_46 rfl rfl ?_
      refine J.getR (pc := 47) C fl_RX7_12 rfl dX7_periodsFitting_47 ?_
      refine J.bipush (pc := 50) C dX7_periodsFitting_50 kb_7 ?_
      refine J.vI (pc := 52) C mv_X3_setting wm_RX7_78 (fun l => c_X3_setting l g S (S.2.1 a0 0) 7) ⟨⟨Nat.zero_le _, Nat.zero_le _⟩, rfl, rfl⟩ rfl ⟨Nat.le_of_ble_eq_true rfl, Nat.le_of_ble_eq_true rfl⟩ rfl (ct_i (ct_r (ct_r ct_n))) (Nat.le_of_ble_eq_true rfl) dX7_periodsFitting_52 (fun r5 => ?_)
      refine J.vW (pc := 55) C mv_X7_rowFits wm_RX7_244 (fun l => c_X7_rowFits l g S a0 a1 x3 r5) ⟨⟨Nat.zero_le _, Nat.zero_le _⟩, rfl, rfl⟩ rfl ⟨Nat.le_of_ble_eq_true rfl, Nat.le_of_ble_eq_true rfl⟩ rfl ct_n (Nat.le_of_ble_eq_true rfl) dX7_periodsFitting_55 (fun r6 S_7 => ?_)
      refine J.if_eq (pc := 58) C (tgt := 66) dX7_periodsFitting_58 rfl ?_ ?_
      · refine J.iconst (pc := 66) C dX7_periodsFitting_66 ki_0 ?_
        exact (w_X7_periodsFitting_J67 C _ _ _ _ _ _ _ _ _ hkx5 hk5)
      · refine J.iload (pc := 61) C dX7_periodsFitting_61 rfl ?_
        refine J.goto (pc := 63) C (tgt := 67) dX7_periodsFitting_63 rfl ?_
        exact (w_X7_periodsFitting_J67 C _ _ _ _ _ _ _ _ _ hkx5 hk5)
def f_X7_periodsFitting (S : St) (a0 : Nat) (a1 : Nat) : Option (Int32 × St) :=
  (wl3 (f_X7_periodsFitting_B5 a0 a1 (fun (S_11 : St) (y2_10 : Int32) => (some (y2_10, S_11)))) FU S 2097151 0)
set_option maxRecDepth 100000 in
set_option maxHeartbeats 4000000 in
theorem c_X7_periodsFitting (l : Launch) (g : GG) (S : St) (a0 : Nat) (a1 : Nat) : Ct l yX7_periodsFitting cX7_periodsFitting 7 (some .int) rm_X7_periodsFitting g aW pW [rv g a0, rv g a1] S (f_X7_periodsFitting S a0 a1) := by
  refine Ct.mk (cf := cw (0, 0)) (by decide +kernel) (cat_r (cat_r cat_n)) (Nat.le_of_ble_eq_true rfl) rfl ?_
  intro X hXl hin C
  show J X g _ _ 0 [(0, rv g a0), (1, rv g a1)] [] S (f_X7_periodsFitting S a0 a1)
  unfold f_X7_periodsFitting
  refine J.ldc (pc := 0) C wc_RX7_237 dX7_periodsFitting_0 ?_
  refine J.istore_n (pc := 2) C (lv' := [(0, rv g a0), (1, rv g a1), (2, .int 2097151)]) dX7_periodsFitting_2 rfl (Nat.le_of_ble_eq_true rfl) (lsf_r (lsf_r lsf_n)) rfl ?_
  refine J.iconst (pc := 3) C dX7_periodsFitting_3 ki_0 ?_
  refine J.istore_n (pc := 4) C (lv' := [(0, rv g a0), (1, rv g a1), (2, .int 2097151), (3, .int 0)]) dX7_periodsFitting_4 rfl (Nat.le_of_ble_eq_true rfl) (lsf_r (lsf_r (lsf_i lsf_n))) rfl ?_
  refine w_X7_periodsFitting_B5 C _ _ _ (fun S_11 y2_10 => ?_) FU _ _ _
  refine J.iload_n (pc := 104) C dX7_periodsFitting_104 rfl rfl ?_
  exact J.iret (pc := 105) C rfl rfl ⟨Nat.le_refl _, Nat.le_refl _⟩ dX7_periodsFitting_105
abbrev rm_X7_periods : Room := { frames := 5, cells := 0, slots := 0, locals := 124 }
def f_X7_periods_B5 (a0 : Nat) (kx5 : St → Int32 → Option (Int32 × St)) (k5 : St → Int32 → Int32 → Option (Int32 × St)) (S : St) (x1 : Int32) (x2 : Int32) : Option (Int32 × St) :=
  (chk (okc S 7 a0)
  (chk (okc S 3 (S.2.1 a0 0))
  (if (S.1 (S.2.1 a0 0) 4) ≤ x2 then
  (kx5 S x1)
  else (chk (okc S 7 a0)
  (chk (okc S 3 (S.2.1 a0 0)) (bnd (f_X3_frameAt S (S.2.1 a0 0) x2) fun r1 =>
  (if r1 = 0 then
  (k5 S x1 (x2 + 1))
  else (chk (okc S 7 a0) (bnd2 (f_X7_periodsFitting S a0 r1) fun r2 S_3 =>
  (k5 S_3 (x1 &&& r2) (x2 + 1)))))))))))
set_option maxRecDepth 100000 in
set_option maxHeartbeats 4000000 in
theorem w_X7_periods_B5 {X : CT} {g : GG} (C : CX X g cX7_periods RX7 (some .int) 4 rm_X7_periods) (a0 : Nat) (kx5 : St → Int32 → Option (Int32 × St)) (hkx5 : ∀ (S : St) (x1 : Int32), J X g (Qm X g aW pW) (cw (0, 0)) 43 [(1, .int x1)] [] S (kx5 S x1)) : ∀ (n : Nat) (S : St) (x1 : Int32) (x2 : Int32), J X g (Qm X g aW pW) (cw (0, 0)) 5 [(0, rv g a0), (1, .int x1), (2, .int x2)] [] S (wl3 (f_X7_periods_B5 a0 kx5) n S x1 x2) := by
  refine J.loop3 (lvf := fun (S : St) (x1 : Int32) (x2 : Int32) => [(0, rv g a0), (1, .int x1), (2, .int x2)]) (Sf := fun (S : St) (x1 : Int32) (x2 : Int32) => S) ?_
  intro k5 hk5 S x1 x2
  show J X g _ _ 5 [(0, rv g a0), (1, .int x1), (2, .int x2)] [] S (f_X7_periods_B5 a0 kx5 k5 S x1 x2)
  unfold f_X7_periods_B5
  refine J.iload_n (pc := 5) C dX7_periods_5 rfl rfl ?_
  refine J.aload_n (pc := 6) C (x := a0) dX7_periods_6 rfl rfl ?_
  refine J.getR (pc := 7) C fl_RX7_12 rfl dX7_periods_7 ?_
  refine J.getI (pc := 10) C fl_RX7_71 rfl dX7_periods_10 ?_
  refine J.icmp_ge (pc := 13) C (tgt := 43) dX7_periods_13 rfl ?_ ?_
  · exact J.pick [1] rfl (hkx5 _ _)
  · refine J.aload_n (pc := 16) C (x := a0) dX7_periods_16 rfl rfl ?_
    refine J.getR (pc := 17) C fl_RX7_12 rfl dX7_periods_17 ?_
    refine J.iload_n (pc := 20) C dX7_periods_20 rfl rfl ?_
    refine J.vR (pc := 21) C mv_X3_frameAt wm_RX7_149 (fun l => c_X3_frameAt l g S (S.2.1 a0 0) x2) ⟨⟨Nat.zero_le _, Nat.zero_le _⟩, rfl, rfl⟩ rfl ⟨Nat.le_of_ble_eq_true rfl, Nat.le_of_ble_eq_true rfl⟩ rfl ct_n (Nat.le_of_ble_eq_true rfl) dX7_periods_21 (fun r1 => ?_)
    refine J.astore_n (pc := 24) C (lv' := [(0, rv g a0), (1, .int x1), (2, .int x2), (3, rv g r1)]) dX7_periods_24 rfl (Nat.le_of_ble_eq_true rfl) (lsf_r (lsf_i (lsf_i lsf_n))) rfl ?_
    refine J.aload_n (pc := 25) C (x := r1) dX7_periods_25 rfl rfl ?_
    refine J.ifnull (pc := 26) C (tgt := 37) dX7_periods_26 rfl ?_ ?_
    · refine J.iinc (pc := 37) C (lv' := [(0, rv g a0), (1, .int x1), (2, .int (x2 + 1)), (3, rv g r1)]) dX7_periods_37 rfl (Nat.le_of_ble_eq_true rfl) (lsf_r (lsf_i (lsf_i (lsf_r lsf_n)))) ki_1 rfl ?_
      refine J.goto (pc := 40) C (tgt := 5) dX7_periods_40 rfl ?_
      exact J.pick [0, 1, 2] rfl (hk5 _ _ _)
    · refine J.iload_n (pc := 29) C dX7_periods_29 rfl rfl ?_
      refine J.aload_n (pc := 30) C (x := a0) dX7_periods_30 rfl rfl ?_
      refine J.aload_n (pc := 31) C (x := r1) dX7_periods_31 rfl rfl ?_
      refine J.vW (pc := 32) C mv_X7_periodsFitting wm_RX7_238 (fun l => c_X7_periodsFitting l g S a0 r1) ⟨⟨Nat.zero_le _, Nat.zero_le _⟩, rfl, rfl⟩ rfl ⟨Nat.le_of_ble_eq_true rfl, Nat.le_of_ble_eq_true rfl⟩ rfl (ct_i ct_n) (Nat.le_of_ble_eq_true rfl) dX7_periods_32 (fun r2 S_3 => ?_)
      refine J.iand (pc := 35) C dX7_periods_35 ?_
      refine J.istore_n (pc := 36) C (lv' := [(0, rv g a0), (1, .int (x1 &&& r2)), (2, .int x2), (3, rv g r1)]) dX7_periods_36 rfl (Nat.le_of_ble_eq_true rfl) (lsf_r (lsf_i (lsf_i (lsf_r lsf_n)))) rfl ?_
      refine J.iinc (pc := 37) C (lv' := [(0, rv g a0), (1, .int (x1 &&& r2)), (2, .int (x2 + 1)), (3, rv g r1)]) dX7_periods_37 rfl (Nat.le_of_ble_eq_true rfl) (lsf_r (lsf_i (lsf_i (lsf_r lsf_n)))) ki_1 rfl ?_
      refine J.goto (pc := 40) C (tgt := 5) dX7_periods_40 rfl ?_
      exact J.pick [0, 1, 2] rfl (hk5 _ _ _)
def f_X7_periods (S : St) (a0 : Nat) : Option (Int32 × St) :=
  (wl3 (f_X7_periods_B5 a0 (fun (S_5 : St) (y1_4 : Int32) => (some (y1_4, S_5)))) FU S 2097151 0)
set_option maxRecDepth 100000 in
set_option maxHeartbeats 4000000 in
theorem c_X7_periods (l : Launch) (g : GG) (S : St) (a0 : Nat) : Ct l yX7_periods cX7_periods 4 (some .int) rm_X7_periods g aW pW [rv g a0] S (f_X7_periods S a0) := by
  refine Ct.mk (cf := cw (0, 0)) (by decide +kernel) (cat_r cat_n) (Nat.le_of_ble_eq_true rfl) rfl ?_
  intro X hXl hin C
  show J X g _ _ 0 [(0, rv g a0)] [] S (f_X7_periods S a0)
  unfold f_X7_periods
  refine J.ldc (pc := 0) C wc_RX7_237 dX7_periods_0 ?_
  refine J.istore_n (pc := 2) C (lv' := [(0, rv g a0), (1, .int 2097151)]) dX7_periods_2 rfl (Nat.le_of_ble_eq_true rfl) (lsf_r lsf_n) rfl ?_
  refine J.iconst (pc := 3) C dX7_periods_3 ki_0 ?_
  refine J.istore_n (pc := 4) C (lv' := [(0, rv g a0), (1, .int 2097151), (2, .int 0)]) dX7_periods_4 rfl (Nat.le_of_ble_eq_true rfl) (lsf_r (lsf_i lsf_n)) rfl ?_
  refine w_X7_periods_B5 C _ _ (fun S_5 y1_4 => ?_) FU _ _ _
  refine J.iload_n (pc := 43) C dX7_periods_43 rfl rfl ?_
  exact J.iret (pc := 44) C rfl rfl ⟨Nat.le_refl _, Nat.le_refl _⟩ dX7_periods_44
abbrev rm_X5_numberOf : Room := { frames := 0, cells := 0, slots := 0, locals := 0 }
def f_X5_numberOf (S : St) (a0 : Nat) (a1 : Int32) : Option Int32 :=
  (if a1 = 0 then
  (chk (okc S 5 a0)
  (some (S.1 a0 0)))
  else (if a1 = 1 then
  (chk (okc S 5 a0)
  (some (S.1 a0 1)))
  else (if a1 = 2 then
  (chk (okc S 5 a0)
  (some (S.1 a0 2)))
  else (if a1 = 3 then
  (chk (okc S 5 a0)
  (some (S.1 a0 3)))
  else (if a1 = 4 then
  (chk (okc S 5 a0)
  (some (S.1 a0 4)))
  else (chk (okc S 5 a0)
  (some (S.1 a0 5))))))))
set_option maxRecDepth 100000 in
set_option maxHeartbeats 4000000 in
theorem c_X5_numberOf (l : Launch) (g : GG) (S : St) (a0 : Nat) (a1 : Int32) : Ct l yX5_numberOf cX5_numberOf 2 (some .int) rm_X5_numberOf g aI (pK S) [rv g a0, .int a1] S (f_X5_numberOf S a0 a1) := by
  refine Ct.mk (cf := cw (0, 0)) (by decide +kernel) (cat_r (cat_i cat_n)) (Nat.le_of_ble_eq_true rfl) rfl ?_
  intro X hXl hin C
  show J X g _ _ 0 [(0, rv g a0), (1, .int a1)] [] S (f_X5_numberOf S a0 a1)
  unfold f_X5_numberOf
  refine J.iload_n (pc := 0) C dX5_numberOf_0 rfl rfl ?_
  refine J.ite (fun h0 => ?_) (fun h0 => ?_)
  · refine J.tswIn (pc := 1) C (tgt := 36) 0 dX5_numberOf_1 h0 (by decide) (by decide) rfl rfl ?_
    refine J.aload_n (pc := 36) C (x := a0) dX5_numberOf_36 rfl rfl ?_
    refine J.getI (pc := 37) C fl_RX5_7 rfl dX5_numberOf_37 ?_
    exact J.iret (pc := 40) C rfl rfl ⟨Nat.le_refl _, Nat.le_refl _⟩ dX5_numberOf_40
  · refine J.ite (fun h1 => ?_) (fun h1 => ?_)
    · refine J.tswIn (pc := 1) C (tgt := 41) 1 dX5_numberOf_1 h1 (by decide) (by decide) rfl rfl ?_
      refine J.aload_n (pc := 41) C (x := a0) dX5_numberOf_41 rfl rfl ?_
      refine J.getI (pc := 42) C fl_RX5_13 rfl dX5_numberOf_42 ?_
      exact J.iret (pc := 45) C rfl rfl ⟨Nat.le_refl _, Nat.le_refl _⟩ dX5_numberOf_45
    · refine J.ite (fun h2 => ?_) (fun h2 => ?_)
      · refine J.tswIn (pc := 1) C (tgt := 46) 2 dX5_numberOf_1 h2 (by decide) (by decide) rfl rfl ?_
        refine J.aload_n (pc := 46) C (x := a0) dX5_numberOf_46 rfl rfl ?_
        refine J.getI (pc := 47) C fl_RX5_16 rfl dX5_numberOf_47 ?_
        exact J.iret (pc := 50) C rfl rfl ⟨Nat.le_refl _, Nat.le_refl _⟩ dX5_numberOf_50
      · refine J.ite (fun h3 => ?_) (fun h3 => ?_)
        · refine J.tswIn (pc := 1) C (tgt := 51) 3 dX5_numberOf_1 h3 (by decide) (by decide) rfl rfl ?_
          refine J.aload_n (pc := 51) C (x := a0) dX5_numberOf_51 rfl rfl ?_
          refine J.getI (pc := 52) C fl_RX5_19 rfl dX5_numberOf_52 ?_
          exact J.iret (pc := 55) C rfl rfl ⟨Nat.le_refl _, Nat.le_refl _⟩ dX5_numberOf_55
        · refine J.ite (fun h4 => ?_) (fun h4 => ?_)
          · refine J.tswIn (pc := 1) C (tgt := 56) 4 dX5_numberOf_1 h4 (by decide) (by decide) rfl rfl ?_
            refine J.aload_n (pc := 56) C (x := a0) dX5_numberOf_56 rfl rfl ?_
            refine J.getI (pc := 57) C fl_RX5_22 rfl dX5_numberOf_57 ?_
            exact J.iret (pc := 60) C rfl rfl ⟨Nat.le_refl _, Nat.le_refl _⟩ dX5_numberOf_60
          · refine J.tswOut (pc := 1) C (tgt := 61) dX5_numberOf_1 (by have e0 := lv_neT h0 (a := 0) rfl; have e1 := lv_neT h1 (a := 1) rfl; have e2 := lv_neT h2 (a := 2) rfl; have e3 := lv_neT h3 (a := 3) rfl; have e4 := lv_neT h4 (a := 4) rfl; omega) rfl ?_
            refine J.aload_n (pc := 61) C (x := a0) dX5_numberOf_61 rfl rfl ?_
            refine J.getI (pc := 62) C fl_RX5_25 rfl dX5_numberOf_62 ?_
            exact J.iret (pc := 65) C rfl rfl ⟨Nat.le_refl _, Nat.le_refl _⟩ dX5_numberOf_65
abbrev rm_X7_thingOf : Room := { frames := 1, cells := 0, slots := 0, locals := 22 }
def f_X7_thingOf (S : St) (a0 : Nat) (a1 : Int32) (a2 : Int32) : Option Int32 :=
  (chk (okc S 7 a0)
  (chk (okc S 3 (S.2.1 a0 0)) (bnd (f_X3_thingAt S (S.2.1 a0 0) a1) fun r1 =>
  (if r1 = 0 then
  (some (-10000001))
  else (bnd (f_X7_isWithin a2 0 6) fun r2 =>
  (if r2 = 0 then
  (some (-10000001))
  else (if a2 = 6 then
  (chk (okc S 7 a0)
  (chk (okc S 3 (S.2.1 a0 0))
  (chk (okc S 5 r1) (bnd (f_X5_positionAt S r1 (S.1 (S.2.1 a0 0) 6)) fun r4 =>
  (some r4)))))
  else (chk (okc S 5 r1) (bnd (f_X5_numberOf S r1 a2) fun r3 =>
  (some r3))))))))))
set_option maxRecDepth 100000 in
set_option maxHeartbeats 4000000 in
theorem c_X7_thingOf (l : Launch) (g : GG) (S : St) (a0 : Nat) (a1 : Int32) (a2 : Int32) : Ct l yX7_thingOf cX7_thingOf 4 (some .int) rm_X7_thingOf g aI (pK S) [rv g a0, .int a1, .int a2] S (f_X7_thingOf S a0 a1 a2) := by
  refine Ct.mk (cf := cw (0, 0)) (by decide +kernel) (cat_r (cat_i (cat_i cat_n))) (Nat.le_of_ble_eq_true rfl) rfl ?_
  intro X hXl hin C
  show J X g _ _ 0 [(0, rv g a0), (1, .int a1), (2, .int a2)] [] S (f_X7_thingOf S a0 a1 a2)
  unfold f_X7_thingOf
  refine J.aload_n (pc := 0) C (x := a0) dX7_thingOf_0 rfl rfl ?_
  refine J.getR (pc := 1) C fl_RX7_12 rfl dX7_thingOf_1 ?_
  refine J.iload_n (pc := 4) C dX7_thingOf_4 rfl rfl ?_
  refine J.vR (pc := 5) C mv_X3_thingAt wm_RX7_98 (fun l => c_X3_thingAt l g S (S.2.1 a0 0) a1) ⟨⟨Nat.zero_le _, Nat.zero_le _⟩, rfl, rfl⟩ rfl ⟨Nat.le_of_ble_eq_true rfl, Nat.le_of_ble_eq_true rfl⟩ rfl ct_n (Nat.le_of_ble_eq_true rfl) dX7_thingOf_5 (fun r1 => ?_)
  refine J.astore_n (pc := 8) C (lv' := [(0, rv g a0), (1, .int a1), (2, .int a2), (3, rv g r1)]) dX7_thingOf_8 rfl (Nat.le_of_ble_eq_true rfl) (lsf_r (lsf_i (lsf_i lsf_n))) rfl ?_
  refine J.aload_n (pc := 9) C (x := r1) dX7_thingOf_9 rfl rfl ?_
  refine J.ifnull (pc := 10) C (tgt := 23) dX7_thingOf_10 rfl ?_ ?_
  · refine J.ldc (pc := 23) C wc_RX7_60 dX7_thingOf_23 ?_
    exact J.iret (pc := 25) C rfl rfl ⟨Nat.le_refl _, Nat.le_refl _⟩ dX7_thingOf_25
  · refine J.iload_n (pc := 13) C dX7_thingOf_13 rfl rfl ?_
    refine J.iconst (pc := 14) C dX7_thingOf_14 ki_0 ?_
    refine J.bipush (pc := 15) C dX7_thingOf_15 kb_6 ?_
    refine J.sI (pc := 17) C ms_X7_isWithin wm_RX7_56 (fun l => c_X7_isWithin l g S a2 0 6) ⟨⟨Nat.zero_le _, Nat.zero_le _⟩, rfl, rfl⟩ rfl ⟨Nat.le_of_ble_eq_true rfl, Nat.le_of_ble_eq_true rfl⟩ rfl ct_n (Nat.le_of_ble_eq_true rfl) dX7_thingOf_17 (fun r2 => ?_)
    refine J.if_ne (pc := 20) C (tgt := 26) dX7_thingOf_20 rfl ?_ ?_
    · refine J.iload_n (pc := 26) C dX7_thingOf_26 rfl rfl ?_
      refine J.bipush (pc := 27) C dX7_thingOf_27 kb_6 ?_
      refine J.icmp_ne (pc := 29) C (tgt := 46) dX7_thingOf_29 rfl ?_ ?_
      · refine J.aload_n (pc := 46) C (x := r1) dX7_thingOf_46 rfl rfl ?_
        refine J.iload_n (pc := 47) C dX7_thingOf_47 rfl rfl ?_
        refine J.vI (pc := 48) C mv_X5_numberOf wm_RX7_116 (fun l => c_X5_numberOf l g S r1 a2) ⟨⟨Nat.zero_le _, Nat.zero_le _⟩, rfl, rfl⟩ rfl ⟨Nat.le_of_ble_eq_true rfl, Nat.le_of_ble_eq_true rfl⟩ rfl ct_n (Nat.le_of_ble_eq_true rfl) dX7_thingOf_48 (fun r3 => ?_)
        exact J.iret (pc := 51) C rfl rfl ⟨Nat.le_refl _, Nat.le_refl _⟩ dX7_thingOf_51
      · refine J.aload_n (pc := 32) C (x := r1) dX7_thingOf_32 rfl rfl ?_
        refine J.aload_n (pc := 33) C (x := a0) dX7_thingOf_33 rfl rfl ?_
        refine J.getR (pc := 34) C fl_RX7_12 rfl dX7_thingOf_34 ?_
        refine J.getI (pc := 37) C fl_RX7_107 rfl dX7_thingOf_37 ?_
        refine J.vI (pc := 40) C mv_X5_positionAt wm_RX7_113 (fun l => c_X5_positionAt l g S r1 (S.1 (S.2.1 a0 0) 6)) ⟨⟨Nat.zero_le _, Nat.zero_le _⟩, rfl, rfl⟩ rfl ⟨Nat.le_of_ble_eq_true rfl, Nat.le_of_ble_eq_true rfl⟩ rfl ct_n (Nat.le_of_ble_eq_true rfl) dX7_thingOf_40 (fun r4 => ?_)
        refine J.goto (pc := 43) C (tgt := 51) dX7_thingOf_43 rfl ?_
        exact J.iret (pc := 51) C rfl rfl ⟨Nat.le_refl _, Nat.le_refl _⟩ dX7_thingOf_51
    · refine J.ldc (pc := 23) C wc_RX7_60 dX7_thingOf_23 ?_
      exact J.iret (pc := 25) C rfl rfl ⟨Nat.le_refl _, Nat.le_refl _⟩ dX7_thingOf_25
abbrev rm_L_fits : Room := { frames := 7, cells := 0, slots := 0, locals := 176 }
def f_L_fits_B12 (a0 : Nat) (a1 : Int32) (a2 : Int32) (kx12 : St → Int32 → Option (Int32 × St)) (k12 : St → Int32 → Int32 → Option (Int32 × St)) (S : St) (x3 : Int32) (x4 : Int32) : Option (Int32 × St) :=
  (chk (okc S 7 a0) (bnd (f_X7_count S a0 1) fun r2 =>
  (if r2 ≤ x4 then
  (kx12 S x3)
  else (if x3 = 0 then
  (k12 S 0 (x4 + 1))
  else (chk (okc S 7 a0) (bnd2 (f_X7_fitting S a0 x4) fun r3 S_4 =>
  (chk (okc S_4 7 a0) (bnd (f_X7_frameOf S_4 a0 x4 1) fun r5 =>
  (if (r3 ||| r5) = ((1 <<< (a2 &&& 31)) - 1) then
  (k12 S_4 1 (x4 + 1))
  else (k12 S_4 0 (x4 + 1)))))))))))
set_option maxRecDepth 100000 in
set_option maxHeartbeats 4000000 in
theorem w_L_fits_B12 {X : CT} {g : GG} (C : CX X g cL_fits RL (some .boolean) 11 rm_L_fits) (a0 : Nat) (a1 : Int32) (a2 : Int32) (kx12 : St → Int32 → Option (Int32 × St)) (hkx12 : ∀ (S : St) (x3 : Int32), J X g (Qm X g aW pW) (cw (0, 0)) 60 [(0, rv g a0), (1, .int a1), (3, .int x3)] [] S (kx12 S x3)) : ∀ (n : Nat) (S : St) (x3 : Int32) (x4 : Int32), J X g (Qm X g aW pW) (cw (0, 0)) 12 [(0, rv g a0), (1, .int a1), (2, .int a2), (3, .int x3), (4, .int x4)] [] S (wl3 (f_L_fits_B12 a0 a1 a2 kx12) n S x3 x4) := by
  refine J.loop3 (lvf := fun (S : St) (x3 : Int32) (x4 : Int32) => [(0, rv g a0), (1, .int a1), (2, .int a2), (3, .int x3), (4, .int x4)]) (Sf := fun (S : St) (x3 : Int32) (x4 : Int32) => S) ?_
  intro k12 hk12 S x3 x4
  show J X g _ _ 12 [(0, rv g a0), (1, .int a1), (2, .int a2), (3, .int x3), (4, .int x4)] [] S (f_L_fits_B12 a0 a1 a2 kx12 k12 S x3 x4)
  unfold f_L_fits_B12
  refine J.iload (pc := 12) C dL_fits_12 rfl ?_
  refine J.aload_n (pc := 14) C (x := a0) dL_fits_14 rfl rfl ?_
  refine J.iconst (pc := 15) C dL_fits_15 ki_1 ?_
  refine J.vI (pc := 16) C mv_X7_count wm_RL_29 (fun l => c_X7_count l g S a0 1) ⟨⟨Nat.zero_le _, Nat.zero_le _⟩, rfl, rfl⟩ rfl ⟨Nat.le_of_ble_eq_true rfl, Nat.le_of_ble_eq_true rfl⟩ rfl (ct_i ct_n) (Nat.le_of_ble_eq_true rfl) dL_fits_16 (fun r2 => ?_)
  refine J.icmp_ge (pc := 19) C (tgt := 60) dL_fits_19 rfl ?_ ?_
  · exact J.pick [0, 1, 3] rfl (hkx12 _ _)
  · refine J.iload_n (pc := 22) C dL_fits_22 rfl rfl ?_
    refine J.if_eq (pc := 23) C (tgt := 52) dL_fits_23 rfl ?_ ?_
    · refine J.iconst (pc := 52) C dL_fits_52 ki_0 ?_
      refine J.istore_n (pc := 53) C (lv' := [(0, rv g a0), (1, .int a1), (2, .int a2), (3, .int 0), (4, .int x4)]) dL_fits_53 rfl (Nat.le_of_ble_eq_true rfl) (lsf_r (lsf_i (lsf_i (lsf_i (lsf_i lsf_n))))) rfl ?_
      refine J.iinc (pc := 54) C (lv' := [(0, rv g a0), (1, .int a1), (2, .int a2), (3, .int 0), (4, .int (x4 + 1))]) dL_fits_54 rfl (Nat.le_of_ble_eq_true rfl) (lsf_r (lsf_i (lsf_i (lsf_i (lsf_i lsf_n))))) ki_1 rfl ?_
      refine J.goto (pc := 57) C (tgt := 12) dL_fits_57 rfl ?_
      exact (hk12 _ _ _)
    · refine J.aload_n (pc := 26) C (x := a0) dL_fits_26 rfl rfl ?_
      refine J.iload (pc := 27) C dL_fits_27 rfl ?_
      refine J.vW (pc := 29) C mv_X7_fitting wm_RL_51 (fun l => c_X7_fitting l g S a0 x4) ⟨⟨Nat.zero_le _, Nat.zero_le _⟩, rfl, rfl⟩ rfl ⟨Nat.le_of_ble_eq_true rfl, Nat.le_of_ble_eq_true rfl⟩ rfl ct_n (Nat.le_of_ble_eq_true rfl) dL_fits_29 (fun r3 S_4 => ?_)
      refine J.aload_n (pc := 32) C (x := a0) dL_fits_32 rfl rfl ?_
      refine J.iload (pc := 33) C dL_fits_33 rfl ?_
      refine J.iconst (pc := 35) C dL_fits_35 ki_1 ?_
      refine J.vI (pc := 36) C mv_X7_frameOf wm_RL_33 (fun l => c_X7_frameOf l g S_4 a0 x4 1) ⟨⟨Nat.zero_le _, Nat.zero_le _⟩, rfl, rfl⟩ rfl ⟨Nat.le_of_ble_eq_true rfl, Nat.le_of_ble_eq_true rfl⟩ rfl (ct_i ct_n) (Nat.le_of_ble_eq_true rfl) dL_fits_36 (fun r5 => ?_)
      refine J.ior (pc := 39) C dL_fits_39 ?_
      refine J.iconst (pc := 40) C dL_fits_40 ki_1 ?_
      refine J.iload_n (pc := 41) C dL_fits_41 rfl rfl ?_
      refine J.ishl (pc := 42) C dL_fits_42 ?_
      refine J.iconst (pc := 43) C dL_fits_43 ki_1 ?_
      refine J.isub (pc := 44) C dL_fits_44 ?_
      refine J.icmp_ne (pc := 45) C (tgt := 52) dL_fits_45 rfl ?_ ?_
      · refine J.iconst (pc := 52) C dL_fits_52 ki_0 ?_
        refine J.istore_n (pc := 53) C (lv' := [(0, rv g a0), (1, .int a1), (2, .int a2), (3, .int 0), (4, .int x4)]) dL_fits_53 rfl (Nat.le_of_ble_eq_true rfl) (lsf_r (lsf_i (lsf_i (lsf_i (lsf_i lsf_n))))) rfl ?_
        refine J.iinc (pc := 54) C (lv' := [(0, rv g a0), (1, .int a1), (2, .int a2), (3, .int 0), (4, .int (x4 + 1))]) dL_fits_54 rfl (Nat.le_of_ble_eq_true rfl) (lsf_r (lsf_i (lsf_i (lsf_i (lsf_i lsf_n))))) ki_1 rfl ?_
        refine J.goto (pc := 57) C (tgt := 12) dL_fits_57 rfl ?_
        exact (hk12 _ _ _)
      · refine J.iconst (pc := 48) C dL_fits_48 ki_1 ?_
        refine J.goto (pc := 49) C (tgt := 53) dL_fits_49 rfl ?_
        refine J.istore_n (pc := 53) C (lv' := [(0, rv g a0), (1, .int a1), (2, .int a2), (3, .int 1), (4, .int x4)]) dL_fits_53 rfl (Nat.le_of_ble_eq_true rfl) (lsf_r (lsf_i (lsf_i (lsf_i (lsf_i lsf_n))))) rfl ?_
        refine J.iinc (pc := 54) C (lv' := [(0, rv g a0), (1, .int a1), (2, .int a2), (3, .int 1), (4, .int (x4 + 1))]) dL_fits_54 rfl (Nat.le_of_ble_eq_true rfl) (lsf_r (lsf_i (lsf_i (lsf_i (lsf_i lsf_n))))) ki_1 rfl ?_
        refine J.goto (pc := 57) C (tgt := 12) dL_fits_57 rfl ?_
        exact (hk12 _ _ _)
def f_L_fits_J203 (S : St) (x0 : Nat) (x1 : Int32) (x7 : Int32) (t0 : Int32) : Option (Int32 × St) :=
  (if x7 = 0 then
  (if t0 = 0 then
  (some (0, S))
  else (chk (okc S 7 x0) (bnd2 (f_X7_motions S x0 x1 1) fun r22 S_23 =>
  (if r22 = (-10000004) then
  (chk (okc S_23 7 x0) (bnd2 (f_X7_motions S_23 x0 x1 4) fun r24 S_25 =>
  (if r24 = (-10000004) then
  (some (1, S_25))
  else (some (0, S_25)))))
  else (some (0, S_23))))))
  else (chk (okc S 7 x0) (bnd2 (f_X7_motions S x0 x1 1) fun r12 S_13 =>
  (chk (¬ (100 : Int32) = 0)
  (chk (okc S_13 7 x0) (bnd2 (f_X7_motions S_13 x0 x1 2) fun r14 S_15 =>
  (chk (¬ (10 : Int32) = 0)
  (vlt ((21 * ((r12 + 1000) / 100)) + ((r14 + 100) / 10)) fun v16 =>
  (chk (okc S_15 7 x0) (bnd2 (f_X7_motions S_15 x0 x1 3) fun r17 S_18 =>
  (chk (¬ (100 : Int32) = 0)
  (chk (okc S_18 7 x0) (bnd2 (f_X7_motions S_18 x0 x1 4) fun r19 S_20 =>
  (chk (¬ (10 : Int32) = 0)
  (vlt ((21 * ((r17 + 1000) / 100)) + ((r19 + 100) / 10)) fun v21 =>
  (if t0 = 0 then
  (some (0, S_20))
  else (if v16 < 0 then
  (some (0, S_20))
  else (if (735 : Int32) ≤ v21 then
  (some (0, S_20))
  else (if (v21 - v16) < (x7 - 1) then
  (some (0, S_20))
  else (if (1 : Int32) < x7 then
  (some (1, S_20))
  else (if v16 = v21 then
  (some (1, S_20))
  else (some (0, S_20)))))))))))))))))))))))
set_option maxRecDepth 100000 in
set_option maxHeartbeats 4000000 in
theorem w_L_fits_J203 {X : CT} {g : GG} (C : CX X g cL_fits RL (some .boolean) 11 rm_L_fits) (S : St) (x0 : Nat) (x1 : Int32) (x7 : Int32) (t0 : Int32) : J X g (Qm X g aW pW) (cw (0, 0)) 203 [(0, rv g x0), (1, .int x1), (7, .int x7)] [.int t0] S (f_L_fits_J203 S x0 x1 x7 t0) := by
  unfold f_L_fits_J203
  refine J.istore (pc := 203) C (lv' := [(0, rv g x0), (1, .int x1), (7, .int x7), (8, .int t0)]) dL_fits_203 (Nat.le_of_ble_eq_true rfl) (lsf_r (lsf_i (lsf_i lsf_n))) rfl ?_
  refine J.iload (pc := 205) C dL_fits_205 rfl ?_
  refine J.if_ne (pc := 207) C (tgt := 243) dL_fits_207 rfl ?_ ?_
  · refine J.bipush (pc := 243) C dL_fits_243 kb_21 ?_
    refine J.aload_n (pc := 245) C (x := x0) dL_fits_245 rfl rfl ?_
    refine J.iload_n (pc := 246) C dL_fits_246 rfl rfl ?_
    refine J.iconst (pc := 247) C dL_fits_247 ki_1 ?_
    refine J.vW (pc := 248) C mv_X7_motions wm_RL_94 (fun l => c_X7_motions l g S x0 x1 1) ⟨⟨Nat.zero_le _, Nat.zero_le _⟩, rfl, rfl⟩ rfl ⟨Nat.le_of_ble_eq_true rfl, Nat.le_of_ble_eq_true rfl⟩ rfl (ct_i ct_n) (Nat.le_of_ble_eq_true rfl) dL_fits_248 (fun r12 S_13 => ?_)
    refine J.sipush (pc := 251) C dL_fits_251 ks_1000 ?_
    refine J.iadd (pc := 254) C dL_fits_254 ?_
    refine J.bipush (pc := 255) C dL_fits_255 kb_100 ?_
    refine J.idiv (pc := 257) C dL_fits_257 ?_
    refine J.imul (pc := 258) C dL_fits_258 ?_
    refine J.aload_n (pc := 259) C (x := x0) dL_fits_259 rfl rfl ?_
    refine J.iload_n (pc := 260) C dL_fits_260 rfl rfl ?_
    refine J.iconst (pc := 261) C dL_fits_261 ki_2 ?_
    refine J.vW (pc := 262) C mv_X7_motions wm_RL_94 (fun l => c_X7_motions l g S_13 x0 x1 2) ⟨⟨Nat.zero_le _, Nat.zero_le _⟩, rfl, rfl⟩ rfl ⟨Nat.le_of_ble_eq_true rfl, Nat.le_of_ble_eq_true rfl⟩ rfl (ct_i ct_n) (Nat.le_of_ble_eq_true rfl) dL_fits_262 (fun r14 S_15 => ?_)
    refine J.bipush (pc := 265) C dL_fits_265 kb_100 ?_
    refine J.iadd (pc := 267) C dL_fits_267 ?_
    refine J.bipush (pc := 268) C dL_fits_268 kb_10 ?_
    refine J.idiv (pc := 270) C dL_fits_270 ?_
    refine J.iadd (pc := 271) C dL_fits_271 ?_
    refine J.topi (fun v16 => ?_)
    refine J.istore (pc := 272) C (lv' := [(0, rv g x0), (1, .int x1), (7, .int x7), (8, .int t0), (9, .int v16)]) dL_fits_272 (Nat.le_of_ble_eq_true rfl) (lsf_r (lsf_i (lsf_i (lsf_i lsf_n)))) rfl ?_
    refine J.bipush (pc := 274) C dL_fits_274 kb_21 ?_
    refine J.aload_n (pc := 276) C (x := x0) dL_fits_276 rfl rfl ?_
    refine J.iload_n (pc := 277) C dL_fits_277 rfl rfl ?_
    refine J.iconst (pc := 278) C dL_fits_278 ki_3 ?_
    refine J.vW (pc := 279) C mv_X7_motions wm_RL_94 (fun l => c_X7_motions l g S_15 x0 x1 3) ⟨⟨Nat.zero_le _, Nat.zero_le _⟩, rfl, rfl⟩ rfl ⟨Nat.le_of_ble_eq_true rfl, Nat.le_of_ble_eq_true rfl⟩ rfl (ct_i ct_n) (Nat.le_of_ble_eq_true rfl) dL_fits_279 (fun r17 S_18 => ?_)
    refine J.sipush (pc := 282) C dL_fits_282 ks_1000 ?_
    refine J.iadd (pc := 285) C dL_fits_285 ?_
    refine J.bipush (pc := 286) C dL_fits_286 kb_100 ?_
    refine J.idiv (pc := 288) C dL_fits_288 ?_
    refine J.imul (pc := 289) C dL_fits_289 ?_
    refine J.aload_n (pc := 290) C (x := x0) dL_fits_290 rfl rfl ?_
    refine J.iload_n (pc := 291) C dL_fits_291 rfl rfl ?_
    refine J.iconst (pc := 292) C dL_fits_292 ki_4 ?_
    refine J.vW (pc := 293) C mv_X7_motions wm_RL_94 (fun l => c_X7_motions l g S_18 x0 x1 4) ⟨⟨Nat.zero_le _, Nat.zero_le _⟩, rfl, rfl⟩ rfl ⟨Nat.le_of_ble_eq_true rfl, Nat.le_of_ble_eq_true rfl⟩ rfl (ct_i ct_n) (Nat.le_of_ble_eq_true rfl) dL_fits_293 (fun r19 S_20 => ?_)
    refine J.bipush (pc := 296) C dL_fits_296 kb_100 ?_
    refine J.iadd (pc := 298) C dL_fits_298 ?_
    refine J.bipush (pc := 299) C dL_fits_299 kb_10 ?_
    refine J.idiv (pc := 301) C dL_fits_301 ?_
    refine J.iadd (pc := 302) C dL_fits_302 ?_
    refine J.topi (fun v21 => ?_)
    refine J.istore (pc := 303) C (lv' := [(0, rv g x0), (1, .int x1), (7, .int x7), (8, .int t0), (9, .int v16), (10, .int v21)]) dL_fits_303 (Nat.le_of_ble_eq_true rfl) (lsf_r (lsf_i (lsf_i (lsf_i (lsf_i lsf_n))))) rfl ?_
    refine J.iload (pc := 305) C dL_fits_305 rfl ?_
    refine J.if_eq (pc := 307) C (tgt := 352) dL_fits_307 rfl ?_ ?_
    · refine J.iconst (pc := 352) C dL_fits_352 ki_0 ?_
      exact J.zret (pc := 353) C rfl rfl rfl ⟨Nat.le_refl _, Nat.le_refl _⟩ dL_fits_353
    · refine J.iload (pc := 310) C dL_fits_310 rfl ?_
      refine J.if_lt (pc := 312) C (tgt := 352) dL_fits_312 rfl ?_ ?_
      · refine J.iconst (pc := 352) C dL_fits_352 ki_0 ?_
        exact J.zret (pc := 353) C rfl rfl rfl ⟨Nat.le_refl _, Nat.le_refl _⟩ dL_fits_353
      · refine J.iload (pc := 315) C dL_fits_315 rfl ?_
        refine J.sipush (pc := 317) C dL_fits_317 ks_735 ?_
        refine J.icmp_ge (pc := 320) C (tgt := 352) dL_fits_320 rfl ?_ ?_
        · refine J.iconst (pc := 352) C dL_fits_352 ki_0 ?_
          exact J.zret (pc := 353) C rfl rfl rfl ⟨Nat.le_refl _, Nat.le_refl _⟩ dL_fits_353
        · refine J.iload (pc := 323) C dL_fits_323 rfl ?_
          refine J.iload (pc := 325) C dL_fits_325 rfl ?_
          refine J.isub (pc := 327) C dL_fits_327 ?_
          refine J.iload (pc := 328) C dL_fits_328 rfl ?_
          refine J.iconst (pc := 330) C dL_fits_330 ki_1 ?_
          refine J.isub (pc := 331) C dL_fits_331 ?_
          refine J.icmp_lt (pc := 332) C (tgt := 352) dL_fits_332 rfl ?_ ?_
          · refine J.iconst (pc := 352) C dL_fits_352 ki_0 ?_
            exact J.zret (pc := 353) C rfl rfl rfl ⟨Nat.le_refl _, Nat.le_refl _⟩ dL_fits_353
          · refine J.iload (pc := 335) C dL_fits_335 rfl ?_
            refine J.iconst (pc := 337) C dL_fits_337 ki_1 ?_
            refine J.icmp_gt (pc := 338) C (tgt := 348) dL_fits_338 rfl ?_ ?_
            · refine J.iconst (pc := 348) C dL_fits_348 ki_1 ?_
              refine J.goto (pc := 349) C (tgt := 353) dL_fits_349 rfl ?_
              exact J.zret (pc := 353) C rfl rfl rfl ⟨Nat.le_refl _, Nat.le_refl _⟩ dL_fits_353
            · refine J.iload (pc := 341) C dL_fits_341 rfl ?_
              refine J.iload (pc := 343) C dL_fits_343 rfl ?_
              refine J.icmp_ne (pc := 345) C (tgt := 352) dL_fits_345 rfl ?_ ?_
              · refine J.iconst (pc := 352) C dL_fits_352 ki_0 ?_
                exact J.zret (pc := 353) C rfl rfl rfl ⟨Nat.le_refl _, Nat.le_refl _⟩ dL_fits_353
              · refine J.iconst (pc := 348) C dL_fits_348 ki_1 ?_
                refine J.goto (pc := 349) C (tgt := 353) dL_fits_349 rfl ?_
                exact J.zret (pc := 353) C rfl rfl rfl ⟨Nat.le_refl _, Nat.le_refl _⟩ dL_fits_353
  · refine J.iload (pc := 210) C dL_fits_210 rfl ?_
    refine J.if_eq (pc := 212) C (tgt := 241) dL_fits_212 rfl ?_ ?_
    · refine J.iconst (pc := 241) C dL_fits_241 ki_0 ?_
      exact J.zret (pc := 242) C rfl rfl rfl ⟨Nat.le_refl _, Nat.le_refl _⟩ dL_fits_242
    · refine J.aload_n (pc := 215) C (x := x0) dL_fits_215 rfl rfl ?_
      refine J.iload_n (pc := 216) C dL_fits_216 rfl rfl ?_
      refine J.iconst (pc := 217) C dL_fits_217 ki_1 ?_
      refine J.vW (pc := 218) C mv_X7_motions wm_RL_94 (fun l => c_X7_motions l g S x0 x1 1) ⟨⟨Nat.zero_le _, Nat.zero_le _⟩, rfl, rfl⟩ rfl ⟨Nat.le_of_ble_eq_true rfl, Nat.le_of_ble_eq_true rfl⟩ rfl ct_n (Nat.le_of_ble_eq_true rfl) dL_fits_218 (fun r22 S_23 => ?_)
      refine J.ldc (pc := 221) C wc_RL_43 dL_fits_221 ?_
      refine J.icmp_ne (pc := 223) C (tgt := 241) dL_fits_223 rfl ?_ ?_
      · refine J.iconst (pc := 241) C dL_fits_241 ki_0 ?_
        exact J.zret (pc := 242) C rfl rfl rfl ⟨Nat.le_refl _, Nat.le_refl _⟩ dL_fits_242
      · refine J.aload_n (pc := 226) C (x := x0) dL_fits_226 rfl rfl ?_
        refine J.iload_n (pc := 227) C dL_fits_227 rfl rfl ?_
        refine J.iconst (pc := 228) C dL_fits_228 ki_4 ?_
        refine J.vW (pc := 229) C mv_X7_motions wm_RL_94 (fun l => c_X7_motions l g S_23 x0 x1 4) ⟨⟨Nat.zero_le _, Nat.zero_le _⟩, rfl, rfl⟩ rfl ⟨Nat.le_of_ble_eq_true rfl, Nat.le_of_ble_eq_true rfl⟩ rfl ct_n (Nat.le_of_ble_eq_true rfl) dL_fits_229 (fun r24 S_25 => ?_)
        refine J.ldc (pc := 232) C wc_RL_43 dL_fits_232 ?_
        refine J.icmp_ne (pc := 234) C (tgt := 241) dL_fits_234 rfl ?_ ?_
        · refine J.iconst (pc := 241) C dL_fits_241 ki_0 ?_
          exact J.zret (pc := 242) C rfl rfl rfl ⟨Nat.le_refl _, Nat.le_refl _⟩ dL_fits_242
        · refine J.iconst (pc := 237) C dL_fits_237 ki_1 ?_
          refine J.goto (pc := 238) C (tgt := 242) dL_fits_238 rfl ?_
          exact J.zret (pc := 242) C rfl rfl rfl ⟨Nat.le_refl _, Nat.le_refl _⟩ dL_fits_242
def f_L_fits_J202 (S : St) (x0 : Nat) (x1 : Int32) (x7 : Int32) : Option (Int32 × St) :=
  (f_L_fits_J203 S x0 x1 x7 0)
set_option maxRecDepth 100000 in
set_option maxHeartbeats 4000000 in
theorem w_L_fits_J202 {X : CT} {g : GG} (C : CX X g cL_fits RL (some .boolean) 11 rm_L_fits) (S : St) (x0 : Nat) (x1 : Int32) (x7 : Int32) : J X g (Qm X g aW pW) (cw (0, 0)) 202 [(0, rv g x0), (1, .int x1), (7, .int x7)] [] S (f_L_fits_J202 S x0 x1 x7) := by
  unfold f_L_fits_J202
  refine J.iconst (pc := 202) C dL_fits_202 ki_0 ?_
  exact (w_L_fits_J203 C _ _ _ _ _)
def f_L_fits_J198 (S : St) (x0 : Nat) (x1 : Int32) (x7 : Int32) : Option (Int32 × St) :=
  (f_L_fits_J203 S x0 x1 x7 1)
set_option maxRecDepth 100000 in
set_option maxHeartbeats 4000000 in
theorem w_L_fits_J198 {X : CT} {g : GG} (C : CX X g cL_fits RL (some .boolean) 11 rm_L_fits) (S : St) (x0 : Nat) (x1 : Int32) (x7 : Int32) : J X g (Qm X g aW pW) (cw (0, 0)) 198 [(0, rv g x0), (1, .int x1), (7, .int x7)] [] S (f_L_fits_J198 S x0 x1 x7) := by
  unfold f_L_fits_J198
  refine J.iconst (pc := 198) C dL_fits_198 ki_1 ?_
  refine J.goto (pc := 199) C (tgt := 203) dL_fits_199 rfl ?_
  exact (w_L_fits_J203 C _ _ _ _ _)
def f_L_fits_J181 (S : St) (x0 : Nat) (x1 : Int32) (x3 : Int32) (x6 : Int32) (x7 : Int32) : Option (Int32 × St) :=
  (if x3 = 0 then
  (if x6 = 0 then
  (f_L_fits_J198 S x0 x1 x7)
  else (if (735 : Int32) ≤ x7 then
  (f_L_fits_J202 S x0 x1 x7)
  else (f_L_fits_J198 S x0 x1 x7)))
  else (f_L_fits_J198 S x0 x1 x7))
set_option maxRecDepth 100000 in
set_option maxHeartbeats 4000000 in
theorem w_L_fits_J181 {X : CT} {g : GG} (C : CX X g cL_fits RL (some .boolean) 11 rm_L_fits) (S : St) (x0 : Nat) (x1 : Int32) (x3 : Int32) (x6 : Int32) (x7 : Int32) : J X g (Qm X g aW pW) (cw (0, 0)) 181 [(0, rv g x0), (1, .int x1), (3, .int x3), (6, .int x6), (7, .int x7)] [] S (f_L_fits_J181 S x0 x1 x3 x6 x7) := by
  unfold f_L_fits_J181
  refine J.iload_n (pc := 181) C dL_fits_181 rfl rfl ?_
  refine J.if_ne (pc := 182) C (tgt := 198) dL_fits_182 rfl ?_ ?_
  · exact J.pick [0, 1, 4] rfl (w_L_fits_J198 C _ _ _ _)
  · refine J.iload (pc := 185) C dL_fits_185 rfl ?_
    refine J.if_eq (pc := 187) C (tgt := 198) dL_fits_187 rfl ?_ ?_
    · exact J.pick [0, 1, 4] rfl (w_L_fits_J198 C _ _ _ _)
    · refine J.iload (pc := 190) C dL_fits_190 rfl ?_
      refine J.sipush (pc := 192) C dL_fits_192 ks_735 ?_
      refine J.icmp_ge (pc := 195) C (tgt := 202) dL_fits_195 rfl ?_ ?_
      · exact J.pick [0, 1, 4] rfl (w_L_fits_J202 C _ _ _ _)
      · exact J.pick [0, 1, 4] rfl (w_L_fits_J198 C _ _ _ _)
def f_L_fits_J127 (S : St) (x0 : Nat) (x1 : Int32) (x3 : Int32) (t0 : Int32) : Option (Int32 × St) :=
  (chk (okc S 7 x0) (bnd2 (f_X7_motions S x0 x1 0) fun r10 S_11 =>
  (if r10 < 0 then
  (f_L_fits_J202 S_11 x0 x1 r10)
  else (if (735 : Int32) < r10 then
  (f_L_fits_J202 S_11 x0 x1 r10)
  else (chk (okc S_11 7 x0) (bnd2 (f_X7_periods S_11 x0) fun r26 S_27 =>
  (chk (okc S_27 7 x0) (bnd (f_X7_count S_27 x0 15) fun r28 =>
  (bnd (f_L_has r26 r28) fun r29 =>
  (if r29 = x3 then
  (if x3 = 0 then
  (f_L_fits_J181 S_27 x0 x1 x3 t0 r10)
  else (if t0 = 0 then
  (f_L_fits_J181 S_27 x0 x1 x3 t0 r10)
  else (if r10 ≤ 0 then
  (f_L_fits_J202 S_27 x0 x1 r10)
  else (f_L_fits_J181 S_27 x0 x1 x3 t0 r10))))
  else (f_L_fits_J202 S_27 x0 x1 r10)))))))))))
set_option maxRecDepth 100000 in
set_option maxHeartbeats 4000000 in
theorem w_L_fits_J127 {X : CT} {g : GG} (C : CX X g cL_fits RL (some .boolean) 11 rm_L_fits) (S : St) (x0 : Nat) (x1 : Int32) (x3 : Int32) (t0 : Int32) : J X g (Qm X g aW pW) (cw (0, 0)) 127 [(0, rv g x0), (1, .int x1), (3, .int x3)] [.int t0] S (f_L_fits_J127 S x0 x1 x3 t0) := by
  unfold f_L_fits_J127
  refine J.istore (pc := 127) C (lv' := [(0, rv g x0), (1, .int x1), (3, .int x3), (6, .int t0)]) dL_fits_127 (Nat.le_of_ble_eq_true rfl) (lsf_r (lsf_i (lsf_i lsf_n))) rfl ?_
  refine J.aload_n (pc := 129) C (x := x0) dL_fits_129 rfl rfl ?_
  refine J.iload_n (pc := 130) C dL_fits_130 rfl rfl ?_
  refine J.iconst (pc := 131) C dL_fits_131 ki_0 ?_
  refine J.vW (pc := 132) C mv_X7_motions wm_RL_94 (fun l => c_X7_motions l g S x0 x1 0) ⟨⟨Nat.zero_le _, Nat.zero_le _⟩, rfl, rfl⟩ rfl ⟨Nat.le_of_ble_eq_true rfl, Nat.le_of_ble_eq_true rfl⟩ rfl ct_n (Nat.le_of_ble_eq_true rfl) dL_fits_132 (fun r10 S_11 => ?_)
  refine J.istore (pc := 135) C (lv' := [(0, rv g x0), (1, .int x1), (3, .int x3), (6, .int t0), (7, .int r10)]) dL_fits_135 (Nat.le_of_ble_eq_true rfl) (lsf_r (lsf_i (lsf_i (lsf_i lsf_n)))) rfl ?_
  refine J.iload (pc := 137) C dL_fits_137 rfl ?_
  refine J.if_lt (pc := 139) C (tgt := 202) dL_fits_139 rfl ?_ ?_
  · exact J.pick [0, 1, 4] rfl (w_L_fits_J202 C _ _ _ _)
  · refine J.iload (pc := 142) C dL_fits_142 rfl ?_
    refine J.sipush (pc := 144) C dL_fits_144 ks_735 ?_
    refine J.icmp_gt (pc := 147) C (tgt := 202) dL_fits_147 rfl ?_ ?_
    · exact J.pick [0, 1, 4] rfl (w_L_fits_J202 C _ _ _ _)
    · refine J.aload_n (pc := 150) C (x := x0) dL_fits_150 rfl rfl ?_
      refine J.vW (pc := 151) C mv_X7_periods wm_RL_97 (fun l => c_X7_periods l g S_11 x0) ⟨⟨Nat.zero_le _, Nat.zero_le _⟩, rfl, rfl⟩ rfl ⟨Nat.le_of_ble_eq_true rfl, Nat.le_of_ble_eq_true rfl⟩ rfl ct_n (Nat.le_of_ble_eq_true rfl) dL_fits_151 (fun r26 S_27 => ?_)
      refine J.aload_n (pc := 154) C (x := x0) dL_fits_154 rfl rfl ?_
      refine J.bipush (pc := 155) C dL_fits_155 kb_15 ?_
      refine J.vI (pc := 157) C mv_X7_count wm_RL_29 (fun l => c_X7_count l g S_27 x0 15) ⟨⟨Nat.zero_le _, Nat.zero_le _⟩, rfl, rfl⟩ rfl ⟨Nat.le_of_ble_eq_true rfl, Nat.le_of_ble_eq_true rfl⟩ rfl (ct_i ct_n) (Nat.le_of_ble_eq_true rfl) dL_fits_157 (fun r28 => ?_)
      refine J.sI (pc := 160) C ms_L_has wm_RL_39 (fun l => c_L_has l g S_27 r26 r28) ⟨⟨Nat.zero_le _, Nat.zero_le _⟩, rfl, rfl⟩ rfl ⟨Nat.le_of_ble_eq_true rfl, Nat.le_of_ble_eq_true rfl⟩ rfl ct_n (Nat.le_of_ble_eq_true rfl) dL_fits_160 (fun r29 => ?_)
      refine J.iload_n (pc := 163) C dL_fits_163 rfl rfl ?_
      refine J.icmp_ne (pc := 164) C (tgt := 202) dL_fits_164 rfl ?_ ?_
      · exact J.pick [0, 1, 4] rfl (w_L_fits_J202 C _ _ _ _)
      · refine J.iload_n (pc := 167) C dL_fits_167 rfl rfl ?_
        refine J.if_eq (pc := 168) C (tgt := 181) dL_fits_168 rfl ?_ ?_
        · exact (w_L_fits_J181 C _ _ _ _ _ _)
        · refine J.iload (pc := 171) C dL_fits_171 rfl ?_
          refine J.if_eq (pc := 173) C (tgt := 181) dL_fits_173 rfl ?_ ?_
          · exact (w_L_fits_J181 C _ _ _ _ _ _)
          · refine J.iload (pc := 176) C dL_fits_176 rfl ?_
            refine J.if_le (pc := 178) C (tgt := 202) dL_fits_178 rfl ?_ ?_
            · exact J.pick [0, 1, 4] rfl (w_L_fits_J202 C _ _ _ _)
            · exact (w_L_fits_J181 C _ _ _ _ _ _)
def f_L_fits_J126 (S : St) (x0 : Nat) (x1 : Int32) (x3 : Int32) : Option (Int32 × St) :=
  (f_L_fits_J127 S x0 x1 x3 0)
set_option maxRecDepth 100000 in
set_option maxHeartbeats 4000000 in
theorem w_L_fits_J126 {X : CT} {g : GG} (C : CX X g cL_fits RL (some .boolean) 11 rm_L_fits) (S : St) (x0 : Nat) (x1 : Int32) (x3 : Int32) : J X g (Qm X g aW pW) (cw (0, 0)) 126 [(0, rv g x0), (1, .int x1), (3, .int x3)] [] S (f_L_fits_J126 S x0 x1 x3) := by
  unfold f_L_fits_J126
  refine J.iconst (pc := 126) C dL_fits_126 ki_0 ?_
  exact (w_L_fits_J127 C _ _ _ _ _)
def f_L_fits (S : St) (a0 : Nat) (a1 : Int32) : Option (Int32 × St) :=
  (chk (okc S 7 a0) (bnd (f_X7_count S a0 10) fun r1 =>
  (wl3 (f_L_fits_B12 a0 a1 r1 (fun (S_7 : St) (y3_6 : Int32) => (chk (okc S_7 7 a0) (bnd (f_X7_thingOf S_7 a0 a1 2) fun r8 =>
  (chk (okc S_7 7 a0) (bnd (f_X7_thingOf S_7 a0 a1 3) fun r9 =>
  (if r8 < (-1000) then
  (f_L_fits_J126 S_7 a0 a1 y3_6)
  else (if (2400 : Int32) < r8 then
  (f_L_fits_J126 S_7 a0 a1 y3_6)
  else (chk (¬ (100 : Int32) = 0)
  (if (r8 - r8 / 100 * 100) = 0 then
  (if r9 < (-100) then
  (f_L_fits_J126 S_7 a0 a1 y3_6)
  else (if (100 : Int32) < r9 then
  (f_L_fits_J126 S_7 a0 a1 y3_6)
  else (chk (¬ (10 : Int32) = 0)
  (if (r9 - r9 / 10 * 10) = 0 then
  (f_L_fits_J127 S_7 a0 a1 y3_6 1)
  else (f_L_fits_J126 S_7 a0 a1 y3_6)))))
  else (f_L_fits_J126 S_7 a0 a1 y3_6))))))))))) FU S 1 0)))
set_option maxRecDepth 100000 in
set_option maxHeartbeats 4000000 in
theorem c_L_fits (l : Launch) (g : GG) (S : St) (a0 : Nat) (a1 : Int32) : Ct l yL_fits cL_fits 11 (some .boolean) rm_L_fits g aW pW [rv g a0, .int a1] S (f_L_fits S a0 a1) := by
  refine Ct.mk (cf := cw (0, 0)) (by decide +kernel) (cat_r (cat_i cat_n)) (Nat.le_of_ble_eq_true rfl) rfl ?_
  intro X hXl hin C
  show J X g _ _ 0 [(0, rv g a0), (1, .int a1)] [] S (f_L_fits S a0 a1)
  unfold f_L_fits
  refine J.aload_n (pc := 0) C (x := a0) dL_fits_0 rfl rfl ?_
  refine J.bipush (pc := 1) C dL_fits_1 kb_10 ?_
  refine J.vI (pc := 3) C mv_X7_count wm_RL_29 (fun l => c_X7_count l g S a0 10) ⟨⟨Nat.zero_le _, Nat.zero_le _⟩, rfl, rfl⟩ rfl ⟨Nat.le_of_ble_eq_true rfl, Nat.le_of_ble_eq_true rfl⟩ rfl ct_n (Nat.le_of_ble_eq_true rfl) dL_fits_3 (fun r1 => ?_)
  refine J.istore_n (pc := 6) C (lv' := [(0, rv g a0), (1, .int a1), (2, .int r1)]) dL_fits_6 rfl (Nat.le_of_ble_eq_true rfl) (lsf_r (lsf_i lsf_n)) rfl ?_
  refine J.iconst (pc := 7) C dL_fits_7 ki_1 ?_
  refine J.istore_n (pc := 8) C (lv' := [(0, rv g a0), (1, .int a1), (2, .int r1), (3, .int 1)]) dL_fits_8 rfl (Nat.le_of_ble_eq_true rfl) (lsf_r (lsf_i (lsf_i lsf_n))) rfl ?_
  refine J.iconst (pc := 9) C dL_fits_9 ki_0 ?_
  refine J.istore (pc := 10) C (lv' := [(0, rv g a0), (1, .int a1), (2, .int r1), (3, .int 1), (4, .int 0)]) dL_fits_10 (Nat.le_of_ble_eq_true rfl) (lsf_r (lsf_i (lsf_i (lsf_i lsf_n)))) rfl ?_
  refine w_L_fits_B12 C _ _ _ _ (fun S_7 y3_6 => ?_) FU _ _ _
  refine J.aload_n (pc := 60) C (x := a0) dL_fits_60 rfl rfl ?_
  refine J.iload_n (pc := 61) C dL_fits_61 rfl rfl ?_
  refine J.iconst (pc := 62) C dL_fits_62 ki_2 ?_
  refine J.vI (pc := 63) C mv_X7_thingOf wm_RL_84 (fun l => c_X7_thingOf l g S_7 a0 a1 2) ⟨⟨Nat.zero_le _, Nat.zero_le _⟩, rfl, rfl⟩ rfl ⟨Nat.le_of_ble_eq_true rfl, Nat.le_of_ble_eq_true rfl⟩ rfl ct_n (Nat.le_of_ble_eq_true rfl) dL_fits_63 (fun r8 => ?_)
  refine J.istore (pc := 66) C (lv' := [(0, rv g a0), (1, .int a1), (3, .int y3_6), (4, .int r8)]) dL_fits_66 (Nat.le_of_ble_eq_true rfl) (lsf_r (lsf_i (lsf_i lsf_n))) rfl ?_
  refine J.aload_n (pc := 68) C (x := a0) dL_fits_68 rfl rfl ?_
  refine J.iload_n (pc := 69) C dL_fits_69 rfl rfl ?_
  refine J.iconst (pc := 70) C dL_fits_70 ki_3 ?_
  refine J.vI (pc := 71) C mv_X7_thingOf wm_RL_84 (fun l => c_X7_thingOf l g S_7 a0 a1 3) ⟨⟨Nat.zero_le _, Nat.zero_le _⟩, rfl, rfl⟩ rfl ⟨Nat.le_of_ble_eq_true rfl, Nat.le_of_ble_eq_true rfl⟩ rfl ct_n (Nat.le_of_ble_eq_true rfl) dL_fits_71 (fun r9 => ?_)
  refine J.istore (pc := 74) C (lv' := [(0, rv g a0), (1, .int a1), (3, .int y3_6), (4, .int r8), (5, .int r9)]) dL_fits_74 (Nat.le_of_ble_eq_true rfl) (lsf_r (lsf_i (lsf_i (lsf_i lsf_n)))) rfl ?_
  refine J.iload (pc := 76) C dL_fits_76 rfl ?_
  refine J.sipush (pc := 78) C dL_fits_78 ks_m1000 ?_
  refine J.icmp_lt (pc := 81) C (tgt := 126) dL_fits_81 rfl ?_ ?_
  · exact J.pick [0, 1, 2] rfl (w_L_fits_J126 C _ _ _ _)
  · refine J.iload (pc := 84) C dL_fits_84 rfl ?_
    refine J.sipush (pc := 86) C dL_fits_86 ks_2400 ?_
    refine J.icmp_gt (pc := 89) C (tgt := 126) dL_fits_89 rfl ?_ ?_
    · exact J.pick [0, 1, 2] rfl (w_L_fits_J126 C _ _ _ _)
    · refine J.iload (pc := 92) C dL_fits_92 rfl ?_
      refine J.bipush (pc := 94) C dL_fits_94 kb_100 ?_
      refine J.irem (pc := 96) C dL_fits_96 ?_
      refine J.if_ne (pc := 97) C (tgt := 126) dL_fits_97 rfl ?_ ?_
      · exact J.pick [0, 1, 2] rfl (w_L_fits_J126 C _ _ _ _)
      · refine J.iload (pc := 100) C dL_fits_100 rfl ?_
        refine J.bipush (pc := 102) C dL_fits_102 kb_m100 ?_
        refine J.icmp_lt (pc := 104) C (tgt := 126) dL_fits_104 rfl ?_ ?_
        · exact J.pick [0, 1, 2] rfl (w_L_fits_J126 C _ _ _ _)
        · refine J.iload (pc := 107) C dL_fits_107 rfl ?_
          refine J.bipush (pc := 109) C dL_fits_109 kb_100 ?_
          refine J.icmp_gt (pc := 111) C (tgt := 126) dL_fits_111 rfl ?_ ?_
          · exact J.pick [0, 1, 2] rfl (w_L_fits_J126 C _ _ _ _)
          · refine J.iload (pc := 114) C dL_fits_114 rfl ?_
            refine J.bipush (pc := 116) C dL_fits_116 kb_10 ?_
            refine J.irem (pc := 118) C dL_fits_118 ?_
            refine J.if_ne (pc := 119) C (tgt := 126) dL_fits_119 rfl ?_ ?_
            · exact J.pick [0, 1, 2] rfl (w_L_fits_J126 C _ _ _ _)
            · refine J.iconst (pc := 122) C dL_fits_122 ki_1 ?_
              refine J.goto (pc := 123) C (tgt := 127) dL_fits_123 rfl ?_
              exact J.pick [0, 1, 2] rfl (w_L_fits_J127 C _ _ _ _ _)
abbrev rm_X7_isPlace : Room := { frames := 2, cells := 0, slots := 0, locals := 42 }
def f_X7_isPlace (S : St) (a0 : Nat) (a1 : Int32) (a2 : Int32) : Option Int32 :=
  (chk (okc S 7 a0)
  (chk (okc S 3 (S.2.1 a0 0)) (bnd (f_X3_setting S (S.2.1 a0 0) 0) fun r1 =>
  (bnd (f_X7_isWithin a1 0 (r1 - 1)) fun r2 =>
  (if r2 = 0 then
  (some 0)
  else (chk (okc S 7 a0)
  (chk (okc S 3 (S.2.1 a0 0)) (bnd (f_X3_setting S (S.2.1 a0 0) 1) fun r3 =>
  (bnd (f_X7_isWithin a2 0 (r3 - 1)) fun r4 =>
  (if r4 = 0 then
  (some 0)
  else (some 1)))))))))))
set_option maxRecDepth 100000 in
set_option maxHeartbeats 4000000 in
theorem c_X7_isPlace (l : Launch) (g : GG) (S : St) (a0 : Nat) (a1 : Int32) (a2 : Int32) : Ct l yX7_isPlace cX7_isPlace 3 (some .boolean) rm_X7_isPlace g aI (pK S) [rv g a0, .int a1, .int a2] S (f_X7_isPlace S a0 a1 a2) := by
  refine Ct.mk (cf := cw (0, 0)) (by decide +kernel) (cat_r (cat_i (cat_i cat_n))) (Nat.le_of_ble_eq_true rfl) rfl ?_
  intro X hXl hin C
  show J X g _ _ 0 [(0, rv g a0), (1, .int a1), (2, .int a2)] [] S (f_X7_isPlace S a0 a1 a2)
  unfold f_X7_isPlace
  refine J.iload_n (pc := 0) C dX7_isPlace_0 rfl rfl ?_
  refine J.iconst (pc := 1) C dX7_isPlace_1 ki_0 ?_
  refine J.aload_n (pc := 2) C (x := a0) dX7_isPlace_2 rfl rfl ?_
  refine J.getR (pc := 3) C fl_RX7_12 rfl dX7_isPlace_3 ?_
  refine J.iconst (pc := 6) C dX7_isPlace_6 ki_0 ?_
  refine J.vI (pc := 7) C mv_X3_setting wm_RX7_78 (fun l => c_X3_setting l g S (S.2.1 a0 0) 0) ⟨⟨Nat.zero_le _, Nat.zero_le _⟩, rfl, rfl⟩ rfl ⟨Nat.le_of_ble_eq_true rfl, Nat.le_of_ble_eq_true rfl⟩ rfl (ct_i (ct_i ct_n)) (Nat.le_of_ble_eq_true rfl) dX7_isPlace_7 (fun r1 => ?_)
  refine J.iconst (pc := 10) C dX7_isPlace_10 ki_1 ?_
  refine J.isub (pc := 11) C dX7_isPlace_11 ?_
  refine J.sI (pc := 12) C ms_X7_isWithin wm_RX7_56 (fun l => c_X7_isWithin l g S a1 0 (r1 - 1)) ⟨⟨Nat.zero_le _, Nat.zero_le _⟩, rfl, rfl⟩ rfl ⟨Nat.le_of_ble_eq_true rfl, Nat.le_of_ble_eq_true rfl⟩ rfl ct_n (Nat.le_of_ble_eq_true rfl) dX7_isPlace_12 (fun r2 => ?_)
  refine J.if_eq (pc := 15) C (tgt := 40) dX7_isPlace_15 rfl ?_ ?_
  · refine J.iconst (pc := 40) C dX7_isPlace_40 ki_0 ?_
    exact J.zret (pc := 41) C rfl rfl rfl ⟨Nat.le_refl _, Nat.le_refl _⟩ dX7_isPlace_41
  · refine J.iload_n (pc := 18) C dX7_isPlace_18 rfl rfl ?_
    refine J.iconst (pc := 19) C dX7_isPlace_19 ki_0 ?_
    refine J.aload_n (pc := 20) C (x := a0) dX7_isPlace_20 rfl rfl ?_
    refine J.getR (pc := 21) C fl_RX7_12 rfl dX7_isPlace_21 ?_
    refine J.iconst (pc := 24) C dX7_isPlace_24 ki_1 ?_
    refine J.vI (pc := 25) C mv_X3_setting wm_RX7_78 (fun l => c_X3_setting l g S (S.2.1 a0 0) 1) ⟨⟨Nat.zero_le _, Nat.zero_le _⟩, rfl, rfl⟩ rfl ⟨Nat.le_of_ble_eq_true rfl, Nat.le_of_ble_eq_true rfl⟩ rfl (ct_i (ct_i ct_n)) (Nat.le_of_ble_eq_true rfl) dX7_isPlace_25 (fun r3 => ?_)
    refine J.iconst (pc := 28) C dX7_isPlace_28 ki_1 ?_
    refine J.isub (pc := 29) C dX7_isPlace_29 ?_
    refine J.sI (pc := 30) C ms_X7_isWithin wm_RX7_56 (fun l => c_X7_isWithin l g S a2 0 (r3 - 1)) ⟨⟨Nat.zero_le _, Nat.zero_le _⟩, rfl, rfl⟩ rfl ⟨Nat.le_of_ble_eq_true rfl, Nat.le_of_ble_eq_true rfl⟩ rfl ct_n (Nat.le_of_ble_eq_true rfl) dX7_isPlace_30 (fun r4 => ?_)
    refine J.if_eq (pc := 33) C (tgt := 40) dX7_isPlace_33 rfl ?_ ?_
    · refine J.iconst (pc := 40) C dX7_isPlace_40 ki_0 ?_
      exact J.zret (pc := 41) C rfl rfl rfl ⟨Nat.le_refl _, Nat.le_refl _⟩ dX7_isPlace_41
    · refine J.iconst (pc := 36) C dX7_isPlace_36 ki_1 ?_
      refine J.goto (pc := 37) C (tgt := 41) dX7_isPlace_37 rfl ?_
      exact J.zret (pc := 41) C rfl rfl rfl ⟨Nat.le_refl _, Nat.le_refl _⟩ dX7_isPlace_41
abbrev rm_X7_pixel : Room := { frames := 3, cells := 0, slots := 0, locals := 64 }
def f_X7_pixel (S : St) (a0 : Nat) (a1 : Int32) (a2 : Int32) (a3 : Int32) : Option Int32 :=
  (chk (okc S 7 a0)
  (chk (okc S 3 (S.2.1 a0 0)) (bnd (f_X3_frameAt S (S.2.1 a0 0) a1) fun r1 =>
  (if r1 = 0 then
  (some (-10000001))
  else (chk (okc S 7 a0) (bnd (f_X7_isPlace S a0 a2 a3) fun r2 =>
  (if r2 = 0 then
  (some (-10000001))
  else (chk (okc S 0 r1)
  (bnd (f_X7_holds (S.1 r1 1) a2) fun r3 =>
  (if r3 = 0 then
  (chk (okc S 0 r1) (bnd (f_X0_pixelAt S r1 a2 a3) fun r4 =>
  (some r4)))
  else (some (-10000004))))))))))))
set_option maxRecDepth 100000 in
set_option maxHeartbeats 4000000 in
theorem c_X7_pixel (l : Launch) (g : GG) (S : St) (a0 : Nat) (a1 : Int32) (a2 : Int32) (a3 : Int32) : Ct l yX7_pixel cX7_pixel 5 (some .int) rm_X7_pixel g aI (pK S) [rv g a0, .int a1, .int a2, .int a3] S (f_X7_pixel S a0 a1 a2 a3) := by
  refine Ct.mk (cf := cw (0, 0)) (by decide +kernel) (cat_r (cat_i (cat_i (cat_i cat_n)))) (Nat.le_of_ble_eq_true rfl) rfl ?_
  intro X hXl hin C
  show J X g _ _ 0 [(0, rv g a0), (1, .int a1), (2, .int a2), (3, .int a3)] [] S (f_X7_pixel S a0 a1 a2 a3)
  unfold f_X7_pixel
  refine J.aload_n (pc := 0) C (x := a0) dX7_pixel_0 rfl rfl ?_
  refine J.getR (pc := 1) C fl_RX7_12 rfl dX7_pixel_1 ?_
  refine J.iload_n (pc := 4) C dX7_pixel_4 rfl rfl ?_
  refine J.vR (pc := 5) C mv_X3_frameAt wm_RX7_149 (fun l => c_X3_frameAt l g S (S.2.1 a0 0) a1) ⟨⟨Nat.zero_le _, Nat.zero_le _⟩, rfl, rfl⟩ rfl ⟨Nat.le_of_ble_eq_true rfl, Nat.le_of_ble_eq_true rfl⟩ rfl ct_n (Nat.le_of_ble_eq_true rfl) dX7_pixel_5 (fun r1 => ?_)
  refine J.astore (pc := 8) C (lv' := [(0, rv g a0), (1, .int a1), (2, .int a2), (3, .int a3), (4, rv g r1)]) dX7_pixel_8 (Nat.le_of_ble_eq_true rfl) (lsf_r (lsf_i (lsf_i (lsf_i lsf_n)))) rfl ?_
  refine J.aload (pc := 10) C (x := r1) dX7_pixel_10 rfl ?_
  refine J.ifnull (pc := 12) C (tgt := 24) dX7_pixel_12 rfl ?_ ?_
  · refine J.ldc (pc := 24) C wc_RX7_60 dX7_pixel_24 ?_
    exact J.iret (pc := 26) C rfl rfl ⟨Nat.le_refl _, Nat.le_refl _⟩ dX7_pixel_26
  · refine J.aload_n (pc := 15) C (x := a0) dX7_pixel_15 rfl rfl ?_
    refine J.iload_n (pc := 16) C dX7_pixel_16 rfl rfl ?_
    refine J.iload_n (pc := 17) C dX7_pixel_17 rfl rfl ?_
    refine J.vI (pc := 18) C mv_X7_isPlace wm_RX7_131 (fun l => c_X7_isPlace l g S a0 a2 a3) ⟨⟨Nat.zero_le _, Nat.zero_le _⟩, rfl, rfl⟩ rfl ⟨Nat.le_of_ble_eq_true rfl, Nat.le_of_ble_eq_true rfl⟩ rfl ct_n (Nat.le_of_ble_eq_true rfl) dX7_pixel_18 (fun r2 => ?_)
    refine J.if_ne (pc := 21) C (tgt := 27) dX7_pixel_21 rfl ?_ ?_
    · refine J.aload (pc := 27) C (x := r1) dX7_pixel_27 rfl ?_
      refine J.getI (pc := 29) C fl_RX7_158 rfl dX7_pixel_29 ?_
      refine J.iload_n (pc := 32) C dX7_pixel_32 rfl rfl ?_
      refine J.sI (pc := 33) C ms_X7_holds wm_RX7_122 (fun l => c_X7_holds l g S (S.1 r1 1) a2) ⟨⟨Nat.zero_le _, Nat.zero_le _⟩, rfl, rfl⟩ rfl ⟨Nat.le_of_ble_eq_true rfl, Nat.le_of_ble_eq_true rfl⟩ rfl ct_n (Nat.le_of_ble_eq_true rfl) dX7_pixel_33 (fun r3 => ?_)
      refine J.if_eq (pc := 36) C (tgt := 44) dX7_pixel_36 rfl ?_ ?_
      · refine J.aload (pc := 44) C (x := r1) dX7_pixel_44 rfl ?_
        refine J.iload_n (pc := 46) C dX7_pixel_46 rfl rfl ?_
        refine J.iload_n (pc := 47) C dX7_pixel_47 rfl rfl ?_
        refine J.vI (pc := 48) C mv_X0_pixelAt wm_RX7_164 (fun l => c_X0_pixelAt l g S r1 a2 a3) ⟨⟨Nat.zero_le _, Nat.zero_le _⟩, rfl, rfl⟩ rfl ⟨Nat.le_of_ble_eq_true rfl, Nat.le_of_ble_eq_true rfl⟩ rfl ct_n (Nat.le_of_ble_eq_true rfl) dX7_pixel_48 (fun r4 => ?_)
        exact J.iret (pc := 51) C rfl rfl ⟨Nat.le_refl _, Nat.le_refl _⟩ dX7_pixel_51
      · refine J.ldc (pc := 39) C wc_RX7_163 dX7_pixel_39 ?_
        refine J.goto (pc := 41) C (tgt := 51) dX7_pixel_41 rfl ?_
        exact J.iret (pc := 51) C rfl rfl ⟨Nat.le_refl _, Nat.le_refl _⟩ dX7_pixel_51
    · refine J.ldc (pc := 24) C wc_RX7_60 dX7_pixel_24 ?_
      exact J.iret (pc := 26) C rfl rfl ⟨Nat.le_refl _, Nat.le_refl _⟩ dX7_pixel_26
abbrev rm_L_folded : Room := { frames := 5, cells := 0, slots := 0, locals := 115 }
def f_L_folded_B7 (S : St) (a0 : Nat) (a1 : Int32) (kx7 : Int64 → Option Int64) (k7 : Int64 → Int32 → Option Int64) (x2 : Int64) (x4 : Int32) : Option Int64 :=
  (chk (okc S 7 a0) (bnd (f_X7_count S a0 1) fun r1 =>
  (if r1 ≤ x4 then
  (kx7 x2)
  else (if x4 = a1 then
  (k7 x2 (x4 + 1))
  else (chk (okc S 7 a0) (bnd (f_X7_frameOf S a0 x4 0) fun r2 =>
  (chk (okc S 7 a0) (bnd (f_X7_frameOf S a0 x4 1) fun r3 =>
  (chk (okc S 7 a0) (bnd (f_X7_frameOf S a0 x4 2) fun r4 =>
  (chk (okc S 7 a0) (bnd (f_X7_pixel S a0 x4 0 1) fun r5 =>
  (k7 (((31 : Int64) * (((31 : Int64) * (((31 : Int64) * (((31 : Int64) * x2) + (Int32.toInt64 r2))) + (Int32.toInt64 r3))) + (Int32.toInt64 r4))) + (Int32.toInt64 r5)) (x4 + 1))))))))))))))
set_option maxRecDepth 100000 in
set_option maxHeartbeats 4000000 in
theorem w_L_folded_B7 {X : CT} {g : GG} (C : CX X g cL_folded RL (some .long) 5 rm_L_folded) (S : St) (a0 : Nat) (a1 : Int32) (kx7 : Int64 → Option Int64) (hkx7 : ∀ (x2 : Int64), J X g (Qm X g aL (pK S)) (cw (0, 0)) 93 [(2, .long x2)] [] S (kx7 x2)) : ∀ (n : Nat) (x2 : Int64) (x4 : Int32), J X g (Qm X g aL (pK S)) (cw (0, 0)) 7 [(0, rv g a0), (1, .int a1), (2, .long x2), (4, .int x4)] [] S (wl2 (f_L_folded_B7 S a0 a1 kx7) n x2 x4) := by
  refine J.loop2 (lvf := fun (x2 : Int64) (x4 : Int32) => [(0, rv g a0), (1, .int a1), (2, .long x2), (4, .int x4)]) (Sf := fun (x2 : Int64) (x4 : Int32) => S) ?_
  intro k7 hk7 x2 x4
  show J X g _ _ 7 [(0, rv g a0), (1, .int a1), (2, .long x2), (4, .int x4)] [] S (f_L_folded_B7 S a0 a1 kx7 k7 x2 x4)
  unfold f_L_folded_B7
  refine J.iload (pc := 7) C dL_folded_7 rfl ?_
  refine J.aload_n (pc := 9) C (x := a0) dL_folded_9 rfl rfl ?_
  refine J.iconst (pc := 10) C dL_folded_10 ki_1 ?_
  refine J.vI (pc := 11) C mv_X7_count wm_RL_29 (fun l => c_X7_count l g S a0 1) ⟨⟨Nat.zero_le _, Nat.zero_le _⟩, rfl, rfl⟩ rfl ⟨Nat.le_of_ble_eq_true rfl, Nat.le_of_ble_eq_true rfl⟩ rfl (ct_i ct_n) (Nat.le_of_ble_eq_true rfl) dL_folded_11 (fun r1 => ?_)
  refine J.icmp_ge (pc := 14) C (tgt := 93) dL_folded_14 rfl ?_ ?_
  · exact J.pick [2] rfl (hkx7 _)
  · refine J.iload (pc := 17) C dL_folded_17 rfl ?_
    refine J.iload_n (pc := 19) C dL_folded_19 rfl rfl ?_
    refine J.icmp_ne (pc := 20) C (tgt := 26) dL_folded_20 rfl ?_ ?_
    · refine J.ldc2_w (pc := 26) C wc_RL_71 dL_folded_26 ?_
      refine J.lload_n (pc := 29) C dL_folded_29 rfl rfl ?_
      refine J.lmul (pc := 30) C dL_folded_30 ?_
      refine J.aload_n (pc := 31) C (x := a0) dL_folded_31 rfl rfl ?_
      refine J.iload (pc := 32) C dL_folded_32 rfl ?_
      refine J.iconst (pc := 34) C dL_folded_34 ki_0 ?_
      refine J.vI (pc := 35) C mv_X7_frameOf wm_RL_33 (fun l => c_X7_frameOf l g S a0 x4 0) ⟨⟨Nat.zero_le _, Nat.zero_le _⟩, rfl, rfl⟩ rfl ⟨Nat.le_of_ble_eq_true rfl, Nat.le_of_ble_eq_true rfl⟩ rfl (ct_l ct_n) (Nat.le_of_ble_eq_true rfl) dL_folded_35 (fun r2 => ?_)
      refine J.i2l (pc := 38) C dL_folded_38 ?_
      refine J.ladd (pc := 39) C dL_folded_39 ?_
      refine J.lstore_n (pc := 40) C (lv' := [(0, rv g a0), (1, .int a1), (2, .long (((31 : Int64) * x2) + (Int32.toInt64 r2))), (4, .int x4)]) dL_folded_40 rfl (Nat.le_of_ble_eq_true rfl) (lsf_r (lsf_i (lsf_l (by decide) (lsf_i lsf_n)))) rfl ?_
      refine J.ldc2_w (pc := 41) C wc_RL_71 dL_folded_41 ?_
      refine J.lload_n (pc := 44) C dL_folded_44 rfl rfl ?_
      refine J.lmul (pc := 45) C dL_folded_45 ?_
      refine J.aload_n (pc := 46) C (x := a0) dL_folded_46 rfl rfl ?_
      refine J.iload (pc := 47) C dL_folded_47 rfl ?_
      refine J.iconst (pc := 49) C dL_folded_49 ki_1 ?_
      refine J.vI (pc := 50) C mv_X7_frameOf wm_RL_33 (fun l => c_X7_frameOf l g S a0 x4 1) ⟨⟨Nat.zero_le _, Nat.zero_le _⟩, rfl, rfl⟩ rfl ⟨Nat.le_of_ble_eq_true rfl, Nat.le_of_ble_eq_true rfl⟩ rfl (ct_l ct_n) (Nat.le_of_ble_eq_true rfl) dL_folded_50 (fun r3 => ?_)
      refine J.i2l (pc := 53) C dL_folded_53 ?_
      refine J.ladd (pc := 54) C dL_folded_54 ?_
      refine J.lstore_n (pc := 55) C (lv' := [(0, rv g a0), (1, .int a1), (2, .long (((31 : Int64) * (((31 : Int64) * x2) + (Int32.toInt64 r2))) + (Int32.toInt64 r3))), (4, .int x4)]) dL_folded_55 rfl (Nat.le_of_ble_eq_true rfl) (lsf_r (lsf_i (lsf_l (by decide) (lsf_i lsf_n)))) rfl ?_
      refine J.ldc2_w (pc := 56) C wc_RL_71 dL_folded_56 ?_
      refine J.lload_n (pc := 59) C dL_folded_59 rfl rfl ?_
      refine J.lmul (pc := 60) C dL_folded_60 ?_
      refine J.aload_n (pc := 61) C (x := a0) dL_folded_61 rfl rfl ?_
      refine J.iload (pc := 62) C dL_folded_62 rfl ?_
      refine J.iconst (pc := 64) C dL_folded_64 ki_2 ?_
      refine J.vI (pc := 65) C mv_X7_frameOf wm_RL_33 (fun l => c_X7_frameOf l g S a0 x4 2) ⟨⟨Nat.zero_le _, Nat.zero_le _⟩, rfl, rfl⟩ rfl ⟨Nat.le_of_ble_eq_true rfl, Nat.le_of_ble_eq_true rfl⟩ rfl (ct_l ct_n) (Nat.le_of_ble_eq_true rfl) dL_folded_65 (fun r4 => ?_)
      refine J.i2l (pc := 68) C dL_folded_68 ?_
      refine J.ladd (pc := 69) C dL_folded_69 ?_
      refine J.lstore_n (pc := 70) C (lv' := [(0, rv g a0), (1, .int a1), (2, .long (((31 : Int64) * (((31 : Int64) * (((31 : Int64) * x2) + (Int32.toInt64 r2))) + (Int32.toInt64 r3))) + (Int32.toInt64 r4))), (4, .int x4)]) dL_folded_70 rfl (Nat.le_of_ble_eq_true rfl) (lsf_r (lsf_i (lsf_l (by decide) (lsf_i lsf_n)))) rfl ?_
      refine J.ldc2_w (pc := 71) C wc_RL_71 dL_folded_71 ?_
      refine J.lload_n (pc := 74) C dL_folded_74 rfl rfl ?_
      refine J.lmul (pc := 75) C dL_folded_75 ?_
      refine J.aload_n (pc := 76) C (x := a0) dL_folded_76 rfl rfl ?_
      refine J.iload (pc := 77) C dL_folded_77 rfl ?_
      refine J.iconst (pc := 79) C dL_folded_79 ki_0 ?_
      refine J.iconst (pc := 80) C dL_folded_80 ki_1 ?_
      refine J.vI (pc := 81) C mv_X7_pixel wm_RL_44 (fun l => c_X7_pixel l g S a0 x4 0 1) ⟨⟨Nat.zero_le _, Nat.zero_le _⟩, rfl, rfl⟩ rfl ⟨Nat.le_of_ble_eq_true rfl, Nat.le_of_ble_eq_true rfl⟩ rfl (ct_l ct_n) (Nat.le_of_ble_eq_true rfl) dL_folded_81 (fun r5 => ?_)
      refine J.i2l (pc := 84) C dL_folded_84 ?_
      refine J.ladd (pc := 85) C dL_folded_85 ?_
      refine J.lstore_n (pc := 86) C (lv' := [(0, rv g a0), (1, .int a1), (2, .long (((31 : Int64) * (((31 : Int64) * (((31 : Int64) * (((31 : Int64) * x2) + (Int32.toInt64 r2))) + (Int32.toInt64 r3))) + (Int32.toInt64 r4))) + (Int32.toInt64 r5))), (4, .int x4)]) dL_folded_86 rfl (Nat.le_of_ble_eq_true rfl) (lsf_r (lsf_i (lsf_l (by decide) (lsf_i lsf_n)))) rfl ?_
      refine J.iinc (pc := 87) C (lv' := [(0, rv g a0), (1, .int a1), (2, .long (((31 : Int64) * (((31 : Int64) * (((31 : Int64) * (((31 : Int64) * x2) + (Int32.toInt64 r2))) + (Int32.toInt64 r3))) + (Int32.toInt64 r4))) + (Int32.toInt64 r5))), (4, .int (x4 + 1))]) dL_folded_87 rfl (Nat.le_of_ble_eq_true rfl) (lsf_r (lsf_i (lsf_l (by decide) (lsf_i lsf_n)))) ki_1 rfl ?_
      refine J.goto (pc := 90) C (tgt := 7) dL_folded_90 rfl ?_
      exact (hk7 _ _)
    · refine J.goto (pc := 23) C (tgt := 87) dL_folded_23 rfl ?_
      refine J.iinc (pc := 87) C (lv' := [(0, rv g a0), (1, .int a1), (2, .long x2), (4, .int (x4 + 1))]) dL_folded_87 rfl (Nat.le_of_ble_eq_true rfl) (lsf_r (lsf_i (lsf_l (by decide) (lsf_i lsf_n)))) ki_1 rfl ?_
      refine J.goto (pc := 90) C (tgt := 7) dL_folded_90 rfl ?_
      exact (hk7 _ _)
def f_L_folded (S : St) (a0 : Nat) (a1 : Int32) : Option Int64 :=
  (wl2 (f_L_folded_B7 S a0 a1 (fun (y2_6 : Int64) => (some y2_6))) FU (7 : Int64) 0)
set_option maxRecDepth 100000 in
set_option maxHeartbeats 4000000 in
theorem c_L_folded (l : Launch) (g : GG) (S : St) (a0 : Nat) (a1 : Int32) : Ct l yL_folded cL_folded 5 (some .long) rm_L_folded g aL (pK S) [rv g a0, .int a1] S (f_L_folded S a0 a1) := by
  refine Ct.mk (cf := cw (0, 0)) (by decide +kernel) (cat_r (cat_i cat_n)) (Nat.le_of_ble_eq_true rfl) rfl ?_
  intro X hXl hin C
  show J X g _ _ 0 [(0, rv g a0), (1, .int a1)] [] S (f_L_folded S a0 a1)
  unfold f_L_folded
  refine J.ldc2_w (pc := 0) C wc_RL_69 dL_folded_0 ?_
  refine J.lstore_n (pc := 3) C (lv' := [(0, rv g a0), (1, .int a1), (2, .long (7 : Int64))]) dL_folded_3 rfl (Nat.le_of_ble_eq_true rfl) (lsf_r (lsf_i lsf_n)) rfl ?_
  refine J.iconst (pc := 4) C dL_folded_4 ki_0 ?_
  refine J.istore (pc := 5) C (lv' := [(0, rv g a0), (1, .int a1), (2, .long (7 : Int64)), (4, .int 0)]) dL_folded_5 (Nat.le_of_ble_eq_true rfl) (lsf_r (lsf_i (lsf_l (by decide) lsf_n))) rfl ?_
  refine w_L_folded_B7 C _ _ _ _ (fun y2_6 => ?_) FU _ _
  refine J.lload_n (pc := 93) C dL_folded_93 rfl rfl ?_
  exact J.lret (pc := 94) C rfl rfl ⟨Nat.le_refl _, Nat.le_refl _⟩ dL_folded_94
abbrev rm_X3_dropFrame : Room := { frames := 1, cells := 0, slots := 0, locals := 21 }
def f_X3_dropFrame_B15 (a0 : Nat) (a2 : Nat) (kx15 : St → Option St) (k15 : St → Int32 → Option St) (S : St) (x3 : Int32) : Option St :=
  (chk (okc S 3 a0)
  (if (S.1 a0 4) ≤ x3 then
  (kx15 S)
  else (chk (okc S 3 a0)
  (chk (okc S 12 (S.2.1 a0 3))
  (if (Int32.ofNat (ln (S.2.1 a0 3))) ≤ x3 then
  (kx15 S)
  else (chk (okc S 3 a0)
  (chk (okc S 3 a0)
  (chk (ina S 12 (S.2.1 a0 3) x3)
  (chk (inw S 12 (S.2.1 a0 3) (x3 - 1) ∧ okc S 0 (S.2.1 (S.2.1 a0 3) x3.toNatClampNeg)) (vlt (upR S (S.2.1 a0 3) (x3 - 1).toNatClampNeg (S.2.1 (S.2.1 a0 3) x3.toNatClampNeg)) fun S_2 =>
  (k15 S_2 (x3 + 1))))))))))))
set_option maxRecDepth 100000 in
set_option maxHeartbeats 4000000 in
theorem w_X3_dropFrame_B15 {X : CT} {g : GG} (C : CX X g cX3_dropFrame RX3 none 4 rm_X3_dropFrame) (a0 : Nat) (a2 : Nat) (kx15 : St → Option St) (hkx15 : ∀ (S : St), J X g (Qm X g aU pU) (cw (0, 0)) 52 [(0, rv g a0), (2, rv g a2)] [] S (kx15 S)) : ∀ (n : Nat) (S : St) (x3 : Int32), J X g (Qm X g aU pU) (cw (0, 0)) 15 [(0, rv g a0), (2, rv g a2), (3, .int x3)] [] S (wl2 (f_X3_dropFrame_B15 a0 a2 kx15) n S x3) := by
  refine J.loop2 (lvf := fun (S : St) (x3 : Int32) => [(0, rv g a0), (2, rv g a2), (3, .int x3)]) (Sf := fun (S : St) (x3 : Int32) => S) ?_
  intro k15 hk15 S x3
  show J X g _ _ 15 [(0, rv g a0), (2, rv g a2), (3, .int x3)] [] S (f_X3_dropFrame_B15 a0 a2 kx15 k15 S x3)
  unfold f_X3_dropFrame_B15
  refine J.iload_n (pc := 15) C dX3_dropFrame_15 rfl rfl ?_
  refine J.aload_n (pc := 16) C (x := a0) dX3_dropFrame_16 rfl rfl ?_
  refine J.getI (pc := 17) C fl_RX3_67 rfl dX3_dropFrame_17 ?_
  refine J.icmp_ge (pc := 20) C (tgt := 52) dX3_dropFrame_20 rfl ?_ ?_
  · exact J.pick [0, 1] rfl (hkx15 _)
  · refine J.iload_n (pc := 23) C dX3_dropFrame_23 rfl rfl ?_
    refine J.aload_n (pc := 24) C (x := a0) dX3_dropFrame_24 rfl rfl ?_
    refine J.getR (pc := 25) C fl_RX3_23 rfl dX3_dropFrame_25 ?_
    refine J.alen (pc := 28) C 12 (by decide) dX3_dropFrame_28 ?_
    refine J.icmp_ge (pc := 29) C (tgt := 52) dX3_dropFrame_29 rfl ?_ ?_
    · exact J.pick [0, 1] rfl (hkx15 _)
    · refine J.aload_n (pc := 32) C (x := a0) dX3_dropFrame_32 rfl rfl ?_
      refine J.getR (pc := 33) C fl_RX3_23 rfl dX3_dropFrame_33 ?_
      refine J.iload_n (pc := 36) C dX3_dropFrame_36 rfl rfl ?_
      refine J.iconst (pc := 37) C dX3_dropFrame_37 ki_1 ?_
      refine J.isub (pc := 38) C dX3_dropFrame_38 ?_
      refine J.aload_n (pc := 39) C (x := a0) dX3_dropFrame_39 rfl rfl ?_
      refine J.getR (pc := 40) C fl_RX3_23 rfl dX3_dropFrame_40 ?_
      refine J.iload_n (pc := 43) C dX3_dropFrame_43 rfl rfl ?_
      refine J.aald (pc := 44) C 12 (by decide) (fun _ => rfl) rfl dX3_dropFrame_44 ?_
      refine J.aasts (pc := 45) C 12 0 (by decide) (fun _ => rfl) rfl rfl dX3_dropFrame_45 (fun S_2 => ?_)
      refine J.iinc (pc := 46) C (lv' := [(0, rv g a0), (2, rv g a2), (3, .int (x3 + 1))]) dX3_dropFrame_46 rfl (Nat.le_of_ble_eq_true rfl) (lsf_r (lsf_r (lsf_i lsf_n))) ki_1 rfl ?_
      refine J.goto (pc := 49) C (tgt := 15) dX3_dropFrame_49 rfl ?_
      exact (hk15 _ _)
def f_X3_dropFrame_J52 (S : St) (x0 : Nat) (x2 : Nat) : Option St :=
  (chk (okc S 3 x0)
  (if ((S.1 x0 4) - 1) < 0 then
  (some S)
  else (chk (okc S 3 x0)
  (chk (okc S 12 (S.2.1 x0 3))
  (if (Int32.ofNat (ln (S.2.1 x0 3))) ≤ ((S.1 x0 4) - 1) then
  (some S)
  else (chk (okc S 3 x0)
  (chk (inw S 12 (S.2.1 x0 3) ((S.1 x0 4) - 1) ∧ okc S 0 x2) (vlt (upR S (S.2.1 x0 3) ((S.1 x0 4) - 1).toNatClampNeg x2) fun S_4 =>
  (chk (okc S_4 3 x0) (vlt (upI S_4 x0 4 ((S.1 x0 4) - 1)) fun S_5 =>
  (some S_5)))))))))))
set_option maxRecDepth 100000 in
set_option maxHeartbeats 4000000 in
theorem w_X3_dropFrame_J52 {X : CT} {g : GG} (C : CX X g cX3_dropFrame RX3 none 4 rm_X3_dropFrame) (S : St) (x0 : Nat) (x2 : Nat) : J X g (Qm X g aU pU) (cw (0, 0)) 52 [(0, rv g x0), (2, rv g x2)] [] S (f_X3_dropFrame_J52 S x0 x2) := by
  unfold f_X3_dropFrame_J52
  refine J.aload_n (pc := 52) C (x := x0) dX3_dropFrame_52 rfl rfl ?_
  refine J.getI (pc := 53) C fl_RX3_67 rfl dX3_dropFrame_53 ?_
  refine J.iconst (pc := 56) C dX3_dropFrame_56 ki_1 ?_
  refine J.isub (pc := 57) C dX3_dropFrame_57 ?_
  refine J.istore_n (pc := 58) C (lv' := [(0, rv g x0), (2, rv g x2), (3, .int ((S.1 x0 4) - 1))]) dX3_dropFrame_58 rfl (Nat.le_of_ble_eq_true rfl) (lsf_r (lsf_r lsf_n)) rfl ?_
  refine J.iload_n (pc := 59) C dX3_dropFrame_59 rfl rfl ?_
  refine J.if_lt (pc := 60) C (tgt := 84) dX3_dropFrame_60 rfl ?_ ?_
  · exact J.vret (pc := 84) C rfl rfl ⟨Nat.le_refl _, Nat.le_refl _⟩ dX3_dropFrame_84
  · refine J.iload_n (pc := 63) C dX3_dropFrame_63 rfl rfl ?_
    refine J.aload_n (pc := 64) C (x := x0) dX3_dropFrame_64 rfl rfl ?_
    refine J.getR (pc := 65) C fl_RX3_23 rfl dX3_dropFrame_65 ?_
    refine J.alen (pc := 68) C 12 (by decide) dX3_dropFrame_68 ?_
    refine J.icmp_ge (pc := 69) C (tgt := 84) dX3_dropFrame_69 rfl ?_ ?_
    · exact J.vret (pc := 84) C rfl rfl ⟨Nat.le_refl _, Nat.le_refl _⟩ dX3_dropFrame_84
    · refine J.aload_n (pc := 72) C (x := x0) dX3_dropFrame_72 rfl rfl ?_
      refine J.getR (pc := 73) C fl_RX3_23 rfl dX3_dropFrame_73 ?_
      refine J.iload_n (pc := 76) C dX3_dropFrame_76 rfl rfl ?_
      refine J.aload_n (pc := 77) C (x := x2) dX3_dropFrame_77 rfl rfl ?_
      refine J.aasts (pc := 78) C 12 0 (by decide) (fun _ => rfl) rfl rfl dX3_dropFrame_78 (fun S_4 => ?_)
      refine J.aload_n (pc := 79) C (x := x0) dX3_dropFrame_79 rfl rfl ?_
      refine J.iload_n (pc := 80) C dX3_dropFrame_80 rfl rfl ?_
      refine J.putIs (pc := 81) C fl_RX3_67 rfl (fun r h => by cases h; rfl) rfl rfl dX3_dropFrame_81 (fun S_5 => ?_)
      exact J.vret (pc := 84) C rfl rfl ⟨Nat.le_refl _, Nat.le_refl _⟩ dX3_dropFrame_84
def f_X3_dropFrame (S : St) (a0 : Nat) (a1 : Int32) : Option St :=
  (chk (okc S 3 a0) (bnd (f_X3_frameAt S a0 a1) fun r1 =>
  (if r1 = 0 then
  (some S)
  else (wl2 (f_X3_dropFrame_B15 a0 r1 (fun (S_3 : St) => (f_X3_dropFrame_J52 S_3 a0 r1))) FU S (a1 + 1)))))
set_option maxRecDepth 100000 in
set_option maxHeartbeats 4000000 in
theorem c_X3_dropFrame (l : Launch) (g : GG) (S : St) (a0 : Nat) (a1 : Int32) : Ct l yX3_dropFrame cX3_dropFrame 4 none rm_X3_dropFrame g aU pU [rv g a0, .int a1] S (f_X3_dropFrame S a0 a1) := by
  refine Ct.mk (cf := cw (0, 0)) (by decide +kernel) (cat_r (cat_i cat_n)) (Nat.le_of_ble_eq_true rfl) rfl ?_
  intro X hXl hin C
  show J X g _ _ 0 [(0, rv g a0), (1, .int a1)] [] S (f_X3_dropFrame S a0 a1)
  unfold f_X3_dropFrame
  refine J.aload_n (pc := 0) C (x := a0) dX3_dropFrame_0 rfl rfl ?_
  refine J.iload_n (pc := 1) C dX3_dropFrame_1 rfl rfl ?_
  refine J.vR (pc := 2) C mv_X3_frameAt wm_RX3_73 (fun l => c_X3_frameAt l g S a0 a1) ⟨⟨Nat.zero_le _, Nat.zero_le _⟩, rfl, rfl⟩ rfl ⟨Nat.le_of_ble_eq_true rfl, Nat.le_of_ble_eq_true rfl⟩ rfl ct_n (Nat.le_of_ble_eq_true rfl) dX3_dropFrame_2 (fun r1 => ?_)
  refine J.astore_n (pc := 5) C (lv' := [(0, rv g a0), (1, .int a1), (2, rv g r1)]) dX3_dropFrame_5 rfl (Nat.le_of_ble_eq_true rfl) (lsf_r (lsf_i lsf_n)) rfl ?_
  refine J.aload_n (pc := 6) C (x := r1) dX3_dropFrame_6 rfl rfl ?_
  refine J.ifnonnull (pc := 7) C (tgt := 11) dX3_dropFrame_7 rfl ?_ ?_
  · refine J.iload_n (pc := 11) C dX3_dropFrame_11 rfl rfl ?_
    refine J.iconst (pc := 12) C dX3_dropFrame_12 ki_1 ?_
    refine J.iadd (pc := 13) C dX3_dropFrame_13 ?_
    refine J.istore_n (pc := 14) C (lv' := [(0, rv g a0), (1, .int a1), (2, rv g r1), (3, .int (a1 + 1))]) dX3_dropFrame_14 rfl (Nat.le_of_ble_eq_true rfl) (lsf_r (lsf_i (lsf_r lsf_n))) rfl ?_
    refine J.pick [0, 2, 3] rfl ?_
    refine w_X3_dropFrame_B15 C _ _ _ (fun S_3 => ?_) FU _ _
    exact (w_X3_dropFrame_J52 C _ _ _)
  · exact J.vret (pc := 10) C rfl rfl ⟨Nat.le_refl _, Nat.le_refl _⟩ dX3_dropFrame_10
abbrev rm_X7_forget : Room := { frames := 4, cells := 0, slots := 0, locals := 88 }
def f_X7_forget (S : St) (a0 : Nat) (a1 : Int32) : Option (Int32 × St) :=
  (chk (okc S 7 a0)
  (chk (okc S 3 (S.2.1 a0 0)) (bnd (f_X3_frameAt S (S.2.1 a0 0) a1) fun r1 =>
  (if r1 = 0 then
  (some ((-10000001), S))
  else (chk (okc S 7 a0) (bnd (f_X7_recordState S a0) fun S_2 =>
  (chk (okc S_2 7 a0)
  (chk (okc S_2 3 (S_2.2.1 a0 0)) (bnd (f_X3_dropFrame S_2 (S_2.2.1 a0 0) a1) fun S_3 =>
  (chk (okc S_3 7 a0)
  (chk (okc S_3 3 (S_3.2.1 a0 0))
  (some (S_3.1 (S_3.2.1 a0 0) 4, S_3)))))))))))))
set_option maxRecDepth 100000 in
set_option maxHeartbeats 4000000 in
theorem c_X7_forget (l : Launch) (g : GG) (S : St) (a0 : Nat) (a1 : Int32) : Ct l yX7_forget cX7_forget 2 (some .int) rm_X7_forget g aW pW [rv g a0, .int a1] S (f_X7_forget S a0 a1) := by
  refine Ct.mk (cf := cw (0, 0)) (by decide +kernel) (cat_r (cat_i cat_n)) (Nat.le_of_ble_eq_true rfl) rfl ?_
  intro X hXl hin C
  show J X g _ _ 0 [(0, rv g a0), (1, .int a1)] [] S (f_X7_forget S a0 a1)
  unfold f_X7_forget
  refine J.aload_n (pc := 0) C (x := a0) dX7_forget_0 rfl rfl ?_
  refine J.getR (pc := 1) C fl_RX7_12 rfl dX7_forget_1 ?_
  refine J.iload_n (pc := 4) C dX7_forget_4 rfl rfl ?_
  refine J.vR (pc := 5) C mv_X3_frameAt wm_RX7_149 (fun l => c_X3_frameAt l g S (S.2.1 a0 0) a1) ⟨⟨Nat.zero_le _, Nat.zero_le _⟩, rfl, rfl⟩ rfl ⟨Nat.le_of_ble_eq_true rfl, Nat.le_of_ble_eq_true rfl⟩ rfl ct_n (Nat.le_of_ble_eq_true rfl) dX7_forget_5 (fun r1 => ?_)
  refine J.ifnonnull (pc := 8) C (tgt := 14) dX7_forget_8 rfl ?_ ?_
  · refine J.aload_n (pc := 14) C (x := a0) dX7_forget_14 rfl rfl ?_
    refine J.vU (pc := 15) C mv_X7_recordState wm_RX7_75 (fun l => c_X7_recordState l g S a0) ⟨⟨Nat.zero_le _, Nat.zero_le _⟩, rfl, rfl⟩ rfl ⟨Nat.le_of_ble_eq_true rfl, Nat.le_of_ble_eq_true rfl⟩ rfl ct_n (Nat.le_of_ble_eq_true rfl) dX7_forget_15 (fun S_2 => ?_)
    refine J.aload_n (pc := 18) C (x := a0) dX7_forget_18 rfl rfl ?_
    refine J.getR (pc := 19) C fl_RX7_12 rfl dX7_forget_19 ?_
    refine J.iload_n (pc := 22) C dX7_forget_22 rfl rfl ?_
    refine J.vU (pc := 23) C mv_X3_dropFrame wm_RX7_153 (fun l => c_X3_dropFrame l g S_2 (S_2.2.1 a0 0) a1) ⟨⟨Nat.zero_le _, Nat.zero_le _⟩, rfl, rfl⟩ rfl ⟨Nat.le_of_ble_eq_true rfl, Nat.le_of_ble_eq_true rfl⟩ rfl ct_n (Nat.le_of_ble_eq_true rfl) dX7_forget_23 (fun S_3 => ?_)
    refine J.aload_n (pc := 26) C (x := a0) dX7_forget_26 rfl rfl ?_
    refine J.getR (pc := 27) C fl_RX7_12 rfl dX7_forget_27 ?_
    refine J.getI (pc := 30) C fl_RX7_71 rfl dX7_forget_30 ?_
    exact J.iret (pc := 33) C rfl rfl ⟨Nat.le_refl _, Nat.le_refl _⟩ dX7_forget_33
  · refine J.ldc (pc := 11) C wc_RX7_60 dX7_forget_11 ?_
    exact J.iret (pc := 13) C rfl rfl ⟨Nat.le_refl _, Nat.le_refl _⟩ dX7_forget_13
abbrev rm_X7_undo : Room := { frames := 3, cells := 0, slots := 0, locals := 68 }
def f_X7_undo (S : St) (a0 : Nat) : Option (Int32 × St) :=
  (chk (okc S 7 a0)
  (if ((S.1 a0 2) - 1) < 0 then
  (some ((-10000002), S))
  else (chk (okc S 7 a0)
  (chk (okc S 13 (S.2.1 a0 1))
  (if ((S.1 a0 2) - 1) < (Int32.ofNat (ln (S.2.1 a0 1))) then
  (chk (okc S 7 a0)
  (chk (okc S 7 a0)
  (chk (ina S 13 (S.2.1 a0 1) ((S.1 a0 2) - 1))
  (chk (okc S 3 (S.2.1 a0 0)) (bnd (f_X3_become S (S.2.1 a0 0) (S.2.1 (S.2.1 a0 1) ((S.1 a0 2) - 1).toNatClampNeg)) fun S_1 =>
  (chk (okc S_1 7 a0) (vlt (upI S_1 a0 2 ((S.1 a0 2) - 1)) fun S_2 =>
  (chk (okc S_2 7 a0)
  (some (S_2.1 a0 2, S_2))))))))))
  else (some ((-10000002), S)))))))
set_option maxRecDepth 100000 in
set_option maxHeartbeats 4000000 in
theorem c_X7_undo (l : Launch) (g : GG) (S : St) (a0 : Nat) : Ct l yX7_undo cX7_undo 2 (some .int) rm_X7_undo g aW pW [rv g a0] S (f_X7_undo S a0) := by
  refine Ct.mk (cf := cw (0, 0)) (by decide +kernel) (cat_r cat_n) (Nat.le_of_ble_eq_true rfl) rfl ?_
  intro X hXl hin C
  show J X g _ _ 0 [(0, rv g a0)] [] S (f_X7_undo S a0)
  unfold f_X7_undo
  refine J.aload_n (pc := 0) C (x := a0) dX7_undo_0 rfl rfl ?_
  refine J.getI (pc := 1) C fl_RX7_20 rfl dX7_undo_1 ?_
  refine J.iconst (pc := 4) C dX7_undo_4 ki_1 ?_
  refine J.isub (pc := 5) C dX7_undo_5 ?_
  refine J.istore_n (pc := 6) C (lv' := [(0, rv g a0), (1, .int ((S.1 a0 2) - 1))]) dX7_undo_6 rfl (Nat.le_of_ble_eq_true rfl) (lsf_r lsf_n) rfl ?_
  refine J.iload_n (pc := 7) C dX7_undo_7 rfl rfl ?_
  refine J.if_lt (pc := 8) C (tgt := 20) dX7_undo_8 rfl ?_ ?_
  · refine J.ldc (pc := 20) C wc_RX7_74 dX7_undo_20 ?_
    exact J.iret (pc := 22) C rfl rfl ⟨Nat.le_refl _, Nat.le_refl _⟩ dX7_undo_22
  · refine J.iload_n (pc := 11) C dX7_undo_11 rfl rfl ?_
    refine J.aload_n (pc := 12) C (x := a0) dX7_undo_12 rfl rfl ?_
    refine J.getR (pc := 13) C fl_RX7_16 rfl dX7_undo_13 ?_
    refine J.alen (pc := 16) C 13 (by decide) dX7_undo_16 ?_
    refine J.icmp_lt (pc := 17) C (tgt := 23) dX7_undo_17 rfl ?_ ?_
    · refine J.aload_n (pc := 23) C (x := a0) dX7_undo_23 rfl rfl ?_
      refine J.getR (pc := 24) C fl_RX7_12 rfl dX7_undo_24 ?_
      refine J.aload_n (pc := 27) C (x := a0) dX7_undo_27 rfl rfl ?_
      refine J.getR (pc := 28) C fl_RX7_16 rfl dX7_undo_28 ?_
      refine J.iload_n (pc := 31) C dX7_undo_31 rfl rfl ?_
      refine J.aald (pc := 32) C 13 (by decide) (fun _ => rfl) rfl dX7_undo_32 ?_
      refine J.vU (pc := 33) C mv_X3_become wm_RX7_257 (fun l => c_X3_become l g S (S.2.1 a0 0) (S.2.1 (S.2.1 a0 1) ((S.1 a0 2) - 1).toNatClampNeg)) ⟨⟨Nat.zero_le _, Nat.zero_le _⟩, rfl, rfl⟩ rfl ⟨Nat.le_of_ble_eq_true rfl, Nat.le_of_ble_eq_true rfl⟩ rfl ct_n (Nat.le_of_ble_eq_true rfl) dX7_undo_33 (fun S_1 => ?_)
      refine J.aload_n (pc := 36) C (x := a0) dX7_undo_36 rfl rfl ?_
      refine J.iload_n (pc := 37) C dX7_undo_37 rfl rfl ?_
      refine J.putIs (pc := 38) C fl_RX7_20 rfl (fun r h => by cases h; rfl) rfl rfl dX7_undo_38 (fun S_2 => ?_)
      refine J.aload_n (pc := 41) C (x := a0) dX7_undo_41 rfl rfl ?_
      refine J.getI (pc := 42) C fl_RX7_20 rfl dX7_undo_42 ?_
      exact J.iret (pc := 45) C rfl rfl ⟨Nat.le_refl _, Nat.le_refl _⟩ dX7_undo_45
    · refine J.ldc (pc := 20) C wc_RX7_74 dX7_undo_20 ?_
      exact J.iret (pc := 22) C rfl rfl ⟨Nat.le_refl _, Nat.le_refl _⟩ dX7_undo_22
abbrev rm_L_forgets : Room := { frames := 6, cells := 0, slots := 0, locals := 139 }
def f_L_forgets_J75 (S : St) (x0 : Nat) (x2 : Int32) (x5 : Int64) (t0 : Int32) : Option (Int32 × St) :=
  (if t0 = 0 then
  (some (0, S))
  else (chk (okc S 7 x0) (bnd2 (f_X7_undo S x0) fun r6 S_7 =>
  (if r6 < 0 then
  (some (0, S_7))
  else (bnd (f_L_folded S_7 x0 (-1)) fun r8 =>
  (if (lg_cmp r8 x5) = 0 then
  (chk (okc S_7 7 x0) (bnd (f_X7_count S_7 x0 1) fun r9 =>
  (if r9 = x2 then
  (some (1, S_7))
  else (some (0, S_7)))))
  else (some (0, S_7))))))))
set_option maxRecDepth 100000 in
set_option maxHeartbeats 4000000 in
theorem w_L_forgets_J75 {X : CT} {g : GG} (C : CX X g cL_forgets RL (some .boolean) 8 rm_L_forgets) (S : St) (x0 : Nat) (x2 : Int32) (x5 : Int64) (t0 : Int32) : J X g (Qm X g aW pW) (cw (0, 0)) 75 [(0, rv g x0), (2, .int x2), (5, .long x5)] [.int t0] S (f_L_forgets_J75 S x0 x2 x5 t0) := by
  unfold f_L_forgets_J75
  refine J.istore (pc := 75) C (lv' := [(0, rv g x0), (2, .int x2), (5, .long x5), (7, .int t0)]) dL_forgets_75 (Nat.le_of_ble_eq_true rfl) (lsf_r (lsf_i (lsf_l (by decide) lsf_n))) rfl ?_
  refine J.iload (pc := 77) C dL_forgets_77 rfl ?_
  refine J.if_eq (pc := 79) C (tgt := 113) dL_forgets_79 rfl ?_ ?_
  · refine J.iconst (pc := 113) C dL_forgets_113 ki_0 ?_
    exact J.zret (pc := 114) C rfl rfl rfl ⟨Nat.le_refl _, Nat.le_refl _⟩ dL_forgets_114
  · refine J.aload_n (pc := 82) C (x := x0) dL_forgets_82 rfl rfl ?_
    refine J.vW (pc := 83) C mv_X7_undo wm_RL_81 (fun l => c_X7_undo l g S x0) ⟨⟨Nat.zero_le _, Nat.zero_le _⟩, rfl, rfl⟩ rfl ⟨Nat.le_of_ble_eq_true rfl, Nat.le_of_ble_eq_true rfl⟩ rfl ct_n (Nat.le_of_ble_eq_true rfl) dL_forgets_83 (fun r6 S_7 => ?_)
    refine J.if_lt (pc := 86) C (tgt := 113) dL_forgets_86 rfl ?_ ?_
    · refine J.iconst (pc := 113) C dL_forgets_113 ki_0 ?_
      exact J.zret (pc := 114) C rfl rfl rfl ⟨Nat.le_refl _, Nat.le_refl _⟩ dL_forgets_114
    · refine J.aload_n (pc := 89) C (x := x0) dL_forgets_89 rfl rfl ?_
      refine J.iconst (pc := 90) C dL_forgets_90 ki_m1 ?_
      refine J.sL (pc := 91) C ms_L_folded wm_RL_77 (fun l => c_L_folded l g S_7 x0 (-1)) ⟨⟨Nat.zero_le _, Nat.zero_le _⟩, rfl, rfl⟩ rfl ⟨Nat.le_of_ble_eq_true rfl, Nat.le_of_ble_eq_true rfl⟩ rfl ct_n (Nat.le_of_ble_eq_true rfl) dL_forgets_91 (fun r8 => ?_)
      refine J.lload (pc := 94) C dL_forgets_94 rfl ?_
      refine J.lcmp (pc := 96) C dL_forgets_96 ?_
      refine J.if_ne (pc := 97) C (tgt := 113) dL_forgets_97 rfl ?_ ?_
      · refine J.iconst (pc := 113) C dL_forgets_113 ki_0 ?_
        exact J.zret (pc := 114) C rfl rfl rfl ⟨Nat.le_refl _, Nat.le_refl _⟩ dL_forgets_114
      · refine J.aload_n (pc := 100) C (x := x0) dL_forgets_100 rfl rfl ?_
        refine J.iconst (pc := 101) C dL_forgets_101 ki_1 ?_
        refine J.vI (pc := 102) C mv_X7_count wm_RL_29 (fun l => c_X7_count l g S_7 x0 1) ⟨⟨Nat.zero_le _, Nat.zero_le _⟩, rfl, rfl⟩ rfl ⟨Nat.le_of_ble_eq_true rfl, Nat.le_of_ble_eq_true rfl⟩ rfl ct_n (Nat.le_of_ble_eq_true rfl) dL_forgets_102 (fun r9 => ?_)
        refine J.iload_n (pc := 105) C dL_forgets_105 rfl rfl ?_
        refine J.icmp_ne (pc := 106) C (tgt := 113) dL_forgets_106 rfl ?_ ?_
        · refine J.iconst (pc := 113) C dL_forgets_113 ki_0 ?_
          exact J.zret (pc := 114) C rfl rfl rfl ⟨Nat.le_refl _, Nat.le_refl _⟩ dL_forgets_114
        · refine J.iconst (pc := 109) C dL_forgets_109 ki_1 ?_
          refine J.goto (pc := 110) C (tgt := 114) dL_forgets_110 rfl ?_
          exact J.zret (pc := 114) C rfl rfl rfl ⟨Nat.le_refl _, Nat.le_refl _⟩ dL_forgets_114
def f_L_forgets_J74 (S : St) (x0 : Nat) (x2 : Int32) (x5 : Int64) : Option (Int32 × St) :=
  (f_L_forgets_J75 S x0 x2 x5 0)
set_option maxRecDepth 100000 in
set_option maxHeartbeats 4000000 in
theorem w_L_forgets_J74 {X : CT} {g : GG} (C : CX X g cL_forgets RL (some .boolean) 8 rm_L_forgets) (S : St) (x0 : Nat) (x2 : Int32) (x5 : Int64) : J X g (Qm X g aW pW) (cw (0, 0)) 74 [(0, rv g x0), (2, .int x2), (5, .long x5)] [] S (f_L_forgets_J74 S x0 x2 x5) := by
  unfold f_L_forgets_J74
  refine J.iconst (pc := 74) C dL_forgets_74 ki_0 ?_
  exact (w_L_forgets_J75 C _ _ _ _ _)
def f_L_forgets (S : St) (a0 : Nat) (a1 : Int32) : Option (Int32 × St) :=
  (chk (okc S 7 a0) (bnd (f_X7_count S a0 1) fun r1 =>
  (if a1 < r1 then
  (bnd (f_L_folded S a0 a1) fun r2 =>
  (bnd (f_L_folded S a0 (-1)) fun r3 =>
  (chk (okc S 7 a0) (bnd2 (f_X7_forget S a0 a1) fun r4 S_5 =>
  (if r4 = (r1 - 1) then
  (bnd (f_L_folded S_5 a0 (-1)) fun r10 =>
  (if (lg_cmp r10 r2) = 0 then
  (f_L_forgets_J75 S_5 a0 r1 r3 1)
  else (f_L_forgets_J74 S_5 a0 r1 r3)))
  else (f_L_forgets_J74 S_5 a0 r1 r3))))))
  else (chk (okc S 7 a0) (bnd2 (f_X7_forget S a0 a1) fun r11 S_12 =>
  (if r11 = (-10000001) then
  (chk (okc S_12 7 a0) (bnd (f_X7_count S_12 a0 1) fun r13 =>
  (if r13 = r1 then
  (some (1, S_12))
  else (some (0, S_12)))))
  else (some (0, S_12))))))))
set_option maxRecDepth 100000 in
set_option maxHeartbeats 4000000 in
theorem c_L_forgets (l : Launch) (g : GG) (S : St) (a0 : Nat) (a1 : Int32) : Ct l yL_forgets cL_forgets 8 (some .boolean) rm_L_forgets g aW pW [rv g a0, .int a1] S (f_L_forgets S a0 a1) := by
  refine Ct.mk (cf := cw (0, 0)) (by decide +kernel) (cat_r (cat_i cat_n)) (Nat.le_of_ble_eq_true rfl) rfl ?_
  intro X hXl hin C
  show J X g _ _ 0 [(0, rv g a0), (1, .int a1)] [] S (f_L_forgets S a0 a1)
  unfold f_L_forgets
  refine J.aload_n (pc := 0) C (x := a0) dL_forgets_0 rfl rfl ?_
  refine J.iconst (pc := 1) C dL_forgets_1 ki_1 ?_
  refine J.vI (pc := 2) C mv_X7_count wm_RL_29 (fun l => c_X7_count l g S a0 1) ⟨⟨Nat.zero_le _, Nat.zero_le _⟩, rfl, rfl⟩ rfl ⟨Nat.le_of_ble_eq_true rfl, Nat.le_of_ble_eq_true rfl⟩ rfl ct_n (Nat.le_of_ble_eq_true rfl) dL_forgets_2 (fun r1 => ?_)
  refine J.istore_n (pc := 5) C (lv' := [(0, rv g a0), (1, .int a1), (2, .int r1)]) dL_forgets_5 rfl (Nat.le_of_ble_eq_true rfl) (lsf_r (lsf_i lsf_n)) rfl ?_
  refine J.iload_n (pc := 6) C dL_forgets_6 rfl rfl ?_
  refine J.iload_n (pc := 7) C dL_forgets_7 rfl rfl ?_
  refine J.icmp_lt (pc := 8) C (tgt := 36) dL_forgets_8 rfl ?_ ?_
  · refine J.aload_n (pc := 36) C (x := a0) dL_forgets_36 rfl rfl ?_
    refine J.iload_n (pc := 37) C dL_forgets_37 rfl rfl ?_
    refine J.sL (pc := 38) C ms_L_folded wm_RL_77 (fun l => c_L_folded l g S a0 a1) ⟨⟨Nat.zero_le _, Nat.zero_le _⟩, rfl, rfl⟩ rfl ⟨Nat.le_of_ble_eq_true rfl, Nat.le_of_ble_eq_true rfl⟩ rfl ct_n (Nat.le_of_ble_eq_true rfl) dL_forgets_38 (fun r2 => ?_)
    refine J.lstore_n (pc := 41) C (lv' := [(0, rv g a0), (1, .int a1), (2, .int r1), (3, .long r2)]) dL_forgets_41 rfl (Nat.le_of_ble_eq_true rfl) (lsf_r (lsf_i (lsf_i lsf_n))) rfl ?_
    refine J.aload_n (pc := 42) C (x := a0) dL_forgets_42 rfl rfl ?_
    refine J.iconst (pc := 43) C dL_forgets_43 ki_m1 ?_
    refine J.sL (pc := 44) C ms_L_folded wm_RL_77 (fun l => c_L_folded l g S a0 (-1)) ⟨⟨Nat.zero_le _, Nat.zero_le _⟩, rfl, rfl⟩ rfl ⟨Nat.le_of_ble_eq_true rfl, Nat.le_of_ble_eq_true rfl⟩ rfl ct_n (Nat.le_of_ble_eq_true rfl) dL_forgets_44 (fun r3 => ?_)
    refine J.lstore (pc := 47) C (lv' := [(0, rv g a0), (1, .int a1), (2, .int r1), (3, .long r2), (5, .long r3)]) dL_forgets_47 (Nat.le_of_ble_eq_true rfl) (lsf_r (lsf_i (lsf_i (lsf_l (by decide) lsf_n)))) rfl ?_
    refine J.aload_n (pc := 49) C (x := a0) dL_forgets_49 rfl rfl ?_
    refine J.iload_n (pc := 50) C dL_forgets_50 rfl rfl ?_
    refine J.vW (pc := 51) C mv_X7_forget wm_RL_73 (fun l => c_X7_forget l g S a0 a1) ⟨⟨Nat.zero_le _, Nat.zero_le _⟩, rfl, rfl⟩ rfl ⟨Nat.le_of_ble_eq_true rfl, Nat.le_of_ble_eq_true rfl⟩ rfl ct_n (Nat.le_of_ble_eq_true rfl) dL_forgets_51 (fun r4 S_5 => ?_)
    refine J.iload_n (pc := 54) C dL_forgets_54 rfl rfl ?_
    refine J.iconst (pc := 55) C dL_forgets_55 ki_1 ?_
    refine J.isub (pc := 56) C dL_forgets_56 ?_
    refine J.icmp_ne (pc := 57) C (tgt := 74) dL_forgets_57 rfl ?_ ?_
    · exact J.pick [0, 2, 4] rfl (w_L_forgets_J74 C _ _ _ _)
    · refine J.aload_n (pc := 60) C (x := a0) dL_forgets_60 rfl rfl ?_
      refine J.iconst (pc := 61) C dL_forgets_61 ki_m1 ?_
      refine J.sL (pc := 62) C ms_L_folded wm_RL_77 (fun l => c_L_folded l g S_5 a0 (-1)) ⟨⟨Nat.zero_le _, Nat.zero_le _⟩, rfl, rfl⟩ rfl ⟨Nat.le_of_ble_eq_true rfl, Nat.le_of_ble_eq_true rfl⟩ rfl ct_n (Nat.le_of_ble_eq_true rfl) dL_forgets_62 (fun r10 => ?_)
      refine J.lload_n (pc := 65) C dL_forgets_65 rfl rfl ?_
      refine J.lcmp (pc := 66) C dL_forgets_66 ?_
      refine J.if_ne (pc := 67) C (tgt := 74) dL_forgets_67 rfl ?_ ?_
      · exact J.pick [0, 2, 4] rfl (w_L_forgets_J74 C _ _ _ _)
      · refine J.iconst (pc := 70) C dL_forgets_70 ki_1 ?_
        refine J.goto (pc := 71) C (tgt := 75) dL_forgets_71 rfl ?_
        exact J.pick [0, 2, 4] rfl (w_L_forgets_J75 C _ _ _ _ _)
  · refine J.aload_n (pc := 11) C (x := a0) dL_forgets_11 rfl rfl ?_
    refine J.iload_n (pc := 12) C dL_forgets_12 rfl rfl ?_
    refine J.vW (pc := 13) C mv_X7_forget wm_RL_73 (fun l => c_X7_forget l g S a0 a1) ⟨⟨Nat.zero_le _, Nat.zero_le _⟩, rfl, rfl⟩ rfl ⟨Nat.le_of_ble_eq_true rfl, Nat.le_of_ble_eq_true rfl⟩ rfl ct_n (Nat.le_of_ble_eq_true rfl) dL_forgets_13 (fun r11 S_12 => ?_)
    refine J.ldc (pc := 16) C wc_RL_76 dL_forgets_16 ?_
    refine J.icmp_ne (pc := 18) C (tgt := 34) dL_forgets_18 rfl ?_ ?_
    · refine J.iconst (pc := 34) C dL_forgets_34 ki_0 ?_
      exact J.zret (pc := 35) C rfl rfl rfl ⟨Nat.le_refl _, Nat.le_refl _⟩ dL_forgets_35
    · refine J.aload_n (pc := 21) C (x := a0) dL_forgets_21 rfl rfl ?_
      refine J.iconst (pc := 22) C dL_forgets_22 ki_1 ?_
      refine J.vI (pc := 23) C mv_X7_count wm_RL_29 (fun l => c_X7_count l g S_12 a0 1) ⟨⟨Nat.zero_le _, Nat.zero_le _⟩, rfl, rfl⟩ rfl ⟨Nat.le_of_ble_eq_true rfl, Nat.le_of_ble_eq_true rfl⟩ rfl ct_n (Nat.le_of_ble_eq_true rfl) dL_forgets_23 (fun r13 => ?_)
      refine J.iload_n (pc := 26) C dL_forgets_26 rfl rfl ?_
      refine J.icmp_ne (pc := 27) C (tgt := 34) dL_forgets_27 rfl ?_ ?_
      · refine J.iconst (pc := 34) C dL_forgets_34 ki_0 ?_
        exact J.zret (pc := 35) C rfl rfl rfl ⟨Nat.le_refl _, Nat.le_refl _⟩ dL_forgets_35
      · refine J.iconst (pc := 30) C dL_forgets_30 ki_1 ?_
        refine J.goto (pc := 31) C (tgt := 35) dL_forgets_31 rfl ?_
        exact J.zret (pc := 35) C rfl rfl rfl ⟨Nat.le_refl _, Nat.le_refl _⟩ dL_forgets_35
abbrev rm_X7_edges : Room := { frames := 3, cells := 0, slots := 0, locals := 69 }
def f_X7_edges (S : St) (a0 : Nat) (a1 : Int32) (a2 : Int32) : Option Int32 :=
  (chk (okc S 7 a0)
  (chk (okc S 3 (S.2.1 a0 0)) (bnd (f_X3_frameAt S (S.2.1 a0 0) a1) fun r1 =>
  (if r1 = 0 then
  (some (-10000001))
  else (chk (okc S 7 a0) (bnd (f_X7_isPlace S a0 a2 0) fun r2 =>
  (if r2 = 0 then
  (some (-10000001))
  else (chk (okc S 0 r1)
  (bnd (f_X7_holds (S.1 r1 1) a2) fun r3 =>
  (if r3 = 0 then
  (chk (okc S 7 a0)
  (chk (okc S 3 (S.2.1 a0 0)) (bnd (f_X3_edgesIn S (S.2.1 a0 0) r1 a2) fun r4 =>
  (some r4))))
  else (some (-10000004))))))))))))
set_option maxRecDepth 100000 in
set_option maxHeartbeats 4000000 in
theorem c_X7_edges (l : Launch) (g : GG) (S : St) (a0 : Nat) (a1 : Int32) (a2 : Int32) : Ct l yX7_edges cX7_edges 4 (some .int) rm_X7_edges g aI (pK S) [rv g a0, .int a1, .int a2] S (f_X7_edges S a0 a1 a2) := by
  refine Ct.mk (cf := cw (0, 0)) (by decide +kernel) (cat_r (cat_i (cat_i cat_n))) (Nat.le_of_ble_eq_true rfl) rfl ?_
  intro X hXl hin C
  show J X g _ _ 0 [(0, rv g a0), (1, .int a1), (2, .int a2)] [] S (f_X7_edges S a0 a1 a2)
  unfold f_X7_edges
  refine J.aload_n (pc := 0) C (x := a0) dX7_edges_0 rfl rfl ?_
  refine J.getR (pc := 1) C fl_RX7_12 rfl dX7_edges_1 ?_
  refine J.iload_n (pc := 4) C dX7_edges_4 rfl rfl ?_
  refine J.vR (pc := 5) C mv_X3_frameAt wm_RX7_149 (fun l => c_X3_frameAt l g S (S.2.1 a0 0) a1) ⟨⟨Nat.zero_le _, Nat.zero_le _⟩, rfl, rfl⟩ rfl ⟨Nat.le_of_ble_eq_true rfl, Nat.le_of_ble_eq_true rfl⟩ rfl ct_n (Nat.le_of_ble_eq_true rfl) dX7_edges_5 (fun r1 => ?_)
  refine J.astore_n (pc := 8) C (lv' := [(0, rv g a0), (1, .int a1), (2, .int a2), (3, rv g r1)]) dX7_edges_8 rfl (Nat.le_of_ble_eq_true rfl) (lsf_r (lsf_i (lsf_i lsf_n))) rfl ?_
  refine J.aload_n (pc := 9) C (x := r1) dX7_edges_9 rfl rfl ?_
  refine J.ifnull (pc := 10) C (tgt := 22) dX7_edges_10 rfl ?_ ?_
  · refine J.ldc (pc := 22) C wc_RX7_60 dX7_edges_22 ?_
    exact J.iret (pc := 24) C rfl rfl ⟨Nat.le_refl _, Nat.le_refl _⟩ dX7_edges_24
  · refine J.aload_n (pc := 13) C (x := a0) dX7_edges_13 rfl rfl ?_
    refine J.iload_n (pc := 14) C dX7_edges_14 rfl rfl ?_
    refine J.iconst (pc := 15) C dX7_edges_15 ki_0 ?_
    refine J.vI (pc := 16) C mv_X7_isPlace wm_RX7_131 (fun l => c_X7_isPlace l g S a0 a2 0) ⟨⟨Nat.zero_le _, Nat.zero_le _⟩, rfl, rfl⟩ rfl ⟨Nat.le_of_ble_eq_true rfl, Nat.le_of_ble_eq_true rfl⟩ rfl ct_n (Nat.le_of_ble_eq_true rfl) dX7_edges_16 (fun r2 => ?_)
    refine J.if_ne (pc := 19) C (tgt := 25) dX7_edges_19 rfl ?_ ?_
    · refine J.aload_n (pc := 25) C (x := r1) dX7_edges_25 rfl rfl ?_
      refine J.getI (pc := 26) C fl_RX7_158 rfl dX7_edges_26 ?_
      refine J.iload_n (pc := 29) C dX7_edges_29 rfl rfl ?_
      refine J.sI (pc := 30) C ms_X7_holds wm_RX7_122 (fun l => c_X7_holds l g S (S.1 r1 1) a2) ⟨⟨Nat.zero_le _, Nat.zero_le _⟩, rfl, rfl⟩ rfl ⟨Nat.le_of_ble_eq_true rfl, Nat.le_of_ble_eq_true rfl⟩ rfl ct_n (Nat.le_of_ble_eq_true rfl) dX7_edges_30 (fun r3 => ?_)
      refine J.if_eq (pc := 33) C (tgt := 41) dX7_edges_33 rfl ?_ ?_
      · refine J.aload_n (pc := 41) C (x := a0) dX7_edges_41 rfl rfl ?_
        refine J.getR (pc := 42) C fl_RX7_12 rfl dX7_edges_42 ?_
        refine J.aload_n (pc := 45) C (x := r1) dX7_edges_45 rfl rfl ?_
        refine J.iload_n (pc := 46) C dX7_edges_46 rfl rfl ?_
        refine J.vI (pc := 47) C mv_X3_edgesIn wm_RX7_167 (fun l => c_X3_edgesIn l g S (S.2.1 a0 0) r1 a2) ⟨⟨Nat.zero_le _, Nat.zero_le _⟩, rfl, rfl⟩ rfl ⟨Nat.le_of_ble_eq_true rfl, Nat.le_of_ble_eq_true rfl⟩ rfl ct_n (Nat.le_of_ble_eq_true rfl) dX7_edges_47 (fun r4 => ?_)
        exact J.iret (pc := 50) C rfl rfl ⟨Nat.le_refl _, Nat.le_refl _⟩ dX7_edges_50
      · refine J.ldc (pc := 36) C wc_RX7_163 dX7_edges_36 ?_
        refine J.goto (pc := 38) C (tgt := 50) dX7_edges_38 rfl ?_
        exact J.iret (pc := 50) C rfl rfl ⟨Nat.le_refl _, Nat.le_refl _⟩ dX7_edges_50
    · refine J.ldc (pc := 22) C wc_RX7_60 dX7_edges_22 ?_
      exact J.iret (pc := 24) C rfl rfl ⟨Nat.le_refl _, Nat.le_refl _⟩ dX7_edges_24
abbrev rm_L_frameHolds : Room := { frames := 5, cells := 0, slots := 0, locals := 123 }
def f_L_frameHolds_B175 (S : St) (a0 : Nat) (a1 : Int32) (a2 : Int32) (a3 : Int32) (a4 : Int32) (a5 : Int32) (a6 : Int32) (a8 : Int32) (a9 : Int32) (kx175 : Int32 → Option (Int32 × St)) (k175 : Int32 → Int32 → Option (Int32 × St)) (x7 : Int32) (x10 : Int32) : Option (Int32 × St) :=
  (if a3 ≤ x10 then
  (kx175 x7)
  else (if x7 = 0 then
  (kx175 x7)
  else (chk (okc S 7 a0) (bnd (f_X7_pixel S a0 a1 a8 x10) fun r7 =>
  (chk (okc S 7 a0) (bnd (f_X7_pixel S a0 a1 a8 (x10 - 1)) fun r8 =>
  (bnd (f_L_has a9 x10) fun r9 =>
  (if a4 ≤ (r7 - r8) then
  (if r9 = 1 then
  (k175 1 (x10 + 1))
  else (k175 0 (x10 + 1)))
  else (if (-(r7 - r8)) < a4 then
  (if r9 = 0 then
  (k175 1 (x10 + 1))
  else (k175 0 (x10 + 1)))
  else (if r9 = 1 then
  (k175 1 (x10 + 1))
  else (k175 0 (x10 + 1))))))))))))
set_option maxRecDepth 100000 in
set_option maxHeartbeats 4000000 in
theorem w_L_frameHolds_B175 {X : CT} {g : GG} (C : CX X g cL_frameHolds RL (some .boolean) 12 rm_L_frameHolds) (S : St) (a0 : Nat) (a1 : Int32) (a2 : Int32) (a3 : Int32) (a4 : Int32) (a5 : Int32) (a6 : Int32) (a8 : Int32) (a9 : Int32) (kx175 : Int32 → Option (Int32 × St)) (hkx175 : ∀ (x7 : Int32), J X g (Qm X g aW pW) (cw (0, 0)) 252 [(0, rv g a0), (1, .int a1), (2, .int a2), (3, .int a3), (4, .int a4), (5, .int a5), (6, .int a6), (7, .int x7), (8, .int a8), (9, .int a9)] [] S (kx175 x7)) : ∀ (n : Nat) (x7 : Int32) (x10 : Int32), J X g (Qm X g aW pW) (cw (0, 0)) 175 [(0, rv g a0), (1, .int a1), (2, .int a2), (3, .int a3), (4, .int a4), (5, .int a5), (6, .int a6), (7, .int x7), (8, .int a8), (9, .int a9), (10, .int x10)] [] S (wl2 (f_L_frameHolds_B175 S a0 a1 a2 a3 a4 a5 a6 a8 a9 kx175) n x7 x10) := by
  refine J.loop2 (lvf := fun (x7 : Int32) (x10 : Int32) => [(0, rv g a0), (1, .int a1), (2, .int a2), (3, .int a3), (4, .int a4), (5, .int a5), (6, .int a6), (7, .int x7), (8, .int a8), (9, .int a9), (10, .int x10)]) (Sf := fun (x7 : Int32) (x10 : Int32) => S) ?_
  intro k175 hk175 x7 x10
  show J X g _ _ 175 [(0, rv g a0), (1, .int a1), (2, .int a2), (3, .int a3), (4, .int a4), (5, .int a5), (6, .int a6), (7, .int x7), (8, .int a8), (9, .int a9), (10, .int x10)] [] S (f_L_frameHolds_B175 S a0 a1 a2 a3 a4 a5 a6 a8 a9 kx175 k175 x7 x10)
  unfold f_L_frameHolds_B175
  refine J.iload (pc := 175) C dL_frameHolds_175 rfl ?_
  refine J.iload_n (pc := 177) C dL_frameHolds_177 rfl rfl ?_
  refine J.icmp_ge (pc := 178) C (tgt := 252) dL_frameHolds_178 rfl ?_ ?_
  · exact J.pick [0, 1, 2, 3, 4, 5, 6, 7, 8, 9] rfl (hkx175 _)
  · refine J.iload (pc := 181) C dL_frameHolds_181 rfl ?_
    refine J.if_eq (pc := 183) C (tgt := 252) dL_frameHolds_183 rfl ?_ ?_
    · exact J.pick [0, 1, 2, 3, 4, 5, 6, 7, 8, 9] rfl (hkx175 _)
    · refine J.aload_n (pc := 186) C (x := a0) dL_frameHolds_186 rfl rfl ?_
      refine J.iload_n (pc := 187) C dL_frameHolds_187 rfl rfl ?_
      refine J.iload (pc := 188) C dL_frameHolds_188 rfl ?_
      refine J.iload (pc := 190) C dL_frameHolds_190 rfl ?_
      refine J.vI (pc := 192) C mv_X7_pixel wm_RL_44 (fun l => c_X7_pixel l g S a0 a1 a8 x10) ⟨⟨Nat.zero_le _, Nat.zero_le _⟩, rfl, rfl⟩ rfl ⟨Nat.le_of_ble_eq_true rfl, Nat.le_of_ble_eq_true rfl⟩ rfl ct_n (Nat.le_of_ble_eq_true rfl) dL_frameHolds_192 (fun r7 => ?_)
      refine J.aload_n (pc := 195) C (x := a0) dL_frameHolds_195 rfl rfl ?_
      refine J.iload_n (pc := 196) C dL_frameHolds_196 rfl rfl ?_
      refine J.iload (pc := 197) C dL_frameHolds_197 rfl ?_
      refine J.iload (pc := 199) C dL_frameHolds_199 rfl ?_
      refine J.iconst (pc := 201) C dL_frameHolds_201 ki_1 ?_
      refine J.isub (pc := 202) C dL_frameHolds_202 ?_
      refine J.vI (pc := 203) C mv_X7_pixel wm_RL_44 (fun l => c_X7_pixel l g S a0 a1 a8 (x10 - 1)) ⟨⟨Nat.zero_le _, Nat.zero_le _⟩, rfl, rfl⟩ rfl ⟨Nat.le_of_ble_eq_true rfl, Nat.le_of_ble_eq_true rfl⟩ rfl (ct_i ct_n) (Nat.le_of_ble_eq_true rfl) dL_frameHolds_203 (fun r8 => ?_)
      refine J.isub (pc := 206) C dL_frameHolds_206 ?_
      refine J.istore (pc := 207) C (lv' := [(0, rv g a0), (1, .int a1), (2, .int a2), (3, .int a3), (4, .int a4), (5, .int a5), (6, .int a6), (7, .int x7), (8, .int a8), (9, .int a9), (10, .int x10), (11, .int (r7 - r8))]) dL_frameHolds_207 (Nat.le_of_ble_eq_true rfl) (lsf_r (lsf_i (lsf_i (lsf_i (lsf_i (lsf_i (lsf_i (lsf_i (lsf_i (lsf_i (lsf_i lsf_n))))))))))) rfl ?_
      refine J.iload (pc := 209) C dL_frameHolds_209 rfl ?_
      refine J.iload (pc := 211) C dL_frameHolds_211 rfl ?_
      refine J.sI (pc := 213) C ms_L_has wm_RL_39 (fun l => c_L_has l g S a9 x10) ⟨⟨Nat.zero_le _, Nat.zero_le _⟩, rfl, rfl⟩ rfl ⟨Nat.le_of_ble_eq_true rfl, Nat.le_of_ble_eq_true rfl⟩ rfl ct_n (Nat.le_of_ble_eq_true rfl) dL_frameHolds_213 (fun r9 => ?_)
      refine J.iload (pc := 216) C dL_frameHolds_216 rfl ?_
      refine J.iload (pc := 218) C dL_frameHolds_218 rfl ?_
      refine J.icmp_ge (pc := 220) C (tgt := 231) dL_frameHolds_220 rfl ?_ ?_
      · refine J.iconst (pc := 231) C dL_frameHolds_231 ki_1 ?_
        refine J.goto (pc := 232) C (tgt := 236) dL_frameHolds_232 rfl ?_
        refine J.icmp_ne (pc := 236) C (tgt := 243) dL_frameHolds_236 rfl ?_ ?_
        · refine J.iconst (pc := 243) C dL_frameHolds_243 ki_0 ?_
          refine J.istore (pc := 244) C (lv' := [(0, rv g a0), (1, .int a1), (2, .int a2), (3, .int a3), (4, .int a4), (5, .int a5), (6, .int a6), (7, .int 0), (8, .int a8), (9, .int a9), (10, .int x10), (11, .int (r7 - r8))]) dL_frameHolds_244 (Nat.le_of_ble_eq_true rfl) (lsf_r (lsf_i (lsf_i (lsf_i (lsf_i (lsf_i (lsf_i (lsf_i (lsf_i (lsf_i (lsf_i (lsf_i lsf_n)))))))))))) rfl ?_
          refine J.iinc (pc := 246) C (lv' := [(0, rv g a0), (1, .int a1), (2, .int a2), (3, .int a3), (4, .int a4), (5, .int a5), (6, .int a6), (7, .int 0), (8, .int a8), (9, .int a9), (10, .int (x10 + 1)), (11, .int (r7 - r8))]) dL_frameHolds_246 rfl (Nat.le_of_ble_eq_true rfl) (lsf_r (lsf_i (lsf_i (lsf_i (lsf_i (lsf_i (lsf_i (lsf_i (lsf_i (lsf_i (lsf_i (lsf_i lsf_n)))))))))))) ki_1 rfl ?_
          refine J.goto (pc := 249) C (tgt := 175) dL_frameHolds_249 rfl ?_
          exact J.pick [0, 1, 2, 3, 4, 5, 6, 7, 8, 9, 10] rfl (hk175 _ _)
        · refine J.iconst (pc := 239) C dL_frameHolds_239 ki_1 ?_
          refine J.goto (pc := 240) C (tgt := 244) dL_frameHolds_240 rfl ?_
          refine J.istore (pc := 244) C (lv' := [(0, rv g a0), (1, .int a1), (2, .int a2), (3, .int a3), (4, .int a4), (5, .int a5), (6, .int a6), (7, .int 1), (8, .int a8), (9, .int a9), (10, .int x10), (11, .int (r7 - r8))]) dL_frameHolds_244 (Nat.le_of_ble_eq_true rfl) (lsf_r (lsf_i (lsf_i (lsf_i (lsf_i (lsf_i (lsf_i (lsf_i (lsf_i (lsf_i (lsf_i (lsf_i lsf_n)))))))))))) rfl ?_
          refine J.iinc (pc := 246) C (lv' := [(0, rv g a0), (1, .int a1), (2, .int a2), (3, .int a3), (4, .int a4), (5, .int a5), (6, .int a6), (7, .int 1), (8, .int a8), (9, .int a9), (10, .int (x10 + 1)), (11, .int (r7 - r8))]) dL_frameHolds_246 rfl (Nat.le_of_ble_eq_true rfl) (lsf_r (lsf_i (lsf_i (lsf_i (lsf_i (lsf_i (lsf_i (lsf_i (lsf_i (lsf_i (lsf_i (lsf_i lsf_n)))))))))))) ki_1 rfl ?_
          refine J.goto (pc := 249) C (tgt := 175) dL_frameHolds_249 rfl ?_
          exact J.pick [0, 1, 2, 3, 4, 5, 6, 7, 8, 9, 10] rfl (hk175 _ _)
      · refine J.iload (pc := 223) C dL_frameHolds_223 rfl ?_
        refine J.ineg (pc := 225) C dL_frameHolds_225 ?_
        refine J.iload (pc := 226) C dL_frameHolds_226 rfl ?_
        refine J.icmp_lt (pc := 228) C (tgt := 235) dL_frameHolds_228 rfl ?_ ?_
        · refine J.iconst (pc := 235) C dL_frameHolds_235 ki_0 ?_
          refine J.icmp_ne (pc := 236) C (tgt := 243) dL_frameHolds_236 rfl ?_ ?_
          · refine J.iconst (pc := 243) C dL_frameHolds_243 ki_0 ?_
            refine J.istore (pc := 244) C (lv' := [(0, rv g a0), (1, .int a1), (2, .int a2), (3, .int a3), (4, .int a4), (5, .int a5), (6, .int a6), (7, .int 0), (8, .int a8), (9, .int a9), (10, .int x10), (11, .int (r7 - r8))]) dL_frameHolds_244 (Nat.le_of_ble_eq_true rfl) (lsf_r (lsf_i (lsf_i (lsf_i (lsf_i (lsf_i (lsf_i (lsf_i (lsf_i (lsf_i (lsf_i (lsf_i lsf_n)))))))))))) rfl ?_
            refine J.iinc (pc := 246) C (lv' := [(0, rv g a0), (1, .int a1), (2, .int a2), (3, .int a3), (4, .int a4), (5, .int a5), (6, .int a6), (7, .int 0), (8, .int a8), (9, .int a9), (10, .int (x10 + 1)), (11, .int (r7 - r8))]) dL_frameHolds_246 rfl (Nat.le_of_ble_eq_true rfl) (lsf_r (lsf_i (lsf_i (lsf_i (lsf_i (lsf_i (lsf_i (lsf_i (lsf_i (lsf_i (lsf_i (lsf_i lsf_n)))))))))))) ki_1 rfl ?_
            refine J.goto (pc := 249) C (tgt := 175) dL_frameHolds_249 rfl ?_
            exact J.pick [0, 1, 2, 3, 4, 5, 6, 7, 8, 9, 10] rfl (hk175 _ _)
          · refine J.iconst (pc := 239) C dL_frameHolds_239 ki_1 ?_
            refine J.goto (pc := 240) C (tgt := 244) dL_frameHolds_240 rfl ?_
            refine J.istore (pc := 244) C (lv' := [(0, rv g a0), (1, .int a1), (2, .int a2), (3, .int a3), (4, .int a4), (5, .int a5), (6, .int a6), (7, .int 1), (8, .int a8), (9, .int a9), (10, .int x10), (11, .int (r7 - r8))]) dL_frameHolds_244 (Nat.le_of_ble_eq_true rfl) (lsf_r (lsf_i (lsf_i (lsf_i (lsf_i (lsf_i (lsf_i (lsf_i (lsf_i (lsf_i (lsf_i (lsf_i lsf_n)))))))))))) rfl ?_
            refine J.iinc (pc := 246) C (lv' := [(0, rv g a0), (1, .int a1), (2, .int a2), (3, .int a3), (4, .int a4), (5, .int a5), (6, .int a6), (7, .int 1), (8, .int a8), (9, .int a9), (10, .int (x10 + 1)), (11, .int (r7 - r8))]) dL_frameHolds_246 rfl (Nat.le_of_ble_eq_true rfl) (lsf_r (lsf_i (lsf_i (lsf_i (lsf_i (lsf_i (lsf_i (lsf_i (lsf_i (lsf_i (lsf_i (lsf_i lsf_n)))))))))))) ki_1 rfl ?_
            refine J.goto (pc := 249) C (tgt := 175) dL_frameHolds_249 rfl ?_
            exact J.pick [0, 1, 2, 3, 4, 5, 6, 7, 8, 9, 10] rfl (hk175 _ _)
        · refine J.iconst (pc := 231) C dL_frameHolds_231 ki_1 ?_
          refine J.goto (pc := 232) C (tgt := 236) dL_frameHolds_232 rfl ?_
          refine J.icmp_ne (pc := 236) C (tgt := 243) dL_frameHolds_236 rfl ?_ ?_
          · refine J.iconst (pc := 243) C dL_frameHolds_243 ki_0 ?_
            refine J.istore (pc := 244) C (lv' := [(0, rv g a0), (1, .int a1), (2, .int a2), (3, .int a3), (4, .int a4), (5, .int a5), (6, .int a6), (7, .int 0), (8, .int a8), (9, .int a9), (10, .int x10), (11, .int (r7 - r8))]) dL_frameHolds_244 (Nat.le_of_ble_eq_true rfl) (lsf_r (lsf_i (lsf_i (lsf_i (lsf_i (lsf_i (lsf_i (lsf_i (lsf_i (lsf_i (lsf_i (lsf_i lsf_n)))))))))))) rfl ?_
            refine J.iinc (pc := 246) C (lv' := [(0, rv g a0), (1, .int a1), (2, .int a2), (3, .int a3), (4, .int a4), (5, .int a5), (6, .int a6), (7, .int 0), (8, .int a8), (9, .int a9), (10, .int (x10 + 1)), (11, .int (r7 - r8))]) dL_frameHolds_246 rfl (Nat.le_of_ble_eq_true rfl) (lsf_r (lsf_i (lsf_i (lsf_i (lsf_i (lsf_i (lsf_i (lsf_i (lsf_i (lsf_i (lsf_i (lsf_i lsf_n)))))))))))) ki_1 rfl ?_
            refine J.goto (pc := 249) C (tgt := 175) dL_frameHolds_249 rfl ?_
            exact J.pick [0, 1, 2, 3, 4, 5, 6, 7, 8, 9, 10] rfl (hk175 _ _)
          · refine J.iconst (pc := 239) C dL_frameHolds_239 ki_1 ?_
            refine J.goto (pc := 240) C (tgt := 244) dL_frameHolds_240 rfl ?_
            refine J.istore (pc := 244) C (lv' := [(0, rv g a0), (1, .int a1), (2, .int a2), (3, .int a3), (4, .int a4), (5, .int a5), (6, .int a6), (7, .int 1), (8, .int a8), (9, .int a9), (10, .int x10), (11, .int (r7 - r8))]) dL_frameHolds_244 (Nat.le_of_ble_eq_true rfl) (lsf_r (lsf_i (lsf_i (lsf_i (lsf_i (lsf_i (lsf_i (lsf_i (lsf_i (lsf_i (lsf_i (lsf_i lsf_n)))))))))))) rfl ?_
            refine J.iinc (pc := 246) C (lv' := [(0, rv g a0), (1, .int a1), (2, .int a2), (3, .int a3), (4, .int a4), (5, .int a5), (6, .int a6), (7, .int 1), (8, .int a8), (9, .int a9), (10, .int (x10 + 1)), (11, .int (r7 - r8))]) dL_frameHolds_246 rfl (Nat.le_of_ble_eq_true rfl) (lsf_r (lsf_i (lsf_i (lsf_i (lsf_i (lsf_i (lsf_i (lsf_i (lsf_i (lsf_i (lsf_i (lsf_i lsf_n)))))))))))) ki_1 rfl ?_
            refine J.goto (pc := 249) C (tgt := 175) dL_frameHolds_249 rfl ?_
            exact J.pick [0, 1, 2, 3, 4, 5, 6, 7, 8, 9, 10] rfl (hk175 _ _)
def f_L_frameHolds_J252 (S : St) (a0 : Nat) (a1 : Int32) (a2 : Int32) (a3 : Int32) (a4 : Int32) (a5 : Int32) (kx70 : Int32 → Int32 → Option (Int32 × St)) (k70 : Int32 → Int32 → Int32 → Option (Int32 × St)) (x6 : Int32) (x7 : Int32) (x8 : Int32) (x9 : Int32) : Option (Int32 × St) :=
  (bnd (f_L_bits x9) fun r11 =>
  (k70 (x6 + r11) x7 (x8 + 1)))
set_option maxRecDepth 100000 in
set_option maxHeartbeats 4000000 in
theorem w_L_frameHolds_J252 {X : CT} {g : GG} (C : CX X g cL_frameHolds RL (some .boolean) 12 rm_L_frameHolds) (S : St) (a0 : Nat) (a1 : Int32) (a2 : Int32) (a3 : Int32) (a4 : Int32) (a5 : Int32) (kx70 : Int32 → Int32 → Option (Int32 × St)) (k70 : Int32 → Int32 → Int32 → Option (Int32 × St)) (x6 : Int32) (x7 : Int32) (x8 : Int32) (x9 : Int32) (hkx70 : ∀ (x6 : Int32) (x7 : Int32), J X g (Qm X g aW pW) (cw (0, 0)) 268 [(0, rv g a0), (1, .int a1), (5, .int a5), (6, .int x6), (7, .int x7)] [] S (kx70 x6 x7)) (hk70 : ∀ (x6 : Int32) (x7 : Int32) (x8 : Int32), J X g (Qm X g aW pW) (cw (0, 0)) 70 [(0, rv g a0), (1, .int a1), (2, .int a2), (3, .int a3), (4, .int a4), (5, .int a5), (6, .int x6), (7, .int x7), (8, .int x8)] [] S (k70 x6 x7 x8)) : J X g (Qm X g aW pW) (cw (0, 0)) 252 [(0, rv g a0), (1, .int a1), (2, .int a2), (3, .int a3), (4, .int a4), (5, .int a5), (6, .int x6), (7, .int x7), (8, .int x8), (9, .int x9)] [] S (f_L_frameHolds_J252 S a0 a1 a2 a3 a4 a5 kx70 k70 x6 x7 x8 x9) := by
  unfold f_L_frameHolds_J252
  refine J.iload (pc := 252) C dL_frameHolds_252 rfl ?_
  refine J.iload (pc := 254) C dL_frameHolds_254 rfl ?_
  refine J.sI (pc := 256) C ms_L_bits wm_RL_48 (fun l => c_L_bits l g S x9) ⟨⟨Nat.zero_le _, Nat.zero_le _⟩, rfl, rfl⟩ rfl ⟨Nat.le_of_ble_eq_true rfl, Nat.le_of_ble_eq_true rfl⟩ rfl (ct_i ct_n) (Nat.le_of_ble_eq_true rfl) dL_frameHolds_256 (fun r11 => ?_)
  refine J.iadd (pc := 259) C dL_frameHolds_259 ?_
  refine J.istore (pc := 260) C (lv' := [(0, rv g a0), (1, .int a1), (2, .int a2), (3, .int a3), (4, .int a4), (5, .int a5), (6, .int (x6 + r11)), (7, .int x7), (8, .int x8), (9, .int x9)]) dL_frameHolds_260 (Nat.le_of_ble_eq_true rfl) (lsf_r (lsf_i (lsf_i (lsf_i (lsf_i (lsf_i (lsf_i (lsf_i (lsf_i (lsf_i lsf_n)))))))))) rfl ?_
  refine J.iinc (pc := 262) C (lv' := [(0, rv g a0), (1, .int a1), (2, .int a2), (3, .int a3), (4, .int a4), (5, .int a5), (6, .int (x6 + r11)), (7, .int x7), (8, .int (x8 + 1)), (9, .int x9)]) dL_frameHolds_262 rfl (Nat.le_of_ble_eq_true rfl) (lsf_r (lsf_i (lsf_i (lsf_i (lsf_i (lsf_i (lsf_i (lsf_i (lsf_i (lsf_i lsf_n)))))))))) ki_1 rfl ?_
  refine J.goto (pc := 265) C (tgt := 70) dL_frameHolds_265 rfl ?_
  exact J.pick [0, 1, 2, 3, 4, 5, 6, 7, 8] rfl (hk70 _ _ _)
def f_L_frameHolds_J170 (S : St) (a0 : Nat) (a1 : Int32) (a2 : Int32) (a3 : Int32) (a4 : Int32) (a5 : Int32) (kx70 : Int32 → Int32 → Option (Int32 × St)) (k70 : Int32 → Int32 → Int32 → Option (Int32 × St)) (x6 : Int32) (x8 : Int32) (x9 : Int32) (t0 : Int32) : Option (Int32 × St) :=
  (wl2 (f_L_frameHolds_B175 S a0 a1 a2 a3 a4 a5 x6 x8 x9 (fun (y7_10 : Int32) => (f_L_frameHolds_J252 S a0 a1 a2 a3 a4 a5 kx70 k70 x6 y7_10 x8 x9))) FU t0 1)
set_option maxRecDepth 100000 in
set_option maxHeartbeats 4000000 in
theorem w_L_frameHolds_J170 {X : CT} {g : GG} (C : CX X g cL_frameHolds RL (some .boolean) 12 rm_L_frameHolds) (S : St) (a0 : Nat) (a1 : Int32) (a2 : Int32) (a3 : Int32) (a4 : Int32) (a5 : Int32) (kx70 : Int32 → Int32 → Option (Int32 × St)) (k70 : Int32 → Int32 → Int32 → Option (Int32 × St)) (x6 : Int32) (x8 : Int32) (x9 : Int32) (t0 : Int32) (hkx70 : ∀ (x6 : Int32) (x7 : Int32), J X g (Qm X g aW pW) (cw (0, 0)) 268 [(0, rv g a0), (1, .int a1), (5, .int a5), (6, .int x6), (7, .int x7)] [] S (kx70 x6 x7)) (hk70 : ∀ (x6 : Int32) (x7 : Int32) (x8 : Int32), J X g (Qm X g aW pW) (cw (0, 0)) 70 [(0, rv g a0), (1, .int a1), (2, .int a2), (3, .int a3), (4, .int a4), (5, .int a5), (6, .int x6), (7, .int x7), (8, .int x8)] [] S (k70 x6 x7 x8)) : J X g (Qm X g aW pW) (cw (0, 0)) 170 [(0, rv g a0), (1, .int a1), (2, .int a2), (3, .int a3), (4, .int a4), (5, .int a5), (6, .int x6), (8, .int x8), (9, .int x9)] [.int t0] S (f_L_frameHolds_J170 S a0 a1 a2 a3 a4 a5 kx70 k70 x6 x8 x9 t0) := by
  unfold f_L_frameHolds_J170
  refine J.istore (pc := 170) C (lv' := [(0, rv g a0), (1, .int a1), (2, .int a2), (3, .int a3), (4, .int a4), (5, .int a5), (6, .int x6), (7, .int t0), (8, .int x8), (9, .int x9)]) dL_frameHolds_170 (Nat.le_of_ble_eq_true rfl) (lsf_r (lsf_i (lsf_i (lsf_i (lsf_i (lsf_i (lsf_i (lsf_i (lsf_i lsf_n))))))))) rfl ?_
  refine J.iconst (pc := 172) C dL_frameHolds_172 ki_1 ?_
  refine J.istore (pc := 173) C (lv' := [(0, rv g a0), (1, .int a1), (2, .int a2), (3, .int a3), (4, .int a4), (5, .int a5), (6, .int x6), (7, .int t0), (8, .int x8), (9, .int x9), (10, .int 1)]) dL_frameHolds_173 (Nat.le_of_ble_eq_true rfl) (lsf_r (lsf_i (lsf_i (lsf_i (lsf_i (lsf_i (lsf_i (lsf_i (lsf_i (lsf_i lsf_n)))))))))) rfl ?_
  refine w_L_frameHolds_B175 C _ _ _ _ _ _ _ _ _ _ _ (fun y7_10 => ?_) FU _ _
  exact (w_L_frameHolds_J252 C _ _ _ _ _ _ _ _ _ _ _ _ _ hkx70 hk70)
def f_L_frameHolds_J169 (S : St) (a0 : Nat) (a1 : Int32) (a2 : Int32) (a3 : Int32) (a4 : Int32) (a5 : Int32) (kx70 : Int32 → Int32 → Option (Int32 × St)) (k70 : Int32 → Int32 → Int32 → Option (Int32 × St)) (x6 : Int32) (x8 : Int32) (x9 : Int32) : Option (Int32 × St) :=
  (f_L_frameHolds_J170 S a0 a1 a2 a3 a4 a5 kx70 k70 x6 x8 x9 0)
set_option maxRecDepth 100000 in
set_option maxHeartbeats 4000000 in
theorem w_L_frameHolds_J169 {X : CT} {g : GG} (C : CX X g cL_frameHolds RL (some .boolean) 12 rm_L_frameHolds) (S : St) (a0 : Nat) (a1 : Int32) (a2 : Int32) (a3 : Int32) (a4 : Int32) (a5 : Int32) (kx70 : Int32 → Int32 → Option (Int32 × St)) (k70 : Int32 → Int32 → Int32 → Option (Int32 × St)) (x6 : Int32) (x8 : Int32) (x9 : Int32) (hkx70 : ∀ (x6 : Int32) (x7 : Int32), J X g (Qm X g aW pW) (cw (0, 0)) 268 [(0, rv g a0), (1, .int a1), (5, .int a5), (6, .int x6), (7, .int x7)] [] S (kx70 x6 x7)) (hk70 : ∀ (x6 : Int32) (x7 : Int32) (x8 : Int32), J X g (Qm X g aW pW) (cw (0, 0)) 70 [(0, rv g a0), (1, .int a1), (2, .int a2), (3, .int a3), (4, .int a4), (5, .int a5), (6, .int x6), (7, .int x7), (8, .int x8)] [] S (k70 x6 x7 x8)) : J X g (Qm X g aW pW) (cw (0, 0)) 169 [(0, rv g a0), (1, .int a1), (2, .int a2), (3, .int a3), (4, .int a4), (5, .int a5), (6, .int x6), (8, .int x8), (9, .int x9)] [] S (f_L_frameHolds_J169 S a0 a1 a2 a3 a4 a5 kx70 k70 x6 x8 x9) := by
  unfold f_L_frameHolds_J169
  refine J.iconst (pc := 169) C dL_frameHolds_169 ki_0 ?_
  exact (w_L_frameHolds_J170 C _ _ _ _ _ _ _ _ _ _ _ _ _ hkx70 hk70)
def f_L_frameHolds_B70 (S : St) (a0 : Nat) (a1 : Int32) (a2 : Int32) (a3 : Int32) (a4 : Int32) (a5 : Int32) (kx70 : Int32 → Int32 → Option (Int32 × St)) (k70 : Int32 → Int32 → Int32 → Option (Int32 × St)) (x6 : Int32) (x7 : Int32) (x8 : Int32) : Option (Int32 × St) :=
  (if a2 ≤ x8 then
  (kx70 x6 x7)
  else (if x7 = 0 then
  (kx70 x6 x7)
  else (chk (okc S 7 a0) (bnd (f_X7_edges S a0 a1 x8) fun r5 =>
  (bnd (f_L_has a5 x8) fun r6 =>
  (if r6 = 0 then
  (if r5 < 0 then
  (f_L_frameHolds_J169 S a0 a1 a2 a3 a4 a5 kx70 k70 x6 x8 r5)
  else (if (1 <<< (a3 &&& 31)) ≤ r5 then
  (f_L_frameHolds_J169 S a0 a1 a2 a3 a4 a5 kx70 k70 x6 x8 r5)
  else (if (r5 &&& 1) = 0 then
  (f_L_frameHolds_J170 S a0 a1 a2 a3 a4 a5 kx70 k70 x6 x8 r5 1)
  else (f_L_frameHolds_J169 S a0 a1 a2 a3 a4 a5 kx70 k70 x6 x8 r5))))
  else (if r5 = (-10000004) then
  (chk (okc S 7 a0) (bnd (f_X7_pixel S a0 a1 x8 0) fun r12 =>
  (if r12 = (-10000004) then
  (chk (okc S 7 a0) (bnd (f_X7_pixel S a0 a1 x8 (a3 - 1)) fun r13 =>
  (if r13 = (-10000004) then
  (k70 x6 1 (x8 + 1))
  else (k70 x6 0 (x8 + 1)))))
  else (k70 x6 0 (x8 + 1)))))
  else (k70 x6 0 (x8 + 1)))))))))
set_option maxRecDepth 100000 in
set_option maxHeartbeats 4000000 in
theorem w_L_frameHolds_B70 {X : CT} {g : GG} (C : CX X g cL_frameHolds RL (some .boolean) 12 rm_L_frameHolds) (S : St) (a0 : Nat) (a1 : Int32) (a2 : Int32) (a3 : Int32) (a4 : Int32) (a5 : Int32) (kx70 : Int32 → Int32 → Option (Int32 × St)) (hkx70 : ∀ (x6 : Int32) (x7 : Int32), J X g (Qm X g aW pW) (cw (0, 0)) 268 [(0, rv g a0), (1, .int a1), (5, .int a5), (6, .int x6), (7, .int x7)] [] S (kx70 x6 x7)) : ∀ (n : Nat) (x6 : Int32) (x7 : Int32) (x8 : Int32), J X g (Qm X g aW pW) (cw (0, 0)) 70 [(0, rv g a0), (1, .int a1), (2, .int a2), (3, .int a3), (4, .int a4), (5, .int a5), (6, .int x6), (7, .int x7), (8, .int x8)] [] S (wl3 (f_L_frameHolds_B70 S a0 a1 a2 a3 a4 a5 kx70) n x6 x7 x8) := by
  refine J.loop3 (lvf := fun (x6 : Int32) (x7 : Int32) (x8 : Int32) => [(0, rv g a0), (1, .int a1), (2, .int a2), (3, .int a3), (4, .int a4), (5, .int a5), (6, .int x6), (7, .int x7), (8, .int x8)]) (Sf := fun (x6 : Int32) (x7 : Int32) (x8 : Int32) => S) ?_
  intro k70 hk70 x6 x7 x8
  show J X g _ _ 70 [(0, rv g a0), (1, .int a1), (2, .int a2), (3, .int a3), (4, .int a4), (5, .int a5), (6, .int x6), (7, .int x7), (8, .int x8)] [] S (f_L_frameHolds_B70 S a0 a1 a2 a3 a4 a5 kx70 k70 x6 x7 x8)
  unfold f_L_frameHolds_B70
  refine J.iload (pc := 70) C dL_frameHolds_70 rfl ?_
  refine J.iload_n (pc := 72) C dL_frameHolds_72 rfl rfl ?_
  refine J.icmp_ge (pc := 73) C (tgt := 268) dL_frameHolds_73 rfl ?_ ?_
  · exact J.pick [0, 1, 5, 6, 7] rfl (hkx70 _ _)
  · refine J.iload (pc := 76) C dL_frameHolds_76 rfl ?_
    refine J.if_eq (pc := 78) C (tgt := 268) dL_frameHolds_78 rfl ?_ ?_
    · exact J.pick [0, 1, 5, 6, 7] rfl (hkx70 _ _)
    · refine J.aload_n (pc := 81) C (x := a0) dL_frameHolds_81 rfl rfl ?_
      refine J.iload_n (pc := 82) C dL_frameHolds_82 rfl rfl ?_
      refine J.iload (pc := 83) C dL_frameHolds_83 rfl ?_
      refine J.vI (pc := 85) C mv_X7_edges wm_RL_36 (fun l => c_X7_edges l g S a0 a1 x8) ⟨⟨Nat.zero_le _, Nat.zero_le _⟩, rfl, rfl⟩ rfl ⟨Nat.le_of_ble_eq_true rfl, Nat.le_of_ble_eq_true rfl⟩ rfl ct_n (Nat.le_of_ble_eq_true rfl) dL_frameHolds_85 (fun r5 => ?_)
      refine J.istore (pc := 88) C (lv' := [(0, rv g a0), (1, .int a1), (2, .int a2), (3, .int a3), (4, .int a4), (5, .int a5), (6, .int x6), (7, .int x7), (8, .int x8), (9, .int r5)]) dL_frameHolds_88 (Nat.le_of_ble_eq_true rfl) (lsf_r (lsf_i (lsf_i (lsf_i (lsf_i (lsf_i (lsf_i (lsf_i (lsf_i lsf_n))))))))) rfl ?_
      refine J.iload (pc := 90) C dL_frameHolds_90 rfl ?_
      refine J.iload (pc := 92) C dL_frameHolds_92 rfl ?_
      refine J.sI (pc := 94) C ms_L_has wm_RL_39 (fun l => c_L_has l g S a5 x8) ⟨⟨Nat.zero_le _, Nat.zero_le _⟩, rfl, rfl⟩ rfl ⟨Nat.le_of_ble_eq_true rfl, Nat.le_of_ble_eq_true rfl⟩ rfl ct_n (Nat.le_of_ble_eq_true rfl) dL_frameHolds_94 (fun r6 => ?_)
      refine J.if_eq (pc := 97) C (tgt := 145) dL_frameHolds_97 rfl ?_ ?_
      · refine J.iload (pc := 145) C dL_frameHolds_145 rfl ?_
        refine J.if_lt (pc := 147) C (tgt := 169) dL_frameHolds_147 rfl ?_ ?_
        · exact J.pick [0, 1, 2, 3, 4, 5, 6, 8, 9] rfl (w_L_frameHolds_J169 C _ _ _ _ _ _ _ _ _ _ _ _ hkx70 hk70)
        · refine J.iload (pc := 150) C dL_frameHolds_150 rfl ?_
          refine J.iconst (pc := 152) C dL_frameHolds_152 ki_1 ?_
          refine J.iload_n (pc := 153) C dL_frameHolds_153 rfl rfl ?_
          refine J.ishl (pc := 154) C dL_frameHolds_154 ?_
          refine J.icmp_ge (pc := 155) C (tgt := 169) dL_frameHolds_155 rfl ?_ ?_
          · exact J.pick [0, 1, 2, 3, 4, 5, 6, 8, 9] rfl (w_L_frameHolds_J169 C _ _ _ _ _ _ _ _ _ _ _ _ hkx70 hk70)
          · refine J.iload (pc := 158) C dL_frameHolds_158 rfl ?_
            refine J.iconst (pc := 160) C dL_frameHolds_160 ki_1 ?_
            refine J.iand (pc := 161) C dL_frameHolds_161 ?_
            refine J.if_ne (pc := 162) C (tgt := 169) dL_frameHolds_162 rfl ?_ ?_
            · exact J.pick [0, 1, 2, 3, 4, 5, 6, 8, 9] rfl (w_L_frameHolds_J169 C _ _ _ _ _ _ _ _ _ _ _ _ hkx70 hk70)
            · refine J.iconst (pc := 165) C dL_frameHolds_165 ki_1 ?_
              refine J.goto (pc := 166) C (tgt := 170) dL_frameHolds_166 rfl ?_
              exact J.pick [0, 1, 2, 3, 4, 5, 6, 8, 9] rfl (w_L_frameHolds_J170 C _ _ _ _ _ _ _ _ _ _ _ _ _ hkx70 hk70)
      · refine J.iload (pc := 100) C dL_frameHolds_100 rfl ?_
        refine J.ldc (pc := 102) C wc_RL_43 dL_frameHolds_102 ?_
        refine J.icmp_ne (pc := 104) C (tgt := 139) dL_frameHolds_104 rfl ?_ ?_
        · refine J.iconst (pc := 139) C dL_frameHolds_139 ki_0 ?_
          refine J.istore (pc := 140) C (lv' := [(0, rv g a0), (1, .int a1), (2, .int a2), (3, .int a3), (4, .int a4), (5, .int a5), (6, .int x6), (7, .int 0), (8, .int x8), (9, .int r5)]) dL_frameHolds_140 (Nat.le_of_ble_eq_true rfl) (lsf_r (lsf_i (lsf_i (lsf_i (lsf_i (lsf_i (lsf_i (lsf_i (lsf_i (lsf_i lsf_n)))))))))) rfl ?_
          refine J.goto (pc := 142) C (tgt := 262) dL_frameHolds_142 rfl ?_
          refine J.iinc (pc := 262) C (lv' := [(0, rv g a0), (1, .int a1), (2, .int a2), (3, .int a3), (4, .int a4), (5, .int a5), (6, .int x6), (7, .int 0), (8, .int (x8 + 1)), (9, .int r5)]) dL_frameHolds_262 rfl (Nat.le_of_ble_eq_true rfl) (lsf_r (lsf_i (lsf_i (lsf_i (lsf_i (lsf_i (lsf_i (lsf_i (lsf_i (lsf_i lsf_n)))))))))) ki_1 rfl ?_
          refine J.goto (pc := 265) C (tgt := 70) dL_frameHolds_265 rfl ?_
          exact J.pick [0, 1, 2, 3, 4, 5, 6, 7, 8] rfl (hk70 _ _ _)
        · refine J.aload_n (pc := 107) C (x := a0) dL_frameHolds_107 rfl rfl ?_
          refine J.iload_n (pc := 108) C dL_frameHolds_108 rfl rfl ?_
          refine J.iload (pc := 109) C dL_frameHolds_109 rfl ?_
          refine J.iconst (pc := 111) C dL_frameHolds_111 ki_0 ?_
          refine J.vI (pc := 112) C mv_X7_pixel wm_RL_44 (fun l => c_X7_pixel l g S a0 a1 x8 0) ⟨⟨Nat.zero_le _, Nat.zero_le _⟩, rfl, rfl⟩ rfl ⟨Nat.le_of_ble_eq_true rfl, Nat.le_of_ble_eq_true rfl⟩ rfl ct_n (Nat.le_of_ble_eq_true rfl) dL_frameHolds_112 (fun r12 => ?_)
          refine J.ldc (pc := 115) C wc_RL_43 dL_frameHolds_115 ?_
          refine J.icmp_ne (pc := 117) C (tgt := 139) dL_frameHolds_117 rfl ?_ ?_
          · refine J.iconst (pc := 139) C dL_frameHolds_139 ki_0 ?_
            refine J.istore (pc := 140) C (lv' := [(0, rv g a0), (1, .int a1), (2, .int a2), (3, .int a3), (4, .int a4), (5, .int a5), (6, .int x6), (7, .int 0), (8, .int x8), (9, .int r5)]) dL_frameHolds_140 (Nat.le_of_ble_eq_true rfl) (lsf_r (lsf_i (lsf_i (lsf_i (lsf_i (lsf_i (lsf_i (lsf_i (lsf_i (lsf_i lsf_n)))))))))) rfl ?_
            refine J.goto (pc := 142) C (tgt := 262) dL_frameHolds_142 rfl ?_
            refine J.iinc (pc := 262) C (lv' := [(0, rv g a0), (1, .int a1), (2, .int a2), (3, .int a3), (4, .int a4), (5, .int a5), (6, .int x6), (7, .int 0), (8, .int (x8 + 1)), (9, .int r5)]) dL_frameHolds_262 rfl (Nat.le_of_ble_eq_true rfl) (lsf_r (lsf_i (lsf_i (lsf_i (lsf_i (lsf_i (lsf_i (lsf_i (lsf_i (lsf_i lsf_n)))))))))) ki_1 rfl ?_
            refine J.goto (pc := 265) C (tgt := 70) dL_frameHolds_265 rfl ?_
            exact J.pick [0, 1, 2, 3, 4, 5, 6, 7, 8] rfl (hk70 _ _ _)
          · refine J.aload_n (pc := 120) C (x := a0) dL_frameHolds_120 rfl rfl ?_
            refine J.iload_n (pc := 121) C dL_frameHolds_121 rfl rfl ?_
            refine J.iload (pc := 122) C dL_frameHolds_122 rfl ?_
            refine J.iload_n (pc := 124) C dL_frameHolds_124 rfl rfl ?_
            refine J.iconst (pc := 125) C dL_frameHolds_125 ki_1 ?_
            refine J.isub (pc := 126) C dL_frameHolds_126 ?_
            refine J.vI (pc := 127) C mv_X7_pixel wm_RL_44 (fun l => c_X7_pixel l g S a0 a1 x8 (a3 - 1)) ⟨⟨Nat.zero_le _, Nat.zero_le _⟩, rfl, rfl⟩ rfl ⟨Nat.le_of_ble_eq_true rfl, Nat.le_of_ble_eq_true rfl⟩ rfl ct_n (Nat.le_of_ble_eq_true rfl) dL_frameHolds_127 (fun r13 => ?_)
            refine J.ldc (pc := 130) C wc_RL_43 dL_frameHolds_130 ?_
            refine J.icmp_ne (pc := 132) C (tgt := 139) dL_frameHolds_132 rfl ?_ ?_
            · refine J.iconst (pc := 139) C dL_frameHolds_139 ki_0 ?_
              refine J.istore (pc := 140) C (lv' := [(0, rv g a0), (1, .int a1), (2, .int a2), (3, .int a3), (4, .int a4), (5, .int a5), (6, .int x6), (7, .int 0), (8, .int x8), (9, .int r5)]) dL_frameHolds_140 (Nat.le_of_ble_eq_true rfl) (lsf_r (lsf_i (lsf_i (lsf_i (lsf_i (lsf_i (lsf_i (lsf_i (lsf_i (lsf_i lsf_n)))))))))) rfl ?_
              refine J.goto (pc := 142) C (tgt := 262) dL_frameHolds_142 rfl ?_
              refine J.iinc (pc := 262) C (lv' := [(0, rv g a0), (1, .int a1), (2, .int a2), (3, .int a3), (4, .int a4), (5, .int a5), (6, .int x6), (7, .int 0), (8, .int (x8 + 1)), (9, .int r5)]) dL_frameHolds_262 rfl (Nat.le_of_ble_eq_true rfl) (lsf_r (lsf_i (lsf_i (lsf_i (lsf_i (lsf_i (lsf_i (lsf_i (lsf_i (lsf_i lsf_n)))))))))) ki_1 rfl ?_
              refine J.goto (pc := 265) C (tgt := 70) dL_frameHolds_265 rfl ?_
              exact J.pick [0, 1, 2, 3, 4, 5, 6, 7, 8] rfl (hk70 _ _ _)
            · refine J.iconst (pc := 135) C dL_frameHolds_135 ki_1 ?_
              refine J.goto (pc := 136) C (tgt := 140) dL_frameHolds_136 rfl ?_
              refine J.istore (pc := 140) C (lv' := [(0, rv g a0), (1, .int a1), (2, .int a2), (3, .int a3), (4, .int a4), (5, .int a5), (6, .int x6), (7, .int 1), (8, .int x8), (9, .int r5)]) dL_frameHolds_140 (Nat.le_of_ble_eq_true rfl) (lsf_r (lsf_i (lsf_i (lsf_i (lsf_i (lsf_i (lsf_i (lsf_i (lsf_i (lsf_i lsf_n)))))))))) rfl ?_
              refine J.goto (pc := 142) C (tgt := 262) dL_frameHolds_142 rfl ?_
              refine J.iinc (pc := 262) C (lv' := [(0, rv g a0), (1, .int a1), (2, .int a2), (3, .int a3), (4, .int a4), (5, .int a5), (6, .int x6), (7, .int 1), (8, .int (x8 + 1)), (9, .int r5)]) dL_frameHolds_262 rfl (Nat.le_of_ble_eq_true rfl) (lsf_r (lsf_i (lsf_i (lsf_i (lsf_i (lsf_i (lsf_i (lsf_i (lsf_i (lsf_i lsf_n)))))))))) ki_1 rfl ?_
              refine J.goto (pc := 265) C (tgt := 70) dL_frameHolds_265 rfl ?_
              exact J.pick [0, 1, 2, 3, 4, 5, 6, 7, 8] rfl (hk70 _ _ _)
def f_L_frameHolds_J268 (S : St) (x0 : Nat) (x1 : Int32) (x5 : Int32) (x6 : Int32) (x7 : Int32) : Option (Int32 × St) :=
  (if x7 = 0 then
  (some (0, S))
  else (chk (okc S 7 x0) (bnd (f_X7_frameOf S x0 x1 2) fun r16 =>
  (if r16 = x6 then
  (chk (okc S 7 x0) (bnd2 (f_X7_fitting S x0 x1) fun r17 S_18 =>
  (if (r17 &&& x5) = 0 then
  (some (1, S_18))
  else (some (0, S_18)))))
  else (some (0, S))))))
set_option maxRecDepth 100000 in
set_option maxHeartbeats 4000000 in
theorem w_L_frameHolds_J268 {X : CT} {g : GG} (C : CX X g cL_frameHolds RL (some .boolean) 12 rm_L_frameHolds) (S : St) (x0 : Nat) (x1 : Int32) (x5 : Int32) (x6 : Int32) (x7 : Int32) : J X g (Qm X g aW pW) (cw (0, 0)) 268 [(0, rv g x0), (1, .int x1), (5, .int x5), (6, .int x6), (7, .int x7)] [] S (f_L_frameHolds_J268 S x0 x1 x5 x6 x7) := by
  unfold f_L_frameHolds_J268
  refine J.iload (pc := 268) C dL_frameHolds_268 rfl ?_
  refine J.if_eq (pc := 270) C (tgt := 299) dL_frameHolds_270 rfl ?_ ?_
  · refine J.iconst (pc := 299) C dL_frameHolds_299 ki_0 ?_
    exact J.zret (pc := 300) C rfl rfl rfl ⟨Nat.le_refl _, Nat.le_refl _⟩ dL_frameHolds_300
  · refine J.aload_n (pc := 273) C (x := x0) dL_frameHolds_273 rfl rfl ?_
    refine J.iload_n (pc := 274) C dL_frameHolds_274 rfl rfl ?_
    refine J.iconst (pc := 275) C dL_frameHolds_275 ki_2 ?_
    refine J.vI (pc := 276) C mv_X7_frameOf wm_RL_33 (fun l => c_X7_frameOf l g S x0 x1 2) ⟨⟨Nat.zero_le _, Nat.zero_le _⟩, rfl, rfl⟩ rfl ⟨Nat.le_of_ble_eq_true rfl, Nat.le_of_ble_eq_true rfl⟩ rfl ct_n (Nat.le_of_ble_eq_true rfl) dL_frameHolds_276 (fun r16 => ?_)
    refine J.iload (pc := 279) C dL_frameHolds_279 rfl ?_
    refine J.icmp_ne (pc := 281) C (tgt := 299) dL_frameHolds_281 rfl ?_ ?_
    · refine J.iconst (pc := 299) C dL_frameHolds_299 ki_0 ?_
      exact J.zret (pc := 300) C rfl rfl rfl ⟨Nat.le_refl _, Nat.le_refl _⟩ dL_frameHolds_300
    · refine J.aload_n (pc := 284) C (x := x0) dL_frameHolds_284 rfl rfl ?_
      refine J.iload_n (pc := 285) C dL_frameHolds_285 rfl rfl ?_
      refine J.vW (pc := 286) C mv_X7_fitting wm_RL_51 (fun l => c_X7_fitting l g S x0 x1) ⟨⟨Nat.zero_le _, Nat.zero_le _⟩, rfl, rfl⟩ rfl ⟨Nat.le_of_ble_eq_true rfl, Nat.le_of_ble_eq_true rfl⟩ rfl ct_n (Nat.le_of_ble_eq_true rfl) dL_frameHolds_286 (fun r17 S_18 => ?_)
      refine J.iload (pc := 289) C dL_frameHolds_289 rfl ?_
      refine J.iand (pc := 291) C dL_frameHolds_291 ?_
      refine J.if_ne (pc := 292) C (tgt := 299) dL_frameHolds_292 rfl ?_ ?_
      · refine J.iconst (pc := 299) C dL_frameHolds_299 ki_0 ?_
        exact J.zret (pc := 300) C rfl rfl rfl ⟨Nat.le_refl _, Nat.le_refl _⟩ dL_frameHolds_300
      · refine J.iconst (pc := 295) C dL_frameHolds_295 ki_1 ?_
        refine J.goto (pc := 296) C (tgt := 300) dL_frameHolds_296 rfl ?_
        exact J.zret (pc := 300) C rfl rfl rfl ⟨Nat.le_refl _, Nat.le_refl _⟩ dL_frameHolds_300
def f_L_frameHolds_J65 (S : St) (x0 : Nat) (x1 : Int32) (x2 : Int32) (x3 : Int32) (x4 : Int32) (x5 : Int32) (x6 : Int32) (t0 : Int32) : Option (Int32 × St) :=
  (wl3 (f_L_frameHolds_B70 S x0 x1 x2 x3 x4 x5 (fun (y6_14 : Int32) (y7_15 : Int32) => (f_L_frameHolds_J268 S x0 x1 x5 y6_14 y7_15))) FU x6 t0 0)
set_option maxRecDepth 100000 in
set_option maxHeartbeats 4000000 in
theorem w_L_frameHolds_J65 {X : CT} {g : GG} (C : CX X g cL_frameHolds RL (some .boolean) 12 rm_L_frameHolds) (S : St) (x0 : Nat) (x1 : Int32) (x2 : Int32) (x3 : Int32) (x4 : Int32) (x5 : Int32) (x6 : Int32) (t0 : Int32) : J X g (Qm X g aW pW) (cw (0, 0)) 65 [(0, rv g x0), (1, .int x1), (2, .int x2), (3, .int x3), (4, .int x4), (5, .int x5), (6, .int x6)] [.int t0] S (f_L_frameHolds_J65 S x0 x1 x2 x3 x4 x5 x6 t0) := by
  unfold f_L_frameHolds_J65
  refine J.istore (pc := 65) C (lv' := [(0, rv g x0), (1, .int x1), (2, .int x2), (3, .int x3), (4, .int x4), (5, .int x5), (6, .int x6), (7, .int t0)]) dL_frameHolds_65 (Nat.le_of_ble_eq_true rfl) (lsf_r (lsf_i (lsf_i (lsf_i (lsf_i (lsf_i (lsf_i lsf_n))))))) rfl ?_
  refine J.iconst (pc := 67) C dL_frameHolds_67 ki_0 ?_
  refine J.istore (pc := 68) C (lv' := [(0, rv g x0), (1, .int x1), (2, .int x2), (3, .int x3), (4, .int x4), (5, .int x5), (6, .int x6), (7, .int t0), (8, .int 0)]) dL_frameHolds_68 (Nat.le_of_ble_eq_true rfl) (lsf_r (lsf_i (lsf_i (lsf_i (lsf_i (lsf_i (lsf_i (lsf_i lsf_n)))))))) rfl ?_
  refine w_L_frameHolds_B70 C _ _ _ _ _ _ _ _ (fun y6_14 y7_15 => ?_) FU _ _ _
  exact (w_L_frameHolds_J268 C _ _ _ _ _ _)
def f_L_frameHolds_J64 (S : St) (x0 : Nat) (x1 : Int32) (x2 : Int32) (x3 : Int32) (x4 : Int32) (x5 : Int32) (x6 : Int32) : Option (Int32 × St) :=
  (f_L_frameHolds_J65 S x0 x1 x2 x3 x4 x5 x6 0)
set_option maxRecDepth 100000 in
set_option maxHeartbeats 4000000 in
theorem w_L_frameHolds_J64 {X : CT} {g : GG} (C : CX X g cL_frameHolds RL (some .boolean) 12 rm_L_frameHolds) (S : St) (x0 : Nat) (x1 : Int32) (x2 : Int32) (x3 : Int32) (x4 : Int32) (x5 : Int32) (x6 : Int32) : J X g (Qm X g aW pW) (cw (0, 0)) 64 [(0, rv g x0), (1, .int x1), (2, .int x2), (3, .int x3), (4, .int x4), (5, .int x5), (6, .int x6)] [] S (f_L_frameHolds_J64 S x0 x1 x2 x3 x4 x5 x6) := by
  unfold f_L_frameHolds_J64
  refine J.iconst (pc := 64) C dL_frameHolds_64 ki_0 ?_
  exact (w_L_frameHolds_J65 C _ _ _ _ _ _ _ _ _)
def f_L_frameHolds (S : St) (a0 : Nat) (a1 : Int32) : Option (Int32 × St) :=
  (chk (okc S 7 a0) (bnd (f_X7_count S a0 10) fun r1 =>
  (chk (okc S 7 a0) (bnd (f_X7_count S a0 11) fun r2 =>
  (chk (okc S 7 a0) (bnd (f_X7_count S a0 13) fun r3 =>
  (chk (okc S 7 a0) (bnd (f_X7_frameOf S a0 a1 1) fun r4 =>
  (if r4 < 0 then
  (f_L_frameHolds_J64 S a0 a1 r1 r2 r3 r4 0)
  else (if (1 <<< (r1 &&& 31)) ≤ r4 then
  (f_L_frameHolds_J64 S a0 a1 r1 r2 r3 r4 0)
  else (chk (okc S 7 a0) (bnd (f_X7_frameOf S a0 a1 0) fun r19 =>
  (chk (okc S 7 a0) (bnd (f_X7_count S a0 2) fun r20 =>
  (if r20 < r19 then
  (f_L_frameHolds_J64 S a0 a1 r1 r2 r3 r4 0)
  else (f_L_frameHolds_J65 S a0 a1 r1 r2 r3 r4 0 1))))))))))))))))
set_option maxRecDepth 100000 in
set_option maxHeartbeats 4000000 in
theorem c_L_frameHolds (l : Launch) (g : GG) (S : St) (a0 : Nat) (a1 : Int32) : Ct l yL_frameHolds cL_frameHolds 12 (some .boolean) rm_L_frameHolds g aW pW [rv g a0, .int a1] S (f_L_frameHolds S a0 a1) := by
  refine Ct.mk (cf := cw (0, 0)) (by decide +kernel) (cat_r (cat_i cat_n)) (Nat.le_of_ble_eq_true rfl) rfl ?_
  intro X hXl hin C
  show J X g _ _ 0 [(0, rv g a0), (1, .int a1)] [] S (f_L_frameHolds S a0 a1)
  unfold f_L_frameHolds
  refine J.aload_n (pc := 0) C (x := a0) dL_frameHolds_0 rfl rfl ?_
  refine J.bipush (pc := 1) C dL_frameHolds_1 kb_10 ?_
  refine J.vI (pc := 3) C mv_X7_count wm_RL_29 (fun l => c_X7_count l g S a0 10) ⟨⟨Nat.zero_le _, Nat.zero_le _⟩, rfl, rfl⟩ rfl ⟨Nat.le_of_ble_eq_true rfl, Nat.le_of_ble_eq_true rfl⟩ rfl ct_n (Nat.le_of_ble_eq_true rfl) dL_frameHolds_3 (fun r1 => ?_)
  refine J.istore_n (pc := 6) C (lv' := [(0, rv g a0), (1, .int a1), (2, .int r1)]) dL_frameHolds_6 rfl (Nat.le_of_ble_eq_true rfl) (lsf_r (lsf_i lsf_n)) rfl ?_
  refine J.aload_n (pc := 7) C (x := a0) dL_frameHolds_7 rfl rfl ?_
  refine J.bipush (pc := 8) C dL_frameHolds_8 kb_11 ?_
  refine J.vI (pc := 10) C mv_X7_count wm_RL_29 (fun l => c_X7_count l g S a0 11) ⟨⟨Nat.zero_le _, Nat.zero_le _⟩, rfl, rfl⟩ rfl ⟨Nat.le_of_ble_eq_true rfl, Nat.le_of_ble_eq_true rfl⟩ rfl ct_n (Nat.le_of_ble_eq_true rfl) dL_frameHolds_10 (fun r2 => ?_)
  refine J.istore_n (pc := 13) C (lv' := [(0, rv g a0), (1, .int a1), (2, .int r1), (3, .int r2)]) dL_frameHolds_13 rfl (Nat.le_of_ble_eq_true rfl) (lsf_r (lsf_i (lsf_i lsf_n))) rfl ?_
  refine J.aload_n (pc := 14) C (x := a0) dL_frameHolds_14 rfl rfl ?_
  refine J.bipush (pc := 15) C dL_frameHolds_15 kb_13 ?_
  refine J.vI (pc := 17) C mv_X7_count wm_RL_29 (fun l => c_X7_count l g S a0 13) ⟨⟨Nat.zero_le _, Nat.zero_le _⟩, rfl, rfl⟩ rfl ⟨Nat.le_of_ble_eq_true rfl, Nat.le_of_ble_eq_true rfl⟩ rfl ct_n (Nat.le_of_ble_eq_true rfl) dL_frameHolds_17 (fun r3 => ?_)
  refine J.istore (pc := 20) C (lv' := [(0, rv g a0), (1, .int a1), (2, .int r1), (3, .int r2), (4, .int r3)]) dL_frameHolds_20 (Nat.le_of_ble_eq_true rfl) (lsf_r (lsf_i (lsf_i (lsf_i lsf_n)))) rfl ?_
  refine J.aload_n (pc := 22) C (x := a0) dL_frameHolds_22 rfl rfl ?_
  refine J.iload_n (pc := 23) C dL_frameHolds_23 rfl rfl ?_
  refine J.iconst (pc := 24) C dL_frameHolds_24 ki_1 ?_
  refine J.vI (pc := 25) C mv_X7_frameOf wm_RL_33 (fun l => c_X7_frameOf l g S a0 a1 1) ⟨⟨Nat.zero_le _, Nat.zero_le _⟩, rfl, rfl⟩ rfl ⟨Nat.le_of_ble_eq_true rfl, Nat.le_of_ble_eq_true rfl⟩ rfl ct_n (Nat.le_of_ble_eq_true rfl) dL_frameHolds_25 (fun r4 => ?_)
  refine J.istore (pc := 28) C (lv' := [(0, rv g a0), (1, .int a1), (2, .int r1), (3, .int r2), (4, .int r3), (5, .int r4)]) dL_frameHolds_28 (Nat.le_of_ble_eq_true rfl) (lsf_r (lsf_i (lsf_i (lsf_i (lsf_i lsf_n))))) rfl ?_
  refine J.iconst (pc := 30) C dL_frameHolds_30 ki_0 ?_
  refine J.istore (pc := 31) C (lv' := [(0, rv g a0), (1, .int a1), (2, .int r1), (3, .int r2), (4, .int r3), (5, .int r4), (6, .int 0)]) dL_frameHolds_31 (Nat.le_of_ble_eq_true rfl) (lsf_r (lsf_i (lsf_i (lsf_i (lsf_i (lsf_i lsf_n)))))) rfl ?_
  refine J.iload (pc := 33) C dL_frameHolds_33 rfl ?_
  refine J.if_lt (pc := 35) C (tgt := 64) dL_frameHolds_35 rfl ?_ ?_
  · exact (w_L_frameHolds_J64 C _ _ _ _ _ _ _ _)
  · refine J.iload (pc := 38) C dL_frameHolds_38 rfl ?_
    refine J.iconst (pc := 40) C dL_frameHolds_40 ki_1 ?_
    refine J.iload_n (pc := 41) C dL_frameHolds_41 rfl rfl ?_
    refine J.ishl (pc := 42) C dL_frameHolds_42 ?_
    refine J.icmp_ge (pc := 43) C (tgt := 64) dL_frameHolds_43 rfl ?_ ?_
    · exact (w_L_frameHolds_J64 C _ _ _ _ _ _ _ _)
    · refine J.aload_n (pc := 46) C (x := a0) dL_frameHolds_46 rfl rfl ?_
      refine J.iload_n (pc := 47) C dL_frameHolds_47 rfl rfl ?_
      refine J.iconst (pc := 48) C dL_frameHolds_48 ki_0 ?_
      refine J.vI (pc := 49) C mv_X7_frameOf wm_RL_33 (fun l => c_X7_frameOf l g S a0 a1 0) ⟨⟨Nat.zero_le _, Nat.zero_le _⟩, rfl, rfl⟩ rfl ⟨Nat.le_of_ble_eq_true rfl, Nat.le_of_ble_eq_true rfl⟩ rfl ct_n (Nat.le_of_ble_eq_true rfl) dL_frameHolds_49 (fun r19 => ?_)
      refine J.aload_n (pc := 52) C (x := a0) dL_frameHolds_52 rfl rfl ?_
      refine J.iconst (pc := 53) C dL_frameHolds_53 ki_2 ?_
      refine J.vI (pc := 54) C mv_X7_count wm_RL_29 (fun l => c_X7_count l g S a0 2) ⟨⟨Nat.zero_le _, Nat.zero_le _⟩, rfl, rfl⟩ rfl ⟨Nat.le_of_ble_eq_true rfl, Nat.le_of_ble_eq_true rfl⟩ rfl (ct_i ct_n) (Nat.le_of_ble_eq_true rfl) dL_frameHolds_54 (fun r20 => ?_)
      refine J.icmp_gt (pc := 57) C (tgt := 64) dL_frameHolds_57 rfl ?_ ?_
      · exact (w_L_frameHolds_J64 C _ _ _ _ _ _ _ _)
      · refine J.iconst (pc := 60) C dL_frameHolds_60 ki_1 ?_
        refine J.goto (pc := 61) C (tgt := 65) dL_frameHolds_61 rfl ?_
        exact (w_L_frameHolds_J65 C _ _ _ _ _ _ _ _ _)
