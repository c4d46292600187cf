abbrev rm_X0_keepRow : Room := { frames := 1, cells := 0, slots := 0, locals := 21 }
def f_X0_keepRow_B9 (a0 : Nat) (a2 : Nat) (a3 : Int32) (a4 : Int32) (kx9 : St → Option St) (k9 : St → Int32 → Option St) (S : St) (x5 : Int32) : Option St :=
  (chk (okc S 10 a2)
  (if (Int32.ofNat (ln a2)) ≤ x5 then
  (kx9 S)
  else (if (a4 + x5) < 0 then
  (k9 S (x5 + 1))
  else (chk (okc S 0 a0)
  (chk (okc S 10 (S.2.1 a0 2))
  (if (Int32.ofNat (ln (S.2.1 a0 2))) ≤ (a4 + x5) then
  (k9 S (x5 + 1))
  else (chk (okc S 0 a0)
  (chk (ina S 10 a2 x5)
  (bnd (f_X7_dimmed (S.1 a2 x5.toNatClampNeg) a3) fun r1 =>
  (chk (inw S 10 (S.2.1 a0 2) (a4 + x5)) (vlt (upI S (S.2.1 a0 2) (a4 + x5).toNatClampNeg r1) fun S_2 =>
  (k9 S_2 (x5 + 1)))))))))))))
set_option maxRecDepth 100000 in
set_option maxHeartbeats 4000000 in
theorem w_X0_keepRow_B9 {X : CT} {g : GG} (C : CX X g cX0_keepRow RX0 none 7 rm_X0_keepRow) (a0 : Nat) (a2 : Nat) (a3 : Int32) (a4 : Int32) (kx9 : St → Option St) (hkx9 : ∀ (S : St), J X g (Qm X g aU pU) (cw (0, 0)) 59 [] [] S (kx9 S)) : ∀ (n : Nat) (S : St) (x5 : Int32), J X g (Qm X g aU pU) (cw (0, 0)) 9 [(0, rv g a0), (2, rv g a2), (3, .int a3), (4, .int a4), (5, .int x5)] [] S (wl2 (f_X0_keepRow_B9 a0 a2 a3 a4 kx9) n S x5) := by
  refine J.loop2 (lvf := fun (S : St) (x5 : Int32) => [(0, rv g a0), (2, rv g a2), (3, .int a3), (4, .int a4), (5, .int x5)]) (Sf := fun (S : St) (x5 : Int32) => S) ?_
  intro k9 hk9 S x5
  show J X g _ _ 9 [(0, rv g a0), (2, rv g a2), (3, .int a3), (4, .int a4), (5, .int x5)] [] S (f_X0_keepRow_B9 a0 a2 a3 a4 kx9 k9 S x5)
  unfold f_X0_keepRow_B9
  refine J.iload (pc := 9) C dX0_keepRow_9 rfl ?_
  refine J.aload_n (pc := 11) C (x := a2) dX0_keepRow_11 rfl rfl ?_
  refine J.alen (pc := 12) C 10 (by decide) dX0_keepRow_12 ?_
  refine J.icmp_ge (pc := 13) C (tgt := 59) dX0_keepRow_13 rfl ?_ ?_
  · exact J.pick [] rfl (hkx9 _)
  · refine J.iload (pc := 16) C dX0_keepRow_16 rfl ?_
    refine J.iload (pc := 18) C dX0_keepRow_18 rfl ?_
    refine J.iadd (pc := 20) C dX0_keepRow_20 ?_
    refine J.istore (pc := 21) C (lv' := [(0, rv g a0), (2, rv g a2), (3, .int a3), (4, .int a4), (5, .int x5), (6, .int (a4 + x5))]) dX0_keepRow_21 (Nat.le_of_ble_eq_true rfl) (lsf_r (lsf_r (lsf_i (lsf_i (lsf_i lsf_n))))) rfl ?_
    refine J.iload (pc := 23) C dX0_keepRow_23 rfl ?_
    refine J.if_lt (pc := 25) C (tgt := 53) dX0_keepRow_25 rfl ?_ ?_
    · refine J.iinc (pc := 53) C (lv' := [(0, rv g a0), (2, rv g a2), (3, .int a3), (4, .int a4), (5, .int (x5 + 1)), (6, .int (a4 + x5))]) dX0_keepRow_53 rfl (Nat.le_of_ble_eq_true rfl) (lsf_r (lsf_r (lsf_i (lsf_i (lsf_i (lsf_i lsf_n)))))) ki_1 rfl ?_
      refine J.goto (pc := 56) C (tgt := 9) dX0_keepRow_56 rfl ?_
      exact J.pick [0, 1, 2, 3, 4] rfl (hk9 _ _)
    · refine J.iload (pc := 28) C dX0_keepRow_28 rfl ?_
      refine J.aload_n (pc := 30) C (x := a0) dX0_keepRow_30 rfl rfl ?_
      refine J.getR (pc := 31) C fl_RX0_9 rfl dX0_keepRow_31 ?_
      refine J.alen (pc := 34) C 10 (by decide) dX0_keepRow_34 ?_
      refine J.icmp_ge (pc := 35) C (tgt := 53) dX0_keepRow_35 rfl ?_ ?_
      · refine J.iinc (pc := 53) C (lv' := [(0, rv g a0), (2, rv g a2), (3, .int a3), (4, .int a4), (5, .int (x5 + 1)), (6, .int (a4 + x5))]) dX0_keepRow_53 rfl (Nat.le_of_ble_eq_true rfl) (lsf_r (lsf_r (lsf_i (lsf_i (lsf_i (lsf_i lsf_n)))))) ki_1 rfl ?_
        refine J.goto (pc := 56) C (tgt := 9) dX0_keepRow_56 rfl ?_
        exact J.pick [0, 1, 2, 3, 4] rfl (hk9 _ _)
      · refine J.aload_n (pc := 38) C (x := a0) dX0_keepRow_38 rfl rfl ?_
        refine J.getR (pc := 39) C fl_RX0_9 rfl dX0_keepRow_39 ?_
        refine J.iload (pc := 42) C dX0_keepRow_42 rfl ?_
        refine J.aload_n (pc := 44) C (x := a2) dX0_keepRow_44 rfl rfl ?_
        refine J.iload (pc := 45) C dX0_keepRow_45 rfl ?_
        refine J.iald (pc := 47) C dX0_keepRow_47 ?_
        refine J.iload_n (pc := 48) C dX0_keepRow_48 rfl rfl ?_
        refine J.snI (pc := 49) C ms_X7_dimmed wn_RX0_26 (fun l => c_X7_dimmed l g S (S.1 a2 x5.toNatClampNeg) a3) ⟨⟨Nat.zero_le _, Nat.zero_le _⟩, rfl, rfl⟩ rfl ⟨Nat.le_of_ble_eq_true rfl, Nat.le_of_ble_eq_true rfl⟩ rfl (ct_i (ct_r ct_n)) (Nat.le_of_ble_eq_true rfl) dX0_keepRow_49 (fun r1 => ?_)
        refine J.iasts (pc := 52) C dX0_keepRow_52 (fun S_2 => ?_)
        refine J.iinc (pc := 53) C (lv' := [(0, rv g a0), (2, rv g a2), (3, .int a3), (4, .int a4), (5, .int (x5 + 1)), (6, .int (a4 + x5))]) dX0_keepRow_53 rfl (Nat.le_of_ble_eq_true rfl) (lsf_r (lsf_r (lsf_i (lsf_i (lsf_i (lsf_i lsf_n)))))) ki_1 rfl ?_
        refine J.goto (pc := 56) C (tgt := 9) dX0_keepRow_56 rfl ?_
        exact J.pick [0, 1, 2, 3, 4] rfl (hk9 _ _)
def f_X0_keepRow (S : St) (a0 : Nat) (a1 : Int32) (a2 : Nat) (a3 : Int32) : Option St :=
  (wl2 (f_X0_keepRow_B9 a0 a2 a3 (a1 * 16) (fun (S_3 : St) => (some S_3))) FU S 0)
set_option maxRecDepth 100000 in
set_option maxHeartbeats 4000000 in
theorem c_X0_keepRow (l : Launch) (g : GG) (S : St) (a0 : Nat) (a1 : Int32) (a2 : Nat) (a3 : Int32) : Ct l yX0_keepRow cX0_keepRow 7 none rm_X0_keepRow g aU pU [rv g a0, .int a1, rv g a2, .int a3] S (f_X0_keepRow S a0 a1 a2 a3) := by
  refine Ct.mk (cf := cw (0, 0)) (by decide +kernel) (cat_r (cat_i (cat_r (cat_i cat_n)))) (Nat.le_of_ble_eq_true rfl) rfl ?_
  intro X hXl hin C
  show J X g _ _ 0 [(0, rv g a0), (1, .int a1), (2, rv g a2), (3, .int a3)] [] S (f_X0_keepRow S a0 a1 a2 a3)
  unfold f_X0_keepRow
  refine J.iload_n (pc := 0) C dX0_keepRow_0 rfl rfl ?_
  refine J.bipush (pc := 1) C dX0_keepRow_1 kb_16 ?_
  refine J.imul (pc := 3) C dX0_keepRow_3 ?_
  refine J.istore (pc := 4) C (lv' := [(0, rv g a0), (1, .int a1), (2, rv g a2), (3, .int a3), (4, .int (a1 * 16))]) dX0_keepRow_4 (Nat.le_of_ble_eq_true rfl) (lsf_r (lsf_i (lsf_r (lsf_i lsf_n)))) rfl ?_
  refine J.iconst (pc := 6) C dX0_keepRow_6 ki_0 ?_
  refine J.istore (pc := 7) C (lv' := [(0, rv g a0), (1, .int a1), (2, rv g a2), (3, .int a3), (4, .int (a1 * 16)), (5, .int 0)]) dX0_keepRow_7 (Nat.le_of_ble_eq_true rfl) (lsf_r (lsf_i (lsf_r (lsf_i (lsf_i lsf_n))))) rfl ?_
  refine J.pick [0, 2, 3, 4, 5] rfl ?_
  refine w_X0_keepRow_B9 C _ _ _ _ _ (fun S_3 => ?_) FU _ _
  exact J.vret (pc := 59) C rfl rfl ⟨Nat.le_refl _, Nat.le_refl _⟩ dX0_keepRow_59
abbrev rm_X3_photograph : Room := { frames := 3, cells := 0, slots := 0, locals := 74 }
def f_X3_photograph_B30 (a0 : Nat) (a1 : Nat) (a3 : Nat) (a4 : Int32) (kx30 : St → Option St) (k30 : St → Int32 → Option St) (S : St) (x5 : Int32) : Option St :=
  (if a4 ≤ x5 then
  (kx30 S)
  else (chk (okc S 3 a0)
  (bnd (f_X7_holds (S.1 a0 7) x5) fun r4 =>
  (if r4 = 0 then
  (chk (okc S 3 a0) (bnd (f_X3_timeOfRow S a0 a1 x5) fun r5 =>
  (chk (okc S 3 a0) (bnd (f_X3_paint S a0 x5 r5 (-1) 0 a3) fun S_6 =>
  (chk (okc S_6 3 a0) (bnd (f_X3_percentAt S_6 a0 r5) fun r7 =>
  (chk (okc S_6 0 a1) (bnd (f_X0_keepRow S_6 a1 x5 a3 r7) fun S_8 =>
  (k30 S_8 (x5 + 1))))))))))
  else (k30 S (x5 + 1))))))
set_option maxRecDepth 100000 in
set_option maxHeartbeats 4000000 in
theorem w_X3_photograph_B30 {X : CT} {g : GG} (C : CX X g cX3_photograph RX3 none 7 rm_X3_photograph) (a0 : Nat) (a1 : Nat) (a3 : Nat) (a4 : Int32) (kx30 : St → Option St) (hkx30 : ∀ (S : St), J X g (Qm X g aU pU) (cw (0, 0)) 88 [] [] S (kx30 S)) : ∀ (n : Nat) (S : St) (x5 : Int32), J X g (Qm X g aU pU) (cw (0, 0)) 30 [(0, rv g a0), (1, rv g a1), (3, rv g a3), (4, .int a4), (5, .int x5)] [] S (wl2 (f_X3_photograph_B30 a0 a1 a3 a4 kx30) n S x5) := by
  refine J.loop2 (lvf := fun (S : St) (x5 : Int32) => [(0, rv g a0), (1, rv g a1), (3, rv g a3), (4, .int a4), (5, .int x5)]) (Sf := fun (S : St) (x5 : Int32) => S) ?_
  intro k30 hk30 S x5
  show J X g _ _ 30 [(0, rv g a0), (1, rv g a1), (3, rv g a3), (4, .int a4), (5, .int x5)] [] S (f_X3_photograph_B30 a0 a1 a3 a4 kx30 k30 S x5)
  unfold f_X3_photograph_B30
  refine J.iload (pc := 30) C dX3_photograph_30 rfl ?_
  refine J.iload (pc := 32) C dX3_photograph_32 rfl ?_
  refine J.icmp_ge (pc := 34) C (tgt := 88) dX3_photograph_34 rfl ?_ ?_
  · exact J.pick [] rfl (hkx30 _)
  · refine J.aload_n (pc := 37) C (x := a0) dX3_photograph_37 rfl rfl ?_
    refine J.getI (pc := 38) C fl_RX3_53 rfl dX3_photograph_38 ?_
    refine J.iload (pc := 41) C dX3_photograph_41 rfl ?_
    refine J.snI (pc := 43) C ms_X7_holds wn_RX3_112 (fun l => c_X7_holds l g S (S.1 a0 7) x5) ⟨⟨Nat.zero_le _, Nat.zero_le _⟩, rfl, rfl⟩ rfl ⟨Nat.le_of_ble_eq_true rfl, Nat.le_of_ble_eq_true rfl⟩ rfl ct_n (Nat.le_of_ble_eq_true rfl) dX3_photograph_43 (fun r4 => ?_)
    refine J.if_ne (pc := 46) C (tgt := 82) dX3_photograph_46 rfl ?_ ?_
    · refine J.iinc (pc := 82) C (lv' := [(0, rv g a0), (1, rv g a1), (3, rv g a3), (4, .int a4), (5, .int (x5 + 1))]) dX3_photograph_82 rfl (Nat.le_of_ble_eq_true rfl) (lsf_r (lsf_r (lsf_r (lsf_i (lsf_i lsf_n))))) ki_1 rfl ?_
      refine J.goto (pc := 85) C (tgt := 30) dX3_photograph_85 rfl ?_
      exact (hk30 _ _)
    · refine J.aload_n (pc := 49) C (x := a0) dX3_photograph_49 rfl rfl ?_
      refine J.aload_n (pc := 50) C (x := a1) dX3_photograph_50 rfl rfl ?_
      refine J.iload (pc := 51) C dX3_photograph_51 rfl ?_
      refine J.vI (pc := 53) C mv_X3_timeOfRow wm_RX3_116 (fun l => c_X3_timeOfRow l g S a0 a1 x5) ⟨⟨Nat.zero_le _, Nat.zero_le _⟩, rfl, rfl⟩ rfl ⟨Nat.le_of_ble_eq_true rfl, Nat.le_of_ble_eq_true rfl⟩ rfl ct_n (Nat.le_of_ble_eq_true rfl) dX3_photograph_53 (fun r5 => ?_)
      refine J.istore (pc := 56) C (lv' := [(0, rv g a0), (1, rv g a1), (3, rv g a3), (4, .int a4), (5, .int x5), (6, .int r5)]) dX3_photograph_56 (Nat.le_of_ble_eq_true rfl) (lsf_r (lsf_r (lsf_r (lsf_i (lsf_i lsf_n))))) rfl ?_
      refine J.aload_n (pc := 58) C (x := a0) dX3_photograph_58 rfl rfl ?_
      refine J.iload (pc := 59) C dX3_photograph_59 rfl ?_
      refine J.iload (pc := 61) C dX3_photograph_61 rfl ?_
      refine J.iconst (pc := 63) C dX3_photograph_63 ki_m1 ?_
      refine J.iconst (pc := 64) C dX3_photograph_64 ki_0 ?_
      refine J.aload_n (pc := 65) C (x := a3) dX3_photograph_65 rfl rfl ?_
      refine J.vU (pc := 66) C mv_X3_paint wm_RX3_120 (fun l => c_X3_paint l g S a0 x5 r5 (-1) 0 a3) ⟨⟨Nat.zero_le _, Nat.zero_le _⟩, rfl, rfl⟩ rfl ⟨Nat.le_of_ble_eq_true rfl, Nat.le_of_ble_eq_true rfl⟩ rfl ct_n (Nat.le_of_ble_eq_true rfl) dX3_photograph_66 (fun S_6 => ?_)
      refine J.aload_n (pc := 69) C (x := a1) dX3_photograph_69 rfl rfl ?_
      refine J.iload (pc := 70) C dX3_photograph_70 rfl ?_
      refine J.aload_n (pc := 72) C (x := a3) dX3_photograph_72 rfl rfl ?_
      refine J.aload_n (pc := 73) C (x := a0) dX3_photograph_73 rfl rfl ?_
      refine J.iload (pc := 74) C dX3_photograph_74 rfl ?_
      refine J.vI (pc := 76) C mv_X3_percentAt wm_RX3_124 (fun l => c_X3_percentAt l g S_6 a0 r5) ⟨⟨Nat.zero_le _, Nat.zero_le _⟩, rfl, rfl⟩ rfl ⟨Nat.le_of_ble_eq_true rfl, Nat.le_of_ble_eq_true rfl⟩ rfl (ct_r (ct_i (ct_r ct_n))) (Nat.le_of_ble_eq_true rfl) dX3_photograph_76 (fun r7 => ?_)
      refine J.vU (pc := 79) C mv_X0_keepRow wm_RX3_127 (fun l => c_X0_keepRow l g S_6 a1 x5 a3 r7) ⟨⟨Nat.zero_le _, Nat.zero_le _⟩, rfl, rfl⟩ rfl ⟨Nat.le_of_ble_eq_true rfl, Nat.le_of_ble_eq_true rfl⟩ rfl ct_n (Nat.le_of_ble_eq_true rfl) dX3_photograph_79 (fun S_8 => ?_)
      refine J.iinc (pc := 82) C (lv' := [(0, rv g a0), (1, rv g a1), (3, rv g a3), (4, .int a4), (5, .int (x5 + 1)), (6, .int r5)]) dX3_photograph_82 rfl (Nat.le_of_ble_eq_true rfl) (lsf_r (lsf_r (lsf_r (lsf_i (lsf_i (lsf_i lsf_n)))))) ki_1 rfl ?_
      refine J.goto (pc := 85) C (tgt := 30) dX3_photograph_85 rfl ?_
      exact J.pick [0, 1, 2, 3, 4] rfl (hk30 _ _)
def f_X3_photograph (S : St) (a0 : Nat) (a1 : Nat) (a2 : Int32) (a3 : Nat) : Option St :=
  (chk (okc S 3 a0) (bnd (f_X3_setting S a0 0) fun r1 =>
  (chk (okc S 0 a1) (vlt (upI S a1 0 a2) fun S_2 =>
  (chk (okc S_2 3 a0)
  (chk (okc S_2 0 a1) (vlt (upI S_2 a1 1 ((S_2.1 a0 7) &&& ((1 <<< (r1 &&& 31)) - 1))) fun S_3 =>
  (wl2 (f_X3_photograph_B30 a0 a1 a3 r1 (fun (S_9 : St) => (some S_9))) FU S_3 0))))))))
set_option maxRecDepth 100000 in
set_option maxHeartbeats 4000000 in
theorem c_X3_photograph (l : Launch) (g : GG) (S : St) (a0 : Nat) (a1 : Nat) (a2 : Int32) (a3 : Nat) : Ct l yX3_photograph cX3_photograph 7 none rm_X3_photograph g aU pU [rv g a0, rv g a1, .int a2, rv g a3] S (f_X3_photograph S a0 a1 a2 a3) := by
  refine Ct.mk (cf := cw (0, 0)) (by decide +kernel) (cat_r (cat_r (cat_i (cat_r cat_n)))) (Nat.le_of_ble_eq_true rfl) rfl ?_
  intro X hXl hin C
  show J X g _ _ 0 [(0, rv g a0), (1, rv g a1), (2, .int a2), (3, rv g a3)] [] S (f_X3_photograph S a0 a1 a2 a3)
  unfold f_X3_photograph
  refine J.aload_n (pc := 0) C (x := a0) dX3_photograph_0 rfl rfl ?_
  refine J.iconst (pc := 1) C dX3_photograph_1 ki_0 ?_
  refine J.vI (pc := 2) C mv_X3_setting wm_RX3_106 (fun l => c_X3_setting l g S a0 0) ⟨⟨Nat.zero_le _, Nat.zero_le _⟩, rfl, rfl⟩ rfl ⟨Nat.le_of_ble_eq_true rfl, Nat.le_of_ble_eq_true rfl⟩ rfl ct_n (Nat.le_of_ble_eq_true rfl) dX3_photograph_2 (fun r1 => ?_)
  refine J.istore (pc := 5) C (lv' := [(0, rv g a0), (1, rv g a1), (2, .int a2), (3, rv g a3), (4, .int r1)]) dX3_photograph_5 (Nat.le_of_ble_eq_true rfl) (lsf_r (lsf_r (lsf_i (lsf_r lsf_n)))) rfl ?_
  refine J.aload_n (pc := 7) C (x := a1) dX3_photograph_7 rfl rfl ?_
  refine J.iload_n (pc := 8) C dX3_photograph_8 rfl rfl ?_
  refine J.putIs (pc := 9) C fl_RX3_110 rfl (fun r h => by cases h; rfl) rfl rfl dX3_photograph_9 (fun S_2 => ?_)
  refine J.aload_n (pc := 12) C (x := a1) dX3_photograph_12 rfl rfl ?_
  refine J.aload_n (pc := 13) C (x := a0) dX3_photograph_13 rfl rfl ?_
  refine J.getI (pc := 14) C fl_RX3_53 rfl dX3_photograph_14 ?_
  refine J.iconst (pc := 17) C dX3_photograph_17 ki_1 ?_
  refine J.iload (pc := 18) C dX3_photograph_18 rfl ?_
  refine J.ishl (pc := 20) C dX3_photograph_20 ?_
  refine J.iconst (pc := 21) C dX3_photograph_21 ki_1 ?_
  refine J.isub (pc := 22) C dX3_photograph_22 ?_
  refine J.iand (pc := 23) C dX3_photograph_23 ?_
  refine J.putIs (pc := 24) C fl_RX3_111 rfl (fun r h => by cases h; rfl) rfl rfl dX3_photograph_24 (fun S_3 => ?_)
  refine J.iconst (pc := 27) C dX3_photograph_27 ki_0 ?_
  refine J.istore (pc := 28) C (lv' := [(0, rv g a0), (1, rv g a1), (2, .int a2), (3, rv g a3), (4, .int r1), (5, .int 0)]) dX3_photograph_28 (Nat.le_of_ble_eq_true rfl) (lsf_r (lsf_r (lsf_i (lsf_r (lsf_i lsf_n))))) rfl ?_
  refine J.pick [0, 1, 3, 4, 5] rfl ?_
  refine w_X3_photograph_B30 C _ _ _ _ _ (fun S_9 => ?_) FU _ _
  exact J.vret (pc := 88) C rfl rfl ⟨Nat.le_refl _, Nat.le_refl _⟩ dX3_photograph_88
abbrev rm_X3_takeFrame : Room := { frames := 4, cells := 0, slots := 0, locals := 100 }
def f_X3_takeFrame_J17 (S : St) (x0 : Nat) (x1 : Nat) : Option St :=
  (chk (okc S 3 x0)
  (chk (okc S 3 x0) (vlt (upI S x0 5 ((S.1 x0 5) + 1)) fun S_1 =>
  (chk (okc S_1 3 x0)
  (chk (okc S_1 3 x0) (vlt (upI S_1 x0 4 ((S_1.1 x0 4) + 1)) fun S_2 =>
  (chk (okc S_2 3 x0)
  (chk (okc S_2 3 x0) (bnd (f_X3_frameAt S_2 x0 ((S_2.1 x0 4) - 1)) fun r3 =>
  (if r3 = 0 then
  (some S_2)
  else (chk (okc S_2 3 x0)
  (chk (okc S_2 3 x0) (bnd (f_X3_photograph S_2 x0 r3 (S_2.1 x0 6) x1) fun S_4 =>
  (some S_4))))))))))))))
set_option maxRecDepth 100000 in
set_option maxHeartbeats 4000000 in
theorem w_X3_takeFrame_J17 {X : CT} {g : GG} (C : CX X g cX3_takeFrame RX3 none 3 rm_X3_takeFrame) (S : St) (x0 : Nat) (x1 : Nat) : J X g (Qm X g aU pU) (cw (0, 0)) 17 [(0, rv g x0), (1, rv g x1)] [] S (f_X3_takeFrame_J17 S x0 x1) := by
  unfold f_X3_takeFrame_J17
  refine J.aload_n (pc := 17) C (x := x0) dX3_takeFrame_17 rfl rfl ?_
  refine J.dup (pc := 18) C dX3_takeFrame_18 (rv_cat g _) ?_
  refine J.getI (pc := 19) C fl_RX3_70 rfl dX3_takeFrame_19 ?_
  refine J.iconst (pc := 22) C dX3_takeFrame_22 ki_1 ?_
  refine J.iadd (pc := 23) C dX3_takeFrame_23 ?_
  refine J.putIs (pc := 24) C fl_RX3_70 rfl (fun r h => by cases h; rfl) rfl rfl dX3_takeFrame_24 (fun S_1 => ?_)
  refine J.aload_n (pc := 27) C (x := x0) dX3_takeFrame_27 rfl rfl ?_
  refine J.dup (pc := 28) C dX3_takeFrame_28 (rv_cat g _) ?_
  refine J.getI (pc := 29) C fl_RX3_67 rfl dX3_takeFrame_29 ?_
  refine J.iconst (pc := 32) C dX3_takeFrame_32 ki_1 ?_
  refine J.iadd (pc := 33) C dX3_takeFrame_33 ?_
  refine J.putIs (pc := 34) C fl_RX3_67 rfl (fun r h => by cases h; rfl) rfl rfl dX3_takeFrame_34 (fun S_2 => ?_)
  refine J.aload_n (pc := 37) C (x := x0) dX3_takeFrame_37 rfl rfl ?_
  refine J.aload_n (pc := 38) C (x := x0) dX3_takeFrame_38 rfl rfl ?_
  refine J.getI (pc := 39) C fl_RX3_67 rfl dX3_takeFrame_39 ?_
  refine J.iconst (pc := 42) C dX3_takeFrame_42 ki_1 ?_
  refine J.isub (pc := 43) C dX3_takeFrame_43 ?_
  refine J.vR (pc := 44) C mv_X3_frameAt wm_RX3_73 (fun l => c_X3_frameAt l g S_2 x0 ((S_2.1 x0 4) - 1)) ⟨⟨Nat.zero_le _, Nat.zero_le _⟩, rfl, rfl⟩ rfl ⟨Nat.le_of_ble_eq_true rfl, Nat.le_of_ble_eq_true rfl⟩ rfl ct_n (Nat.le_of_ble_eq_true rfl) dX3_takeFrame_44 (fun r3 => ?_)
  refine J.astore_n (pc := 47) C (lv' := [(0, rv g x0), (1, rv g x1), (2, rv g r3)]) dX3_takeFrame_47 rfl (Nat.le_of_ble_eq_true rfl) (lsf_r (lsf_r lsf_n)) rfl ?_
  refine J.aload_n (pc := 48) C (x := r3) dX3_takeFrame_48 rfl rfl ?_
  refine J.ifnull (pc := 49) C (tgt := 62) dX3_takeFrame_49 rfl ?_ ?_
  · exact J.vret (pc := 62) C rfl rfl ⟨Nat.le_refl _, Nat.le_refl _⟩ dX3_takeFrame_62
  · refine J.aload_n (pc := 52) C (x := x0) dX3_takeFrame_52 rfl rfl ?_
    refine J.aload_n (pc := 53) C (x := r3) dX3_takeFrame_53 rfl rfl ?_
    refine J.aload_n (pc := 54) C (x := x0) dX3_takeFrame_54 rfl rfl ?_
    refine J.getI (pc := 55) C fl_RX3_49 rfl dX3_takeFrame_55 ?_
    refine J.aload_n (pc := 58) C (x := x1) dX3_takeFrame_58 rfl rfl ?_
    refine J.vU (pc := 59) C mv_X3_photograph wm_RX3_102 (fun l => c_X3_photograph l g S_2 x0 r3 (S_2.1 x0 6) x1) ⟨⟨Nat.zero_le _, Nat.zero_le _⟩, rfl, rfl⟩ rfl ⟨Nat.le_of_ble_eq_true rfl, Nat.le_of_ble_eq_true rfl⟩ rfl ct_n (Nat.le_of_ble_eq_true rfl) dX3_takeFrame_59 (fun S_4 => ?_)
    exact J.vret (pc := 62) C rfl rfl ⟨Nat.le_refl _, Nat.le_refl _⟩ dX3_takeFrame_62
def f_X3_takeFrame (S : St) (a0 : Nat) (a1 : Nat) : Option St :=
  (chk (okc S 3 a0)
  (chk (okc S 3 a0)
  (chk (okc S 12 (S.2.1 a0 3))
  (if (S.1 a0 4) < (Int32.ofNat (ln (S.2.1 a0 3))) then
  (f_X3_takeFrame_J17 S a0 a1)
  else (chk (okc S 3 a0) (bnd (f_X3_dropFrame S a0 0) fun S_5 =>
  (f_X3_takeFrame_J17 S_5 a0 a1)))))))
set_option maxRecDepth 100000 in
set_option maxHeartbeats 4000000 in
theorem c_X3_takeFrame (l : Launch) (g : GG) (S : St) (a0 : Nat) (a1 : Nat) : Ct l yX3_takeFrame cX3_takeFrame 3 none rm_X3_takeFrame g aU pU [rv g a0, rv g a1] S (f_X3_takeFrame S a0 a1) := by
  refine Ct.mk (cf := cw (0, 0)) (by decide +kernel) (cat_r (cat_r cat_n)) (Nat.le_of_ble_eq_true rfl) rfl ?_
  intro X hXl hin C
  show J X g _ _ 0 [(0, rv g a0), (1, rv g a1)] [] S (f_X3_takeFrame S a0 a1)
  unfold f_X3_takeFrame
  refine J.aload_n (pc := 0) C (x := a0) dX3_takeFrame_0 rfl rfl ?_
  refine J.getI (pc := 1) C fl_RX3_67 rfl dX3_takeFrame_1 ?_
  refine J.aload_n (pc := 4) C (x := a0) dX3_takeFrame_4 rfl rfl ?_
  refine J.getR (pc := 5) C fl_RX3_23 rfl dX3_takeFrame_5 ?_
  refine J.alen (pc := 8) C 12 (by decide) dX3_takeFrame_8 ?_
  refine J.icmp_lt (pc := 9) C (tgt := 17) dX3_takeFrame_9 rfl ?_ ?_
  · exact (w_X3_takeFrame_J17 C _ _ _)
  · refine J.aload_n (pc := 12) C (x := a0) dX3_takeFrame_12 rfl rfl ?_
    refine J.iconst (pc := 13) C dX3_takeFrame_13 ki_0 ?_
    refine J.vU (pc := 14) C mv_X3_dropFrame wm_RX3_98 (fun l => c_X3_dropFrame l g S a0 0) ⟨⟨Nat.zero_le _, Nat.zero_le _⟩, rfl, rfl⟩ rfl ⟨Nat.le_of_ble_eq_true rfl, Nat.le_of_ble_eq_true rfl⟩ rfl ct_n (Nat.le_of_ble_eq_true rfl) dX3_takeFrame_14 (fun S_5 => ?_)
    exact (w_X3_takeFrame_J17 C _ _ _)
abbrev rm_X7_shoot : Room := { frames := 5, cells := 0, slots := 0, locals := 122 }
def f_X7_shoot (S : St) (a0 : Nat) : Option (Int32 × St) :=
  (chk (okc S 7 a0) (bnd (f_X7_recordState S a0) fun S_1 =>
  (chk (okc S_1 7 a0)
  (chk (okc S_1 7 a0)
  (chk (okc S_1 3 (S_1.2.1 a0 0)) (bnd (f_X3_takeFrame S_1 (S_1.2.1 a0 0) (S_1.2.1 a0 7)) fun S_2 =>
  (chk (okc S_2 7 a0)
  (chk (okc S_2 3 (S_2.2.1 a0 0))
  (some (S_2.1 (S_2.2.1 a0 0) 4, S_2))))))))))
set_option maxRecDepth 100000 in
set_option maxHeartbeats 4000000 in
theorem c_X7_shoot (l : Launch) (g : GG) (S : St) (a0 : Nat) : Ct l yX7_shoot cX7_shoot 1 (some .int) rm_X7_shoot g aW pW [rv g a0] S (f_X7_shoot S a0) := by
  refine Ct.mk (cf := cw (0, 0)) (by decide +kernel) (cat_r cat_n) (Nat.le_of_ble_eq_true rfl) rfl ?_
  intro X hXl hin C
  show J X g _ _ 0 [(0, rv g a0)] [] S (f_X7_shoot S a0)
  unfold f_X7_shoot
  refine J.aload_n (pc := 0) C (x := a0) dX7_shoot_0 rfl rfl ?_
  refine J.vU (pc := 1) C mv_X7_recordState wm_RX7_75 (fun l => c_X7_recordState l g S a0) ⟨⟨Nat.zero_le _, Nat.zero_le _⟩, rfl, rfl⟩ rfl ⟨Nat.le_of_ble_eq_true rfl, Nat.le_of_ble_eq_true rfl⟩ rfl ct_n (Nat.le_of_ble_eq_true rfl) dX7_shoot_1 (fun S_1 => ?_)
  refine J.aload_n (pc := 4) C (x := a0) dX7_shoot_4 rfl rfl ?_
  refine J.getR (pc := 5) C fl_RX7_12 rfl dX7_shoot_5 ?_
  refine J.aload_n (pc := 8) C (x := a0) dX7_shoot_8 rfl rfl ?_
  refine J.getR (pc := 9) C fl_RX7_52 rfl dX7_shoot_9 ?_
  refine J.vU (pc := 12) C mv_X3_takeFrame wm_RX7_145 (fun l => c_X3_takeFrame l g S_1 (S_1.2.1 a0 0) (S_1.2.1 a0 7)) ⟨⟨Nat.zero_le _, Nat.zero_le _⟩, rfl, rfl⟩ rfl ⟨Nat.le_of_ble_eq_true rfl, Nat.le_of_ble_eq_true rfl⟩ rfl ct_n (Nat.le_of_ble_eq_true rfl) dX7_shoot_12 (fun S_2 => ?_)
  refine J.aload_n (pc := 15) C (x := a0) dX7_shoot_15 rfl rfl ?_
  refine J.getR (pc := 16) C fl_RX7_12 rfl dX7_shoot_16 ?_
  refine J.getI (pc := 19) C fl_RX7_71 rfl dX7_shoot_19 ?_
  exact J.iret (pc := 22) C rfl rfl ⟨Nat.le_refl _, Nat.le_refl _⟩ dX7_shoot_22
abbrev rm_X7_shows : Room := { frames := 3, cells := 0, slots := 0, locals := 74 }
def f_X7_shows (S : St) (a0 : Nat) (a1 : Int32) (a2 : Int32) (a3 : Int32) : Option (Int32 × St) :=
  (chk (okc S 7 a0) (bnd (f_X7_isPlace S a0 a1 a2) fun r1 =>
  (if r1 = 0 then
  (some ((-10000001), S))
  else (bnd (f_X7_isWithin a3 0 20000) fun r2 =>
  (if r2 = 0 then
  (some ((-10000001), S))
  else (chk (okc S 7 a0)
  (chk (okc S 7 a0)
  (chk (okc S 3 (S.2.1 a0 0)) (bnd (f_X3_paint S (S.2.1 a0 0) a1 a3 (-1) 0 (S.2.1 a0 7)) fun S_3 =>
  (chk (okc S_3 7 a0)
  (bnd (f_X7_numberIn S_3 (S_3.2.1 a0 7) a2) fun r4 =>
  (chk (okc S_3 7 a0)
  (chk (okc S_3 3 (S_3.2.1 a0 0)) (bnd (f_X3_percentAt S_3 (S_3.2.1 a0 0) a3) fun r5 =>
  (bnd (f_X7_dimmed r4 r5) fun r6 =>
  (some (r6, S_3)))))))))))))))))
set_option maxRecDepth 100000 in
set_option maxHeartbeats 4000000 in
theorem c_X7_shows (l : Launch) (g : GG) (S : St) (a0 : Nat) (a1 : Int32) (a2 : Int32) (a3 : Int32) : Ct l yX7_shows cX7_shows 4 (some .int) rm_X7_shows g aW pW [rv g a0, .int a1, .int a2, .int a3] S (f_X7_shows S a0 a1 a2 a3) := by
  refine Ct.mk (cf := cw (0, 0)) (by decide +kernel) (cat_r (cat_i (cat_i (cat_i cat_n)))) (Nat.le_of_ble_eq_true rfl) rfl ?_
  intro X hXl hin C
  show J X g _ _ 0 [(0, rv g a0), (1, .int a1), (2, .int a2), (3, .int a3)] [] S (f_X7_shows S a0 a1 a2 a3)
  unfold f_X7_shows
  refine J.aload_n (pc := 0) C (x := a0) dX7_shows_0 rfl rfl ?_
  refine J.iload_n (pc := 1) C dX7_shows_1 rfl rfl ?_
  refine J.iload_n (pc := 2) C dX7_shows_2 rfl rfl ?_
  refine J.vI (pc := 3) C mv_X7_isPlace wm_RX7_131 (fun l => c_X7_isPlace l g S a0 a1 a2) ⟨⟨Nat.zero_le _, Nat.zero_le _⟩, rfl, rfl⟩ rfl ⟨Nat.le_of_ble_eq_true rfl, Nat.le_of_ble_eq_true rfl⟩ rfl ct_n (Nat.le_of_ble_eq_true rfl) dX7_shows_3 (fun r1 => ?_)
  refine J.if_eq (pc := 6) C (tgt := 20) dX7_shows_6 rfl ?_ ?_
  · refine J.ldc (pc := 20) C wc_RX7_60 dX7_shows_20 ?_
    exact J.iret (pc := 22) C rfl rfl ⟨Nat.le_refl _, Nat.le_refl _⟩ dX7_shows_22
  · refine J.iload_n (pc := 9) C dX7_shows_9 rfl rfl ?_
    refine J.iconst (pc := 10) C dX7_shows_10 ki_0 ?_
    refine J.sipush (pc := 11) C dX7_shows_11 ks_20000 ?_
    refine J.sI (pc := 14) C ms_X7_isWithin wm_RX7_56 (fun l => c_X7_isWithin l g S a3 0 20000) ⟨⟨Nat.zero_le _, Nat.zero_le _⟩, rfl, rfl⟩ rfl ⟨Nat.le_of_ble_eq_true rfl, Nat.le_of_ble_eq_true rfl⟩ rfl ct_n (Nat.le_of_ble_eq_true rfl) dX7_shows_14 (fun r2 => ?_)
    refine J.if_ne (pc := 17) C (tgt := 23) dX7_shows_17 rfl ?_ ?_
    · refine J.aload_n (pc := 23) C (x := a0) dX7_shows_23 rfl rfl ?_
      refine J.getR (pc := 24) C fl_RX7_12 rfl dX7_shows_24 ?_
      refine J.iload_n (pc := 27) C dX7_shows_27 rfl rfl ?_
      refine J.iload_n (pc := 28) C dX7_shows_28 rfl rfl ?_
      refine J.iconst (pc := 29) C dX7_shows_29 ki_m1 ?_
      refine J.iconst (pc := 30) C dX7_shows_30 ki_0 ?_
      refine J.aload_n (pc := 31) C (x := a0) dX7_shows_31 rfl rfl ?_
      refine J.getR (pc := 32) C fl_RX7_52 rfl dX7_shows_32 ?_
      refine J.vU (pc := 35) C mv_X3_paint wm_RX7_134 (fun l => c_X3_paint l g S (S.2.1 a0 0) a1 a3 (-1) 0 (S.2.1 a0 7)) ⟨⟨Nat.zero_le _, Nat.zero_le _⟩, rfl, rfl⟩ rfl ⟨Nat.le_of_ble_eq_true rfl, Nat.le_of_ble_eq_true rfl⟩ rfl ct_n (Nat.le_of_ble_eq_true rfl) dX7_shows_35 (fun S_3 => ?_)
      refine J.aload_n (pc := 38) C (x := a0) dX7_shows_38 rfl rfl ?_
      refine J.getR (pc := 39) C fl_RX7_52 rfl dX7_shows_39 ?_
      refine J.iload_n (pc := 42) C dX7_shows_42 rfl rfl ?_
      refine J.sI (pc := 43) C ms_X7_numberIn wm_RX7_64 (fun l => c_X7_numberIn l g S_3 (S_3.2.1 a0 7) a2) ⟨⟨Nat.zero_le _, Nat.zero_le _⟩, rfl, rfl⟩ rfl ⟨Nat.le_of_ble_eq_true rfl, Nat.le_of_ble_eq_true rfl⟩ rfl ct_n (Nat.le_of_ble_eq_true rfl) dX7_shows_43 (fun r4 => ?_)
      refine J.aload_n (pc := 46) C (x := a0) dX7_shows_46 rfl rfl ?_
      refine J.getR (pc := 47) C fl_RX7_12 rfl dX7_shows_47 ?_
      refine J.iload_n (pc := 50) C dX7_shows_50 rfl rfl ?_
      refine J.vI (pc := 51) C mv_X3_percentAt wm_RX7_138 (fun l => c_X3_percentAt l g S_3 (S_3.2.1 a0 0) a3) ⟨⟨Nat.zero_le _, Nat.zero_le _⟩, rfl, rfl⟩ rfl ⟨Nat.le_of_ble_eq_true rfl, Nat.le_of_ble_eq_true rfl⟩ rfl (ct_i ct_n) (Nat.le_of_ble_eq_true rfl) dX7_shows_51 (fun r5 => ?_)
      refine J.sI (pc := 54) C ms_X7_dimmed wm_RX7_141 (fun l => c_X7_dimmed l g S_3 r4 r5) ⟨⟨Nat.zero_le _, Nat.zero_le _⟩, rfl, rfl⟩ rfl ⟨Nat.le_of_ble_eq_true rfl, Nat.le_of_ble_eq_true rfl⟩ rfl ct_n (Nat.le_of_ble_eq_true rfl) dX7_shows_54 (fun r6 => ?_)
      exact J.iret (pc := 57) C rfl rfl ⟨Nat.le_refl _, Nat.le_refl _⟩ dX7_shows_57
    · refine J.ldc (pc := 20) C wc_RX7_60 dX7_shows_20 ?_
      exact J.iret (pc := 22) C rfl rfl ⟨Nat.le_refl _, Nat.le_refl _⟩ dX7_shows_22
abbrev rm_L_shoots : Room := { frames := 6, cells := 0, slots := 0, locals := 154 }
def f_L_shoots_B141 (a0 : Nat) (a1 : Int32) (a4 : Int32) (a5 : Int32) (a6 : Int32) (a7 : Int32) (a9 : Int32) (kx141 : St → Int32 → Option (Int32 × St)) (k141 : St → Int32 → Int32 → Option (Int32 × St)) (S : St) (x8 : Int32) (x10 : Int32) : Option (Int32 × St) :=
  (if a5 ≤ x10 then
  (kx141 S x8)
  else (if x8 = 0 then
  (kx141 S x8)
  else (bnd (f_L_has a6 a9) fun r9 =>
  (if r9 = 0 then
  (chk (okc S 7 a0) (bnd (f_X7_pixel S a0 a7 a9 x10) fun r10 =>
  (chk (okc S 7 a0) (bnd (f_X7_count S a0 12) fun r11 =>
  (chk (okc S 7 a0) (bnd2 (f_X7_shows S a0 a9 x10 (a1 + (a9 * r11))) fun r12 S_13 =>
  (if r10 = r12 then
  (k141 S_13 1 (x10 + 1))
  else (k141 S_13 0 (x10 + 1)))))))))
  else (kx141 S x8)))))
set_option maxRecDepth 100000 in
set_option maxHeartbeats 4000000 in
theorem w_L_shoots_B141 {X : CT} {g : GG} (C : CX X g cL_shoots RL (some .boolean) 11 rm_L_shoots) (a0 : Nat) (a1 : Int32) (a4 : Int32) (a5 : Int32) (a6 : Int32) (a7 : Int32) (a9 : Int32) (kx141 : St → Int32 → Option (Int32 × St)) (hkx141 : ∀ (S : St) (x8 : Int32), J X g (Qm X g aW pW) (cw (0, 0)) 208 [(0, rv g a0), (1, .int a1), (4, .int a4), (5, .int a5), (6, .int a6), (7, .int a7), (8, .int x8), (9, .int a9)] [] S (kx141 S x8)) : ∀ (n : Nat) (S : St) (x8 : Int32) (x10 : Int32), J X g (Qm X g aW pW) (cw (0, 0)) 141 [(0, rv g a0), (1, .int a1), (4, .int a4), (5, .int a5), (6, .int a6), (7, .int a7), (8, .int x8), (9, .int a9), (10, .int x10)] [] S (wl3 (f_L_shoots_B141 a0 a1 a4 a5 a6 a7 a9 kx141) n S x8 x10) := by
  refine J.loop3 (lvf := fun (S : St) (x8 : Int32) (x10 : Int32) => [(0, rv g a0), (1, .int a1), (4, .int a4), (5, .int a5), (6, .int a6), (7, .int a7), (8, .int x8), (9, .int a9), (10, .int x10)]) (Sf := fun (S : St) (x8 : Int32) (x10 : Int32) => S) ?_
  intro k141 hk141 S x8 x10
  show J X g _ _ 141 [(0, rv g a0), (1, .int a1), (4, .int a4), (5, .int a5), (6, .int a6), (7, .int a7), (8, .int x8), (9, .int a9), (10, .int x10)] [] S (f_L_shoots_B141 a0 a1 a4 a5 a6 a7 a9 kx141 k141 S x8 x10)
  unfold f_L_shoots_B141
  refine J.iload (pc := 141) C dL_shoots_141 rfl ?_
  refine J.iload (pc := 143) C dL_shoots_143 rfl ?_
  refine J.icmp_ge (pc := 145) C (tgt := 208) dL_shoots_145 rfl ?_ ?_
  · exact J.pick [0, 1, 2, 3, 4, 5, 6, 7] rfl (hkx141 _ _)
  · refine J.iload (pc := 148) C dL_shoots_148 rfl ?_
    refine J.if_eq (pc := 150) C (tgt := 208) dL_shoots_150 rfl ?_ ?_
    · exact J.pick [0, 1, 2, 3, 4, 5, 6, 7] rfl (hkx141 _ _)
    · refine J.iload (pc := 153) C dL_shoots_153 rfl ?_
      refine J.iload (pc := 155) C dL_shoots_155 rfl ?_
      refine J.sI (pc := 157) C ms_L_has wm_RL_39 (fun l => c_L_has l g S a6 a9) ⟨⟨Nat.zero_le _, Nat.zero_le _⟩, rfl, rfl⟩ rfl ⟨Nat.le_of_ble_eq_true rfl, Nat.le_of_ble_eq_true rfl⟩ rfl ct_n (Nat.le_of_ble_eq_true rfl) dL_shoots_157 (fun r9 => ?_)
      refine J.if_ne (pc := 160) C (tgt := 208) dL_shoots_160 rfl ?_ ?_
      · exact J.pick [0, 1, 2, 3, 4, 5, 6, 7] rfl (hkx141 _ _)
      · refine J.aload_n (pc := 163) C (x := a0) dL_shoots_163 rfl rfl ?_
        refine J.iload (pc := 164) C dL_shoots_164 rfl ?_
        refine J.iload (pc := 166) C dL_shoots_166 rfl ?_
        refine J.iload (pc := 168) C dL_shoots_168 rfl ?_
        refine J.vI (pc := 170) C mv_X7_pixel wm_RL_44 (fun l => c_X7_pixel l g S a0 a7 a9 x10) ⟨⟨Nat.zero_le _, Nat.zero_le _⟩, rfl, rfl⟩ rfl ⟨Nat.le_of_ble_eq_true rfl, Nat.le_of_ble_eq_true rfl⟩ rfl ct_n (Nat.le_of_ble_eq_true rfl) dL_shoots_170 (fun r10 => ?_)
        refine J.aload_n (pc := 173) C (x := a0) dL_shoots_173 rfl rfl ?_
        refine J.iload (pc := 174) C dL_shoots_174 rfl ?_
        refine J.iload (pc := 176) C dL_shoots_176 rfl ?_
        refine J.iload_n (pc := 178) C dL_shoots_178 rfl rfl ?_
        refine J.iload (pc := 179) C dL_shoots_179 rfl ?_
        refine J.aload_n (pc := 181) C (x := a0) dL_shoots_181 rfl rfl ?_
        refine J.bipush (pc := 182) C dL_shoots_182 kb_12 ?_
        refine J.vI (pc := 184) C mv_X7_count wm_RL_29 (fun l => c_X7_count l g S a0 12) ⟨⟨Nat.zero_le _, Nat.zero_le _⟩, rfl, rfl⟩ rfl ⟨Nat.le_of_ble_eq_true rfl, Nat.le_of_ble_eq_true rfl⟩ rfl (ct_i (ct_i (ct_i (ct_i (ct_r (ct_i ct_n)))))) (Nat.le_of_ble_eq_true rfl) dL_shoots_184 (fun r11 => ?_)
        refine J.imul (pc := 187) C dL_shoots_187 ?_
        refine J.iadd (pc := 188) C dL_shoots_188 ?_
        refine J.vW (pc := 189) C mv_X7_shows wm_RL_62 (fun l => c_X7_shows l g S a0 a9 x10 (a1 + (a9 * r11))) ⟨⟨Nat.zero_le _, Nat.zero_le _⟩, rfl, rfl⟩ rfl ⟨Nat.le_of_ble_eq_true rfl, Nat.le_of_ble_eq_true rfl⟩ rfl (ct_i ct_n) (Nat.le_of_ble_eq_true rfl) dL_shoots_189 (fun r12 S_13 => ?_)
        refine J.icmp_ne (pc := 192) C (tgt := 199) dL_shoots_192 rfl ?_ ?_
        · refine J.iconst (pc := 199) C dL_shoots_199 ki_0 ?_
          refine J.istore (pc := 200) C (lv' := [(0, rv g a0), (1, .int a1), (4, .int a4), (5, .int a5), (6, .int a6), (7, .int a7), (8, .int 0), (9, .int a9), (10, .int x10)]) dL_shoots_200 (Nat.le_of_ble_eq_true rfl) (lsf_r (lsf_i (lsf_i (lsf_i (lsf_i (lsf_i (lsf_i (lsf_i (lsf_i lsf_n))))))))) rfl ?_
          refine J.iinc (pc := 202) C (lv' := [(0, rv g a0), (1, .int a1), (4, .int a4), (5, .int a5), (6, .int a6), (7, .int a7), (8, .int 0), (9, .int a9), (10, .int (x10 + 1))]) dL_shoots_202 rfl (Nat.le_of_ble_eq_true rfl) (lsf_r (lsf_i (lsf_i (lsf_i (lsf_i (lsf_i (lsf_i (lsf_i (lsf_i lsf_n))))))))) ki_1 rfl ?_
          refine J.goto (pc := 205) C (tgt := 141) dL_shoots_205 rfl ?_
          exact (hk141 _ _ _)
        · refine J.iconst (pc := 195) C dL_shoots_195 ki_1 ?_
          refine J.goto (pc := 196) C (tgt := 200) dL_shoots_196 rfl ?_
          refine J.istore (pc := 200) C (lv' := [(0, rv g a0), (1, .int a1), (4, .int a4), (5, .int a5), (6, .int a6), (7, .int a7), (8, .int 1), (9, .int a9), (10, .int x10)]) dL_shoots_200 (Nat.le_of_ble_eq_true rfl) (lsf_r (lsf_i (lsf_i (lsf_i (lsf_i (lsf_i (lsf_i (lsf_i (lsf_i lsf_n))))))))) rfl ?_
          refine J.iinc (pc := 202) C (lv' := [(0, rv g a0), (1, .int a1), (4, .int a4), (5, .int a5), (6, .int a6), (7, .int a7), (8, .int 1), (9, .int a9), (10, .int (x10 + 1))]) dL_shoots_202 rfl (Nat.le_of_ble_eq_true rfl) (lsf_r (lsf_i (lsf_i (lsf_i (lsf_i (lsf_i (lsf_i (lsf_i (lsf_i lsf_n))))))))) ki_1 rfl ?_
          refine J.goto (pc := 205) C (tgt := 141) dL_shoots_205 rfl ?_
          exact (hk141 _ _ _)
def f_L_shoots_B126 (a0 : Nat) (a1 : Int32) (a4 : Int32) (a5 : Int32) (a6 : Int32) (a7 : Int32) (kx126 : St → Int32 → Option (Int32 × St)) (k126 : St → Int32 → Int32 → Option (Int32 × St)) (S : St) (x8 : Int32) (x9 : Int32) : Option (Int32 × St) :=
  (if a4 ≤ x9 then
  (kx126 S x8)
  else (if x8 = 0 then
  (kx126 S x8)
  else (wl3 (f_L_shoots_B141 a0 a1 a4 a5 a6 a7 x9 (fun (S_15 : St) (y8_14 : Int32) => (k126 S_15 y8_14 (x9 + 1)))) FU S x8 0)))
set_option maxRecDepth 100000 in
set_option maxHeartbeats 4000000 in
theorem w_L_shoots_B126 {X : CT} {g : GG} (C : CX X g cL_shoots RL (some .boolean) 11 rm_L_shoots) (a0 : Nat) (a1 : Int32) (a4 : Int32) (a5 : Int32) (a6 : Int32) (a7 : Int32) (kx126 : St → Int32 → Option (Int32 × St)) (hkx126 : ∀ (S : St) (x8 : Int32), J X g (Qm X g aW pW) (cw (0, 0)) 214 [(0, rv g a0), (4, .int a4), (6, .int a6), (7, .int a7), (8, .int x8)] [] S (kx126 S x8)) : ∀ (n : Nat) (S : St) (x8 : Int32) (x9 : Int32), J X g (Qm X g aW pW) (cw (0, 0)) 126 [(0, rv g a0), (1, .int a1), (4, .int a4), (5, .int a5), (6, .int a6), (7, .int a7), (8, .int x8), (9, .int x9)] [] S (wl3 (f_L_shoots_B126 a0 a1 a4 a5 a6 a7 kx126) n S x8 x9) := by
  refine J.loop3 (lvf := fun (S : St) (x8 : Int32) (x9 : Int32) => [(0, rv g a0), (1, .int a1), (4, .int a4), (5, .int a5), (6, .int a6), (7, .int a7), (8, .int x8), (9, .int x9)]) (Sf := fun (S : St) (x8 : Int32) (x9 : Int32) => S) ?_
  intro k126 hk126 S x8 x9
  show J X g _ _ 126 [(0, rv g a0), (1, .int a1), (4, .int a4), (5, .int a5), (6, .int a6), (7, .int a7), (8, .int x8), (9, .int x9)] [] S (f_L_shoots_B126 a0 a1 a4 a5 a6 a7 kx126 k126 S x8 x9)
  unfold f_L_shoots_B126
  refine J.iload (pc := 126) C dL_shoots_126 rfl ?_
  refine J.iload (pc := 128) C dL_shoots_128 rfl ?_
  refine J.icmp_ge (pc := 130) C (tgt := 214) dL_shoots_130 rfl ?_ ?_
  · exact J.pick [0, 2, 4, 5, 6] rfl (hkx126 _ _)
  · refine J.iload (pc := 133) C dL_shoots_133 rfl ?_
    refine J.if_eq (pc := 135) C (tgt := 214) dL_shoots_135 rfl ?_ ?_
    · exact J.pick [0, 2, 4, 5, 6] rfl (hkx126 _ _)
    · refine J.iconst (pc := 138) C dL_shoots_138 ki_0 ?_
      refine J.istore (pc := 139) C (lv' := [(0, rv g a0), (1, .int a1), (4, .int a4), (5, .int a5), (6, .int a6), (7, .int a7), (8, .int x8), (9, .int x9), (10, .int 0)]) dL_shoots_139 (Nat.le_of_ble_eq_true rfl) (lsf_r (lsf_i (lsf_i (lsf_i (lsf_i (lsf_i (lsf_i (lsf_i lsf_n)))))))) rfl ?_
      refine w_L_shoots_B141 C _ _ _ _ _ _ _ _ (fun S_15 y8_14 => ?_) FU _ _ _
      refine J.iinc (pc := 208) C (lv' := [(0, rv g a0), (1, .int a1), (4, .int a4), (5, .int a5), (6, .int a6), (7, .int a7), (8, .int y8_14), (9, .int (x9 + 1))]) dL_shoots_208 rfl (Nat.le_of_ble_eq_true rfl) (lsf_r (lsf_i (lsf_i (lsf_i (lsf_i (lsf_i (lsf_i (lsf_i lsf_n)))))))) ki_1 rfl ?_
      refine J.goto (pc := 211) C (tgt := 126) dL_shoots_211 rfl ?_
      exact (hk126 _ _ _)
def f_L_shoots_J214 (S : St) (x0 : Nat) (x4 : Int32) (x6 : Int32) (x7 : Int32) (x8 : Int32) : Option (Int32 × St) :=
  (if x8 = 0 then
  (some (0, S))
  else (chk (okc S 7 x0) (bnd2 (f_X7_fitting S x0 x7) fun r18 S_19 =>
  (if r18 = (((1 <<< (x4 &&& 31)) - 1) &&& (x6 ^^^ (-1))) then
  (bnd2 (f_L_frameHolds S_19 x0 x7) fun r20 S_21 =>
  (if r20 = 0 then
  (some (0, S_21))
  else (some (1, S_21))))
  else (some (0, S_19))))))
set_option maxRecDepth 100000 in
set_option maxHeartbeats 4000000 in
theorem w_L_shoots_J214 {X : CT} {g : GG} (C : CX X g cL_shoots RL (some .boolean) 11 rm_L_shoots) (S : St) (x0 : Nat) (x4 : Int32) (x6 : Int32) (x7 : Int32) (x8 : Int32) : J X g (Qm X g aW pW) (cw (0, 0)) 214 [(0, rv g x0), (4, .int x4), (6, .int x6), (7, .int x7), (8, .int x8)] [] S (f_L_shoots_J214 S x0 x4 x6 x7 x8) := by
  unfold f_L_shoots_J214
  refine J.iload (pc := 214) C dL_shoots_214 rfl ?_
  refine J.if_eq (pc := 216) C (tgt := 252) dL_shoots_216 rfl ?_ ?_
  · refine J.iconst (pc := 252) C dL_shoots_252 ki_0 ?_
    exact J.zret (pc := 253) C rfl rfl rfl ⟨Nat.le_refl _, Nat.le_refl _⟩ dL_shoots_253
  · refine J.aload_n (pc := 219) C (x := x0) dL_shoots_219 rfl rfl ?_
    refine J.iload (pc := 220) C dL_shoots_220 rfl ?_
    refine J.vW (pc := 222) C mv_X7_fitting wm_RL_51 (fun l => c_X7_fitting l g S x0 x7) ⟨⟨Nat.zero_le _, Nat.zero_le _⟩, rfl, rfl⟩ rfl ⟨Nat.le_of_ble_eq_true rfl, Nat.le_of_ble_eq_true rfl⟩ rfl ct_n (Nat.le_of_ble_eq_true rfl) dL_shoots_222 (fun r18 S_19 => ?_)
    refine J.iconst (pc := 225) C dL_shoots_225 ki_1 ?_
    refine J.iload (pc := 226) C dL_shoots_226 rfl ?_
    refine J.ishl (pc := 228) C dL_shoots_228 ?_
    refine J.iconst (pc := 229) C dL_shoots_229 ki_1 ?_
    refine J.isub (pc := 230) C dL_shoots_230 ?_
    refine J.iload (pc := 231) C dL_shoots_231 rfl ?_
    refine J.iconst (pc := 233) C dL_shoots_233 ki_m1 ?_
    refine J.ixor (pc := 234) C dL_shoots_234 ?_
    refine J.iand (pc := 235) C dL_shoots_235 ?_
    refine J.icmp_ne (pc := 236) C (tgt := 252) dL_shoots_236 rfl ?_ ?_
    · refine J.iconst (pc := 252) C dL_shoots_252 ki_0 ?_
      exact J.zret (pc := 253) C rfl rfl rfl ⟨Nat.le_refl _, Nat.le_refl _⟩ dL_shoots_253
    · refine J.aload_n (pc := 239) C (x := x0) dL_shoots_239 rfl rfl ?_
      refine J.iload (pc := 240) C dL_shoots_240 rfl ?_
      refine J.sW (pc := 242) C ms_L_frameHolds wm_RL_65 (fun l => c_L_frameHolds l g S_19 x0 x7) ⟨⟨Nat.zero_le _, Nat.zero_le _⟩, rfl, rfl⟩ rfl ⟨Nat.le_of_ble_eq_true rfl, Nat.le_of_ble_eq_true rfl⟩ rfl ct_n (Nat.le_of_ble_eq_true rfl) dL_shoots_242 (fun r20 S_21 => ?_)
      refine J.if_eq (pc := 245) C (tgt := 252) dL_shoots_245 rfl ?_ ?_
      · refine J.iconst (pc := 252) C dL_shoots_252 ki_0 ?_
        exact J.zret (pc := 253) C rfl rfl rfl ⟨Nat.le_refl _, Nat.le_refl _⟩ dL_shoots_253
      · refine J.iconst (pc := 248) C dL_shoots_248 ki_1 ?_
        refine J.goto (pc := 249) C (tgt := 253) dL_shoots_249 rfl ?_
        exact J.zret (pc := 253) C rfl rfl rfl ⟨Nat.le_refl _, Nat.le_refl _⟩ dL_shoots_253
def f_L_shoots_J121 (S : St) (x0 : Nat) (x1 : Int32) (x4 : Int32) (x5 : Int32) (x6 : Int32) (x7 : Int32) (t0 : Int32) : Option (Int32 × St) :=
  (wl3 (f_L_shoots_B126 x0 x1 x4 x5 x6 x7 (fun (S_17 : St) (y8_16 : Int32) => (f_L_shoots_J214 S_17 x0 x4 x6 x7 y8_16))) FU S t0 0)
set_option maxRecDepth 100000 in
set_option maxHeartbeats 4000000 in
theorem w_L_shoots_J121 {X : CT} {g : GG} (C : CX X g cL_shoots RL (some .boolean) 11 rm_L_shoots) (S : St) (x0 : Nat) (x1 : Int32) (x4 : Int32) (x5 : Int32) (x6 : Int32) (x7 : Int32) (t0 : Int32) : J X g (Qm X g aW pW) (cw (0, 0)) 121 [(0, rv g x0), (1, .int x1), (4, .int x4), (5, .int x5), (6, .int x6), (7, .int x7)] [.int t0] S (f_L_shoots_J121 S x0 x1 x4 x5 x6 x7 t0) := by
  unfold f_L_shoots_J121
  refine J.istore (pc := 121) C (lv' := [(0, rv g x0), (1, .int x1), (4, .int x4), (5, .int x5), (6, .int x6), (7, .int x7), (8, .int t0)]) dL_shoots_121 (Nat.le_of_ble_eq_true rfl) (lsf_r (lsf_i (lsf_i (lsf_i (lsf_i (lsf_i lsf_n)))))) rfl ?_
  refine J.iconst (pc := 123) C dL_shoots_123 ki_0 ?_
  refine J.istore (pc := 124) C (lv' := [(0, rv g x0), (1, .int x1), (4, .int x4), (5, .int x5), (6, .int x6), (7, .int x7), (8, .int t0), (9, .int 0)]) dL_shoots_124 (Nat.le_of_ble_eq_true rfl) (lsf_r (lsf_i (lsf_i (lsf_i (lsf_i (lsf_i (lsf_i lsf_n))))))) rfl ?_
  refine w_L_shoots_B126 C _ _ _ _ _ _ _ (fun S_17 y8_16 => ?_) FU _ _ _
  exact (w_L_shoots_J214 C _ _ _ _ _ _)
def f_L_shoots_J120 (S : St) (x0 : Nat) (x1 : Int32) (x4 : Int32) (x5 : Int32) (x6 : Int32) (x7 : Int32) : Option (Int32 × St) :=
  (f_L_shoots_J121 S x0 x1 x4 x5 x6 x7 0)
set_option maxRecDepth 100000 in
set_option maxHeartbeats 4000000 in
theorem w_L_shoots_J120 {X : CT} {g : GG} (C : CX X g cL_shoots RL (some .boolean) 11 rm_L_shoots) (S : St) (x0 : Nat) (x1 : Int32) (x4 : Int32) (x5 : Int32) (x6 : Int32) (x7 : Int32) : J X g (Qm X g aW pW) (cw (0, 0)) 120 [(0, rv g x0), (1, .int x1), (4, .int x4), (5, .int x5), (6, .int x6), (7, .int x7)] [] S (f_L_shoots_J120 S x0 x1 x4 x5 x6 x7) := by
  unfold f_L_shoots_J120
  refine J.iconst (pc := 120) C dL_shoots_120 ki_0 ?_
  exact (w_L_shoots_J121 C _ _ _ _ _ _ _ _)
def f_L_shoots_J67 (S : St) (x0 : Nat) (x1 : Int32) (x3 : Int32) (x4 : Int32) (x5 : Int32) (x6 : Int32) (x7 : Int32) (t0 : Int32) (t1 : Int32) : Option (Int32 × St) :=
  (if t1 = t0 then
  (chk (okc S 7 x0) (bnd (f_X7_count S x0 1) fun r22 =>
  (if r22 = (x7 + 1) then
  (chk (okc S 7 x0) (bnd (f_X7_count S x0 4) fun r23 =>
  (if r23 = (x3 + 1) then
  (chk (okc S 7 x0) (bnd (f_X7_frameOf S x0 x7 0) fun r24 =>
  (if r24 = x1 then
  (chk (okc S 7 x0) (bnd (f_X7_frameOf S x0 x7 1) fun r25 =>
  (if r25 = x6 then
  (f_L_shoots_J121 S x0 x1 x4 x5 x6 x7 1)
  else (f_L_shoots_J120 S x0 x1 x4 x5 x6 x7))))
  else (f_L_shoots_J120 S x0 x1 x4 x5 x6 x7))))
  else (f_L_shoots_J120 S x0 x1 x4 x5 x6 x7))))
  else (f_L_shoots_J120 S x0 x1 x4 x5 x6 x7))))
  else (f_L_shoots_J120 S x0 x1 x4 x5 x6 x7))
set_option maxRecDepth 100000 in
set_option maxHeartbeats 4000000 in
theorem w_L_shoots_J67 {X : CT} {g : GG} (C : CX X g cL_shoots RL (some .boolean) 11 rm_L_shoots) (S : St) (x0 : Nat) (x1 : Int32) (x3 : Int32) (x4 : Int32) (x5 : Int32) (x6 : Int32) (x7 : Int32) (t0 : Int32) (t1 : Int32) : J X g (Qm X g aW pW) (cw (0, 0)) 67 [(0, rv g x0), (1, .int x1), (3, .int x3), (4, .int x4), (5, .int x5), (6, .int x6), (7, .int x7)] [.int t0, .int t1] S (f_L_shoots_J67 S x0 x1 x3 x4 x5 x6 x7 t0 t1) := by
  unfold f_L_shoots_J67
  refine J.icmp_ne (pc := 67) C (tgt := 120) dL_shoots_67 rfl ?_ ?_
  · exact J.pick [0, 1, 3, 4, 5, 6] rfl (w_L_shoots_J120 C _ _ _ _ _ _ _)
  · refine J.aload_n (pc := 70) C (x := x0) dL_shoots_70 rfl rfl ?_
    refine J.iconst (pc := 71) C dL_shoots_71 ki_1 ?_
    refine J.vI (pc := 72) C mv_X7_count wm_RL_29 (fun l => c_X7_count l g S x0 1) ⟨⟨Nat.zero_le _, Nat.zero_le _⟩, rfl, rfl⟩ rfl ⟨Nat.le_of_ble_eq_true rfl, Nat.le_of_ble_eq_true rfl⟩ rfl ct_n (Nat.le_of_ble_eq_true rfl) dL_shoots_72 (fun r22 => ?_)
    refine J.iload (pc := 75) C dL_shoots_75 rfl ?_
    refine J.iconst (pc := 77) C dL_shoots_77 ki_1 ?_
    refine J.iadd (pc := 78) C dL_shoots_78 ?_
    refine J.icmp_ne (pc := 79) C (tgt := 120) dL_shoots_79 rfl ?_ ?_
    · exact J.pick [0, 1, 3, 4, 5, 6] rfl (w_L_shoots_J120 C _ _ _ _ _ _ _)
    · refine J.aload_n (pc := 82) C (x := x0) dL_shoots_82 rfl rfl ?_
      refine J.iconst (pc := 83) C dL_shoots_83 ki_4 ?_
      refine J.vI (pc := 84) C mv_X7_count wm_RL_29 (fun l => c_X7_count l g S x0 4) ⟨⟨Nat.zero_le _, Nat.zero_le _⟩, rfl, rfl⟩ rfl ⟨Nat.le_of_ble_eq_true rfl, Nat.le_of_ble_eq_true rfl⟩ rfl ct_n (Nat.le_of_ble_eq_true rfl) dL_shoots_84 (fun r23 => ?_)
      refine J.iload_n (pc := 87) C dL_shoots_87 rfl rfl ?_
      refine J.iconst (pc := 88) C dL_shoots_88 ki_1 ?_
      refine J.iadd (pc := 89) C dL_shoots_89 ?_
      refine J.icmp_ne (pc := 90) C (tgt := 120) dL_shoots_90 rfl ?_ ?_
      · exact J.pick [0, 1, 3, 4, 5, 6] rfl (w_L_shoots_J120 C _ _ _ _ _ _ _)
      · refine J.aload_n (pc := 93) C (x := x0) dL_shoots_93 rfl rfl ?_
        refine J.iload (pc := 94) C dL_shoots_94 rfl ?_
        refine J.iconst (pc := 96) C dL_shoots_96 ki_0 ?_
        refine J.vI (pc := 97) C mv_X7_frameOf wm_RL_33 (fun l => c_X7_frameOf l g S x0 x7 0) ⟨⟨Nat.zero_le _, Nat.zero_le _⟩, rfl, rfl⟩ rfl ⟨Nat.le_of_ble_eq_true rfl, Nat.le_of_ble_eq_true rfl⟩ rfl ct_n (Nat.le_of_ble_eq_true rfl) dL_shoots_97 (fun r24 => ?_)
        refine J.iload_n (pc := 100) C dL_shoots_100 rfl rfl ?_
        refine J.icmp_ne (pc := 101) C (tgt := 120) dL_shoots_101 rfl ?_ ?_
        · exact J.pick [0, 1, 3, 4, 5, 6] rfl (w_L_shoots_J120 C _ _ _ _ _ _ _)
        · refine J.aload_n (pc := 104) C (x := x0) dL_shoots_104 rfl rfl ?_
          refine J.iload (pc := 105) C dL_shoots_105 rfl ?_
          refine J.iconst (pc := 107) C dL_shoots_107 ki_1 ?_
          refine J.vI (pc := 108) C mv_X7_frameOf wm_RL_33 (fun l => c_X7_frameOf l g S x0 x7 1) ⟨⟨Nat.zero_le _, Nat.zero_le _⟩, rfl, rfl⟩ rfl ⟨Nat.le_of_ble_eq_true rfl, Nat.le_of_ble_eq_true rfl⟩ rfl ct_n (Nat.le_of_ble_eq_true rfl) dL_shoots_108 (fun r25 => ?_)
          refine J.iload (pc := 111) C dL_shoots_111 rfl ?_
          refine J.icmp_ne (pc := 113) C (tgt := 120) dL_shoots_113 rfl ?_ ?_
          · exact J.pick [0, 1, 3, 4, 5, 6] rfl (w_L_shoots_J120 C _ _ _ _ _ _ _)
          · refine J.iconst (pc := 116) C dL_shoots_116 ki_1 ?_
            refine J.goto (pc := 117) C (tgt := 121) dL_shoots_117 rfl ?_
            exact J.pick [0, 1, 3, 4, 5, 6] rfl (w_L_shoots_J121 C _ _ _ _ _ _ _ _)
def f_L_shoots (S : St) (a0 : Nat) : Option (Int32 × St) :=
  (chk (okc S 7 a0) (bnd (f_X7_count S a0 2) fun r1 =>
  (chk (okc S 7 a0) (bnd (f_X7_count S a0 1) fun r2 =>
  (chk (okc S 7 a0) (bnd (f_X7_count S a0 4) fun r3 =>
  (chk (okc S 7 a0) (bnd (f_X7_count S a0 10) fun r4 =>
  (chk (okc S 7 a0) (bnd (f_X7_count S a0 11) fun r5 =>
  (bnd (f_L_blinded S a0) fun r6 =>
  (chk (okc S 7 a0) (bnd2 (f_X7_shoot S a0) fun r7 S_8 =>
  (if (5 : Int32) ≤ r2 then
  (f_L_shoots_J67 S_8 a0 r1 r3 r4 r5 (r6 &&& ((1 <<< (r4 &&& 31)) - 1)) (r7 - 1) 4 (r7 - 1))
  else (f_L_shoots_J67 S_8 a0 r1 r3 r4 r5 (r6 &&& ((1 <<< (r4 &&& 31)) - 1)) (r7 - 1) r2 (r7 - 1))))))))))))))))
set_option maxRecDepth 100000 in
set_option maxHeartbeats 4000000 in
theorem c_L_shoots (l : Launch) (g : GG) (S : St) (a0 : Nat) : Ct l yL_shoots cL_shoots 11 (some .boolean) rm_L_shoots g aW pW [rv g a0] S (f_L_shoots S a0) := by
  refine Ct.mk (cf := cw (0, 0)) (by decide +kernel) (cat_r cat_n) (Nat.le_of_ble_eq_true rfl) rfl ?_
  intro X hXl hin C
  show J X g _ _ 0 [(0, rv g a0)] [] S (f_L_shoots S a0)
  unfold f_L_shoots
  refine J.aload_n (pc := 0) C (x := a0) dL_shoots_0 rfl rfl ?_
  refine J.iconst (pc := 1) C dL_shoots_1 ki_2 ?_
  refine J.vI (pc := 2) C mv_X7_count wm_RL_29 (fun l => c_X7_count l g S a0 2) ⟨⟨Nat.zero_le _, Nat.zero_le _⟩, rfl, rfl⟩ rfl ⟨Nat.le_of_ble_eq_true rfl, Nat.le_of_ble_eq_true rfl⟩ rfl ct_n (Nat.le_of_ble_eq_true rfl) dL_shoots_2 (fun r1 => ?_)
  refine J.istore_n (pc := 5) C (lv' := [(0, rv g a0), (1, .int r1)]) dL_shoots_5 rfl (Nat.le_of_ble_eq_true rfl) (lsf_r lsf_n) rfl ?_
  refine J.aload_n (pc := 6) C (x := a0) dL_shoots_6 rfl rfl ?_
  refine J.iconst (pc := 7) C dL_shoots_7 ki_1 ?_
  refine J.vI (pc := 8) C mv_X7_count wm_RL_29 (fun l => c_X7_count l g S a0 1) ⟨⟨Nat.zero_le _, Nat.zero_le _⟩, rfl, rfl⟩ rfl ⟨Nat.le_of_ble_eq_true rfl, Nat.le_of_ble_eq_true rfl⟩ rfl ct_n (Nat.le_of_ble_eq_true rfl) dL_shoots_8 (fun r2 => ?_)
  refine J.istore_n (pc := 11) C (lv' := [(0, rv g a0), (1, .int r1), (2, .int r2)]) dL_shoots_11 rfl (Nat.le_of_ble_eq_true rfl) (lsf_r (lsf_i lsf_n)) rfl ?_
  refine J.aload_n (pc := 12) C (x := a0) dL_shoots_12 rfl rfl ?_
  refine J.iconst (pc := 13) C dL_shoots_13 ki_4 ?_
  refine J.vI (pc := 14) C mv_X7_count wm_RL_29 (fun l => c_X7_count l g S a0 4) ⟨⟨Nat.zero_le _, Nat.zero_le _⟩, rfl, rfl⟩ rfl ⟨Nat.le_of_ble_eq_true rfl, Nat.le_of_ble_eq_true rfl⟩ rfl ct_n (Nat.le_of_ble_eq_true rfl) dL_shoots_14 (fun r3 => ?_)
  refine J.istore_n (pc := 17) C (lv' := [(0, rv g a0), (1, .int r1), (2, .int r2), (3, .int r3)]) dL_shoots_17 rfl (Nat.le_of_ble_eq_true rfl) (lsf_r (lsf_i (lsf_i lsf_n))) rfl ?_
  refine J.aload_n (pc := 18) C (x := a0) dL_shoots_18 rfl rfl ?_
  refine J.bipush (pc := 19) C dL_shoots_19 kb_10 ?_
  refine J.vI (pc := 21) C mv_X7_count wm_RL_29 (fun l => c_X7_count l g S a0 10) ⟨⟨Nat.zero_le _, Nat.zero_le _⟩, rfl, rfl⟩ rfl ⟨Nat.le_of_ble_eq_true rfl, Nat.le_of_ble_eq_true rfl⟩ rfl ct_n (Nat.le_of_ble_eq_true rfl) dL_shoots_21 (fun r4 => ?_)
  refine J.istore (pc := 24) C (lv' := [(0, rv g a0), (1, .int r1), (2, .int r2), (3, .int r3), (4, .int r4)]) dL_shoots_24 (Nat.le_of_ble_eq_true rfl) (lsf_r (lsf_i (lsf_i (lsf_i lsf_n)))) rfl ?_
  refine J.aload_n (pc := 26) C (x := a0) dL_shoots_26 rfl rfl ?_
  refine J.bipush (pc := 27) C dL_shoots_27 kb_11 ?_
  refine J.vI (pc := 29) C mv_X7_count wm_RL_29 (fun l => c_X7_count l g S a0 11) ⟨⟨Nat.zero_le _, Nat.zero_le _⟩, rfl, rfl⟩ rfl ⟨Nat.le_of_ble_eq_true rfl, Nat.le_of_ble_eq_true rfl⟩ rfl ct_n (Nat.le_of_ble_eq_true rfl) dL_shoots_29 (fun r5 => ?_)
  refine J.istore (pc := 32) C (lv' := [(0, rv g a0), (1, .int r1), (2, .int r2), (3, .int r3), (4, .int r4), (5, .int r5)]) dL_shoots_32 (Nat.le_of_ble_eq_true rfl) (lsf_r (lsf_i (lsf_i (lsf_i (lsf_i lsf_n))))) rfl ?_
  refine J.aload_n (pc := 34) C (x := a0) dL_shoots_34 rfl rfl ?_
  refine J.sI (pc := 35) C ms_L_blinded wm_RL_54 (fun l => c_L_blinded l g S a0) ⟨⟨Nat.zero_le _, Nat.zero_le _⟩, rfl, rfl⟩ rfl ⟨Nat.le_of_ble_eq_true rfl, Nat.le_of_ble_eq_true rfl⟩ rfl ct_n (Nat.le_of_ble_eq_true rfl) dL_shoots_35 (fun r6 => ?_)
  refine J.iconst (pc := 38) C dL_shoots_38 ki_1 ?_
  refine J.iload (pc := 39) C dL_shoots_39 rfl ?_
  refine J.ishl (pc := 41) C dL_shoots_41 ?_
  refine J.iconst (pc := 42) C dL_shoots_42 ki_1 ?_
  refine J.isub (pc := 43) C dL_shoots_43 ?_
  refine J.iand (pc := 44) C dL_shoots_44 ?_
  refine J.istore (pc := 45) C (lv' := [(0, rv g a0), (1, .int r1), (2, .int r2), (3, .int r3), (4, .int r4), (5, .int r5), (6, .int (r6 &&& ((1 <<< (r4 &&& 31)) - 1)))]) dL_shoots_45 (Nat.le_of_ble_eq_true rfl) (lsf_r (lsf_i (lsf_i (lsf_i (lsf_i (lsf_i lsf_n)))))) rfl ?_
  refine J.aload_n (pc := 47) C (x := a0) dL_shoots_47 rfl rfl ?_
  refine J.vW (pc := 48) C mv_X7_shoot wm_RL_58 (fun l => c_X7_shoot l g S a0) ⟨⟨Nat.zero_le _, Nat.zero_le _⟩, rfl, rfl⟩ rfl ⟨Nat.le_of_ble_eq_true rfl, Nat.le_of_ble_eq_true rfl⟩ rfl ct_n (Nat.le_of_ble_eq_true rfl) dL_shoots_48 (fun r7 S_8 => ?_)
  refine J.iconst (pc := 51) C dL_shoots_51 ki_1 ?_
  refine J.isub (pc := 52) C dL_shoots_52 ?_
  refine J.istore (pc := 53) C (lv' := [(0, rv g a0), (1, .int r1), (2, .int r2), (3, .int r3), (4, .int r4), (5, .int r5), (6, .int (r6 &&& ((1 <<< (r4 &&& 31)) - 1))), (7, .int (r7 - 1))]) dL_shoots_53 (Nat.le_of_ble_eq_true rfl) (lsf_r (lsf_i (lsf_i (lsf_i (lsf_i (lsf_i (lsf_i lsf_n))))))) rfl ?_
  refine J.iload (pc := 55) C dL_shoots_55 rfl ?_
  refine J.iload_n (pc := 57) C dL_shoots_57 rfl rfl ?_
  refine J.iconst (pc := 58) C dL_shoots_58 ki_5 ?_
  refine J.icmp_ge (pc := 59) C (tgt := 66) dL_shoots_59 rfl ?_ ?_
  · refine J.iconst (pc := 66) C dL_shoots_66 ki_4 ?_
    exact J.pick [0, 1, 3, 4, 5, 6, 7] rfl (w_L_shoots_J67 C _ _ _ _ _ _ _ _ _ _)
  · refine J.iload_n (pc := 62) C dL_shoots_62 rfl rfl ?_
    refine J.goto (pc := 63) C (tgt := 67) dL_shoots_63 rfl ?_
    exact J.pick [0, 1, 3, 4, 5, 6, 7] rfl (w_L_shoots_J67 C _ _ _ _ _ _ _ _ _ _)
abbrev rm_X5_changeSpeed : Room := { frames := 1, cells := 0, slots := 0, locals := 21 }
def f_X5_changeSpeed (S : St) (a0 : Nat) (a1 : Int32) (a2 : Int32) : Option St :=
  (chk (okc S 5 a0) (bnd (f_X5_positionAt S a0 a2) fun r1 =>
  (chk (okc S 5 a0) (vlt (upI S a0 2 (r1 - (a1 * a2))) fun S_2 =>
  (chk (okc S_2 5 a0) (vlt (upI S_2 a0 3 a1) fun S_3 =>
  (some S_3)))))))
set_option maxRecDepth 100000 in
set_option maxHeartbeats 4000000 in
theorem c_X5_changeSpeed (l : Launch) (g : GG) (S : St) (a0 : Nat) (a1 : Int32) (a2 : Int32) : Ct l yX5_changeSpeed cX5_changeSpeed 3 none rm_X5_changeSpeed g aU pU [rv g a0, .int a1, .int a2] S (f_X5_changeSpeed S a0 a1 a2) := by
  refine Ct.mk (cf := cw (0, 0)) (by decide +kernel) (cat_r (cat_i (cat_i cat_n))) (Nat.le_of_ble_eq_true rfl) rfl ?_
  intro X hXl hin C
  show J X g _ _ 0 [(0, rv g a0), (1, .int a1), (2, .int a2)] [] S (f_X5_changeSpeed S a0 a1 a2)
  unfold f_X5_changeSpeed
  refine J.aload_n (pc := 0) C (x := a0) dX5_changeSpeed_0 rfl rfl ?_
  refine J.aload_n (pc := 1) C (x := a0) dX5_changeSpeed_1 rfl rfl ?_
  refine J.iload_n (pc := 2) C dX5_changeSpeed_2 rfl rfl ?_
  refine J.vI (pc := 3) C mv_X5_positionAt wm_RX5_28 (fun l => c_X5_positionAt l g S a0 a2) ⟨⟨Nat.zero_le _, Nat.zero_le _⟩, rfl, rfl⟩ rfl ⟨Nat.le_of_ble_eq_true rfl, Nat.le_of_ble_eq_true rfl⟩ rfl (ct_r ct_n) (Nat.le_of_ble_eq_true rfl) dX5_changeSpeed_3 (fun r1 => ?_)
  refine J.iload_n (pc := 6) C dX5_changeSpeed_6 rfl rfl ?_
  refine J.iload_n (pc := 7) C dX5_changeSpeed_7 rfl rfl ?_
  refine J.imul (pc := 8) C dX5_changeSpeed_8 ?_
  refine J.isub (pc := 9) C dX5_changeSpeed_9 ?_
  refine J.putIs (pc := 10) C fl_RX5_16 rfl (fun r h => by cases h; rfl) rfl rfl dX5_changeSpeed_10 (fun S_2 => ?_)
  refine J.aload_n (pc := 13) C (x := a0) dX5_changeSpeed_13 rfl rfl ?_
  refine J.iload_n (pc := 14) C dX5_changeSpeed_14 rfl rfl ?_
  refine J.putIs (pc := 15) C fl_RX5_19 rfl (fun r h => by cases h; rfl) rfl rfl dX5_changeSpeed_15 (fun S_3 => ?_)
  exact J.vret (pc := 18) C rfl rfl ⟨Nat.le_refl _, Nat.le_refl _⟩ dX5_changeSpeed_18
abbrev rm_X7_turn : Room := { frames := 4, cells := 0, slots := 0, locals := 88 }
def f_X7_turn (S : St) (a0 : Nat) (a1 : Int32) (a2 : Int32) : Option (Int32 × St) :=
  (chk (okc S 7 a0)
  (chk (okc S 3 (S.2.1 a0 0)) (bnd (f_X3_thingAt S (S.2.1 a0 0) a1) fun r1 =>
  (if r1 = 0 then
  (some ((-10000001), S))
  else (bnd (f_X7_isWithin a2 (-200) 200) fun r2 =>
  (if r2 = 0 then
  (some ((-10000001), S))
  else (chk (okc S 7 a0) (bnd (f_X7_recordState S a0) fun S_3 =>
  (chk (okc S_3 5 r1)
  (chk (okc S_3 7 a0)
  (chk (okc S_3 3 (S_3.2.1 a0 0))
  (chk (okc S_3 5 r1) (bnd (f_X5_changeSpeed S_3 r1 a2 (S_3.1 (S_3.2.1 a0 0) 6)) fun S_4 =>
  (some (S_3.1 r1 3, S_4)))))))))))))))
set_option maxRecDepth 100000 in
set_option maxHeartbeats 4000000 in
theorem c_X7_turn (l : Launch) (g : GG) (S : St) (a0 : Nat) (a1 : Int32) (a2 : Int32) : Ct l yX7_turn cX7_turn 5 (some .int) rm_X7_turn g aW pW [rv g a0, .int a1, .int a2] S (f_X7_turn S a0 a1 a2) := by
  refine Ct.mk (cf := cw (0, 0)) (by decide +kernel) (cat_r (cat_i (cat_i cat_n))) (Nat.le_of_ble_eq_true rfl) rfl ?_
  intro X hXl hin C
  show J X g _ _ 0 [(0, rv g a0), (1, .int a1), (2, .int a2)] [] S (f_X7_turn S a0 a1 a2)
  unfold f_X7_turn
  refine J.aload_n (pc := 0) C (x := a0) dX7_turn_0 rfl rfl ?_
  refine J.getR (pc := 1) C fl_RX7_12 rfl dX7_turn_1 ?_
  refine J.iload_n (pc := 4) C dX7_turn_4 rfl rfl ?_
  refine J.vR (pc := 5) C mv_X3_thingAt wm_RX7_98 (fun l => c_X3_thingAt l g S (S.2.1 a0 0) a1) ⟨⟨Nat.zero_le _, Nat.zero_le _⟩, rfl, rfl⟩ rfl ⟨Nat.le_of_ble_eq_true rfl, Nat.le_of_ble_eq_true rfl⟩ rfl ct_n (Nat.le_of_ble_eq_true rfl) dX7_turn_5 (fun r1 => ?_)
  refine J.astore_n (pc := 8) C (lv' := [(0, rv g a0), (1, .int a1), (2, .int a2), (3, rv g r1)]) dX7_turn_8 rfl (Nat.le_of_ble_eq_true rfl) (lsf_r (lsf_i (lsf_i lsf_n))) rfl ?_
  refine J.aload_n (pc := 9) C (x := r1) dX7_turn_9 rfl rfl ?_
  refine J.ifnull (pc := 10) C (tgt := 26) dX7_turn_10 rfl ?_ ?_
  · refine J.ldc (pc := 26) C wc_RX7_60 dX7_turn_26 ?_
    exact J.iret (pc := 28) C rfl rfl ⟨Nat.le_refl _, Nat.le_refl _⟩ dX7_turn_28
  · refine J.iload_n (pc := 13) C dX7_turn_13 rfl rfl ?_
    refine J.sipush (pc := 14) C dX7_turn_14 ks_m200 ?_
    refine J.sipush (pc := 17) C dX7_turn_17 ks_200 ?_
    refine J.sI (pc := 20) C ms_X7_isWithin wm_RX7_56 (fun l => c_X7_isWithin l g S a2 (-200) 200) ⟨⟨Nat.zero_le _, Nat.zero_le _⟩, rfl, rfl⟩ rfl ⟨Nat.le_of_ble_eq_true rfl, Nat.le_of_ble_eq_true rfl⟩ rfl ct_n (Nat.le_of_ble_eq_true rfl) dX7_turn_20 (fun r2 => ?_)
    refine J.if_ne (pc := 23) C (tgt := 29) dX7_turn_23 rfl ?_ ?_
    · refine J.aload_n (pc := 29) C (x := a0) dX7_turn_29 rfl rfl ?_
      refine J.vU (pc := 30) C mv_X7_recordState wm_RX7_75 (fun l => c_X7_recordState l g S a0) ⟨⟨Nat.zero_le _, Nat.zero_le _⟩, rfl, rfl⟩ rfl ⟨Nat.le_of_ble_eq_true rfl, Nat.le_of_ble_eq_true rfl⟩ rfl ct_n (Nat.le_of_ble_eq_true rfl) dX7_turn_30 (fun S_3 => ?_)
      refine J.aload_n (pc := 33) C (x := r1) dX7_turn_33 rfl rfl ?_
      refine J.getI (pc := 34) C fl_RX7_102 rfl dX7_turn_34 ?_
      refine J.istore (pc := 37) C (lv' := [(0, rv g a0), (1, .int a1), (2, .int a2), (3, rv g r1), (4, .int (S_3.1 r1 3))]) dX7_turn_37 (Nat.le_of_ble_eq_true rfl) (lsf_r (lsf_i (lsf_i (lsf_r lsf_n)))) rfl ?_
      refine J.aload_n (pc := 39) C (x := r1) dX7_turn_39 rfl rfl ?_
      refine J.iload_n (pc := 40) C dX7_turn_40 rfl rfl ?_
      refine J.aload_n (pc := 41) C (x := a0) dX7_turn_41 rfl rfl ?_
      refine J.getR (pc := 42) C fl_RX7_12 rfl dX7_turn_42 ?_
      refine J.getI (pc := 45) C fl_RX7_107 rfl dX7_turn_45 ?_
      refine J.vU (pc := 48) C mv_X5_changeSpeed wm_RX7_110 (fun l => c_X5_changeSpeed l g S_3 r1 a2 (S_3.1 (S_3.2.1 a0 0) 6)) ⟨⟨Nat.zero_le _, Nat.zero_le _⟩, rfl, rfl⟩ rfl ⟨Nat.le_of_ble_eq_true rfl, Nat.le_of_ble_eq_true rfl⟩ rfl ct_n (Nat.le_of_ble_eq_true rfl) dX7_turn_48 (fun S_4 => ?_)
      refine J.iload (pc := 51) C dX7_turn_51 rfl ?_
      exact J.iret (pc := 53) C rfl rfl ⟨Nat.le_refl _, Nat.le_refl _⟩ dX7_turn_53
    · refine J.ldc (pc := 26) C wc_RX7_60 dX7_turn_26 ?_
      exact J.iret (pc := 28) C rfl rfl ⟨Nat.le_refl _, Nat.le_refl _⟩ dX7_turn_28
abbrev rm_L_turns : Room := { frames := 5, cells := 0, slots := 0, locals := 112 }
def f_L_turns_J51 (S : St) (x0 : Nat) (x1 : Int32) (x2 : Int32) (x3 : Int32) (t0 : Int32) : Option (Int32 × St) :=
  (if t0 = 0 then
  (some (0, S))
  else (chk (okc S 7 x0) (bnd (f_X7_thingOf S x0 x1 6) fun r5 =>
  (if r5 = x3 then
  (chk (okc S 7 x0) (bnd (f_X7_thingOf S x0 x1 3) fun r6 =>
  (if r6 = x2 then
  (chk (okc S 7 x0) (bnd (f_X7_thingOf S x0 x1 2) fun r7 =>
  (chk (okc S 7 x0) (bnd (f_X7_count S x0 2) fun r8 =>
  (if r7 = (x3 - (x2 * r8)) then
  (some (1, S))
  else (some (0, S)))))))
  else (some (0, S)))))
  else (some (0, S))))))
set_option maxRecDepth 100000 in
set_option maxHeartbeats 4000000 in
theorem w_L_turns_J51 {X : CT} {g : GG} (C : CX X g cL_turns RL (some .boolean) 6 rm_L_turns) (S : St) (x0 : Nat) (x1 : Int32) (x2 : Int32) (x3 : Int32) (t0 : Int32) : J X g (Qm X g aW pW) (cw (0, 0)) 51 [(0, rv g x0), (1, .int x1), (2, .int x2), (3, .int x3)] [.int t0] S (f_L_turns_J51 S x0 x1 x2 x3 t0) := by
  unfold f_L_turns_J51
  refine J.istore (pc := 51) C (lv' := [(0, rv g x0), (1, .int x1), (2, .int x2), (3, .int x3), (5, .int t0)]) dL_turns_51 (Nat.le_of_ble_eq_true rfl) (lsf_r (lsf_i (lsf_i (lsf_i lsf_n)))) rfl ?_
  refine J.iload (pc := 53) C dL_turns_53 rfl ?_
  refine J.if_eq (pc := 55) C (tgt := 101) dL_turns_55 rfl ?_ ?_
  · refine J.iconst (pc := 101) C dL_turns_101 ki_0 ?_
    exact J.zret (pc := 102) C rfl rfl rfl ⟨Nat.le_refl _, Nat.le_refl _⟩ dL_turns_102
  · refine J.aload_n (pc := 58) C (x := x0) dL_turns_58 rfl rfl ?_
    refine J.iload_n (pc := 59) C dL_turns_59 rfl rfl ?_
    refine J.bipush (pc := 60) C dL_turns_60 kb_6 ?_
    refine J.vI (pc := 62) C mv_X7_thingOf wm_RL_84 (fun l => c_X7_thingOf l g S x0 x1 6) ⟨⟨Nat.zero_le _, Nat.zero_le _⟩, rfl, rfl⟩ rfl ⟨Nat.le_of_ble_eq_true rfl, Nat.le_of_ble_eq_true rfl⟩ rfl ct_n (Nat.le_of_ble_eq_true rfl) dL_turns_62 (fun r5 => ?_)
    refine J.iload_n (pc := 65) C dL_turns_65 rfl rfl ?_
    refine J.icmp_ne (pc := 66) C (tgt := 101) dL_turns_66 rfl ?_ ?_
    · refine J.iconst (pc := 101) C dL_turns_101 ki_0 ?_
      exact J.zret (pc := 102) C rfl rfl rfl ⟨Nat.le_refl _, Nat.le_refl _⟩ dL_turns_102
    · refine J.aload_n (pc := 69) C (x := x0) dL_turns_69 rfl rfl ?_
      refine J.iload_n (pc := 70) C dL_turns_70 rfl rfl ?_
      refine J.iconst (pc := 71) C dL_turns_71 ki_3 ?_
      refine J.vI (pc := 72) C mv_X7_thingOf wm_RL_84 (fun l => c_X7_thingOf l g S x0 x1 3) ⟨⟨Nat.zero_le _, Nat.zero_le _⟩, rfl, rfl⟩ rfl ⟨Nat.le_of_ble_eq_true rfl, Nat.le_of_ble_eq_true rfl⟩ rfl ct_n (Nat.le_of_ble_eq_true rfl) dL_turns_72 (fun r6 => ?_)
      refine J.iload_n (pc := 75) C dL_turns_75 rfl rfl ?_
      refine J.icmp_ne (pc := 76) C (tgt := 101) dL_turns_76 rfl ?_ ?_
      · refine J.iconst (pc := 101) C dL_turns_101 ki_0 ?_
        exact J.zret (pc := 102) C rfl rfl rfl ⟨Nat.le_refl _, Nat.le_refl _⟩ dL_turns_102
      · refine J.aload_n (pc := 79) C (x := x0) dL_turns_79 rfl rfl ?_
        refine J.iload_n (pc := 80) C dL_turns_80 rfl rfl ?_
        refine J.iconst (pc := 81) C dL_turns_81 ki_2 ?_
        refine J.vI (pc := 82) C mv_X7_thingOf wm_RL_84 (fun l => c_X7_thingOf l g S x0 x1 2) ⟨⟨Nat.zero_le _, Nat.zero_le _⟩, rfl, rfl⟩ rfl ⟨Nat.le_of_ble_eq_true rfl, Nat.le_of_ble_eq_true rfl⟩ rfl ct_n (Nat.le_of_ble_eq_true rfl) dL_turns_82 (fun r7 => ?_)
        refine J.iload_n (pc := 85) C dL_turns_85 rfl rfl ?_
        refine J.iload_n (pc := 86) C dL_turns_86 rfl rfl ?_
        refine J.aload_n (pc := 87) C (x := x0) dL_turns_87 rfl rfl ?_
        refine J.iconst (pc := 88) C dL_turns_88 ki_2 ?_
        refine J.vI (pc := 89) C mv_X7_count wm_RL_29 (fun l => c_X7_count l g S x0 2) ⟨⟨Nat.zero_le _, Nat.zero_le _⟩, rfl, rfl⟩ rfl ⟨Nat.le_of_ble_eq_true rfl, Nat.le_of_ble_eq_true rfl⟩ rfl (ct_i (ct_i (ct_i ct_n))) (Nat.le_of_ble_eq_true rfl) dL_turns_89 (fun r8 => ?_)
        refine J.imul (pc := 92) C dL_turns_92 ?_
        refine J.isub (pc := 93) C dL_turns_93 ?_
        refine J.icmp_ne (pc := 94) C (tgt := 101) dL_turns_94 rfl ?_ ?_
        · refine J.iconst (pc := 101) C dL_turns_101 ki_0 ?_
          exact J.zret (pc := 102) C rfl rfl rfl ⟨Nat.le_refl _, Nat.le_refl _⟩ dL_turns_102
        · refine J.iconst (pc := 97) C dL_turns_97 ki_1 ?_
          refine J.goto (pc := 98) C (tgt := 102) dL_turns_98 rfl ?_
          exact J.zret (pc := 102) C rfl rfl rfl ⟨Nat.le_refl _, Nat.le_refl _⟩ dL_turns_102
def f_L_turns_J50 (S : St) (x0 : Nat) (x1 : Int32) (x2 : Int32) (x3 : Int32) : Option (Int32 × St) :=
  (f_L_turns_J51 S x0 x1 x2 x3 0)
set_option maxRecDepth 100000 in
set_option maxHeartbeats 4000000 in
theorem w_L_turns_J50 {X : CT} {g : GG} (C : CX X g cL_turns RL (some .boolean) 6 rm_L_turns) (S : St) (x0 : Nat) (x1 : Int32) (x2 : Int32) (x3 : Int32) : J X g (Qm X g aW pW) (cw (0, 0)) 50 [(0, rv g x0), (1, .int x1), (2, .int x2), (3, .int x3)] [] S (f_L_turns_J50 S x0 x1 x2 x3) := by
  unfold f_L_turns_J50
  refine J.iconst (pc := 50) C dL_turns_50 ki_0 ?_
  exact (w_L_turns_J51 C _ _ _ _ _ _)
def f_L_turns (S : St) (a0 : Nat) (a1 : Int32) (a2 : Int32) : Option (Int32 × St) :=
  (chk (okc S 7 a0) (bnd (f_X7_thingOf S a0 a1 6) fun r1 =>
  (chk (okc S 7 a0) (bnd (f_X7_thingOf S a0 a1 3) fun r2 =>
  (chk (okc S 7 a0) (bnd (f_X7_thingOf S a0 a1 2) fun r3 =>
  (chk (okc S 7 a0) (bnd (f_X7_count S a0 2) fun r4 =>
  (if r1 = (r3 + (r2 * r4)) then
  (chk (okc S 7 a0) (bnd2 (f_X7_turn S a0 a1 a2) fun r9 S_10 =>
  (if r9 = r2 then
  (f_L_turns_J51 S_10 a0 a1 a2 r1 1)
  else (f_L_turns_J50 S_10 a0 a1 a2 r1))))
  else (f_L_turns_J50 S a0 a1 a2 r1))))))))))
set_option maxRecDepth 100000 in
set_option maxHeartbeats 4000000 in
theorem c_L_turns (l : Launch) (g : GG) (S : St) (a0 : Nat) (a1 : Int32) (a2 : Int32) : Ct l yL_turns cL_turns 6 (some .boolean) rm_L_turns g aW pW [rv g a0, .int a1, .int a2] S (f_L_turns S a0 a1 a2) := by
  refine Ct.mk (cf := cw (0, 0)) (by decide +kernel) (cat_r (cat_i (cat_i cat_n))) (Nat.le_of_ble_eq_true rfl) rfl ?_
  intro X hXl hin C
  show J X g _ _ 0 [(0, rv g a0), (1, .int a1), (2, .int a2)] [] S (f_L_turns S a0 a1 a2)
  unfold f_L_turns
  refine J.aload_n (pc := 0) C (x := a0) dL_turns_0 rfl rfl ?_
  refine J.iload_n (pc := 1) C dL_turns_1 rfl rfl ?_
  refine J.bipush (pc := 2) C dL_turns_2 kb_6 ?_
  refine J.vI (pc := 4) C mv_X7_thingOf wm_RL_84 (fun l => c_X7_thingOf l g S a0 a1 6) ⟨⟨Nat.zero_le _, Nat.zero_le _⟩, rfl, rfl⟩ rfl ⟨Nat.le_of_ble_eq_true rfl, Nat.le_of_ble_eq_true rfl⟩ rfl ct_n (Nat.le_of_ble_eq_true rfl) dL_turns_4 (fun r1 => ?_)
  refine J.istore_n (pc := 7) C (lv' := [(0, rv g a0), (1, .int a1), (2, .int a2), (3, .int r1)]) dL_turns_7 rfl (Nat.le_of_ble_eq_true rfl) (lsf_r (lsf_i (lsf_i lsf_n))) rfl ?_
  refine J.aload_n (pc := 8) C (x := a0) dL_turns_8 rfl rfl ?_
  refine J.iload_n (pc := 9) C dL_turns_9 rfl rfl ?_
  refine J.iconst (pc := 10) C dL_turns_10 ki_3 ?_
  refine J.vI (pc := 11) C mv_X7_thingOf wm_RL_84 (fun l => c_X7_thingOf l g S a0 a1 3) ⟨⟨Nat.zero_le _, Nat.zero_le _⟩, rfl, rfl⟩ rfl ⟨Nat.le_of_ble_eq_true rfl, Nat.le_of_ble_eq_true rfl⟩ rfl ct_n (Nat.le_of_ble_eq_true rfl) dL_turns_11 (fun r2 => ?_)
  refine J.istore (pc := 14) C (lv' := [(0, rv g a0), (1, .int a1), (2, .int a2), (3, .int r1), (4, .int r2)]) dL_turns_14 (Nat.le_of_ble_eq_true rfl) (lsf_r (lsf_i (lsf_i (lsf_i lsf_n)))) rfl ?_
  refine J.iload_n (pc := 16) C dL_turns_16 rfl rfl ?_
  refine J.aload_n (pc := 17) C (x := a0) dL_turns_17 rfl rfl ?_
  refine J.iload_n (pc := 18) C dL_turns_18 rfl rfl ?_
  refine J.iconst (pc := 19) C dL_turns_19 ki_2 ?_
  refine J.vI (pc := 20) C mv_X7_thingOf wm_RL_84 (fun l => c_X7_thingOf l g S a0 a1 2) ⟨⟨Nat.zero_le _, Nat.zero_le _⟩, rfl, rfl⟩ rfl ⟨Nat.le_of_ble_eq_true rfl, Nat.le_of_ble_eq_true rfl⟩ rfl (ct_i ct_n) (Nat.le_of_ble_eq_true rfl) dL_turns_20 (fun r3 => ?_)
  refine J.iload (pc := 23) C dL_turns_23 rfl ?_
  refine J.aload_n (pc := 25) C (x := a0) dL_turns_25 rfl rfl ?_
  refine J.iconst (pc := 26) C dL_turns_26 ki_2 ?_
  refine J.vI (pc := 27) C mv_X7_count wm_RL_29 (fun l => c_X7_count l g S a0 2) ⟨⟨Nat.zero_le _, Nat.zero_le _⟩, rfl, rfl⟩ rfl ⟨Nat.le_of_ble_eq_true rfl, Nat.le_of_ble_eq_true rfl⟩ rfl (ct_i (ct_i (ct_i ct_n))) (Nat.le_of_ble_eq_true rfl) dL_turns_27 (fun r4 => ?_)
  refine J.imul (pc := 30) C dL_turns_30 ?_
  refine J.iadd (pc := 31) C dL_turns_31 ?_
  refine J.icmp_ne (pc := 32) C (tgt := 50) dL_turns_32 rfl ?_ ?_
  · exact J.pick [0, 1, 2, 3] rfl (w_L_turns_J50 C _ _ _ _ _)
  · refine J.aload_n (pc := 35) C (x := a0) dL_turns_35 rfl rfl ?_
    refine J.iload_n (pc := 36) C dL_turns_36 rfl rfl ?_
    refine J.iload_n (pc := 37) C dL_turns_37 rfl rfl ?_
    refine J.vW (pc := 38) C mv_X7_turn wm_RL_87 (fun l => c_X7_turn l g S a0 a1 a2) ⟨⟨Nat.zero_le _, Nat.zero_le _⟩, rfl, rfl⟩ rfl ⟨Nat.le_of_ble_eq_true rfl, Nat.le_of_ble_eq_true rfl⟩ rfl ct_n (Nat.le_of_ble_eq_true rfl) dL_turns_38 (fun r9 S_10 => ?_)
    refine J.iload (pc := 41) C dL_turns_41 rfl ?_
    refine J.icmp_ne (pc := 43) C (tgt := 50) dL_turns_43 rfl ?_ ?_
    · exact J.pick [0, 1, 2, 3] rfl (w_L_turns_J50 C _ _ _ _ _)
    · refine J.iconst (pc := 46) C dL_turns_46 ki_1 ?_
      refine J.goto (pc := 47) C (tgt := 51) dL_turns_47 rfl ?_
      exact J.pick [0, 1, 2, 3] rfl (w_L_turns_J51 C _ _ _ _ _ _)
abbrev rm_X0_init : Room := { frames := 1, cells := 1, slots := 160, locals := 20 }
def f_X0_init (S : St) (a0 : Nat) : Option St :=
  (chk (¬ a0 = 0)
  (chk ((kd S.2.2 = 10 ∧ ln S.2.2 = 160) ∧ nok S.2.2 1 160 S.2.2 160) (vlt (newS S) fun S_1 =>
  (chk (okc S_1 0 a0) (vlt (upR S_1 a0 2 S.2.2) fun S_2 =>
  (chk (rok S.2.2 1 160 S_2.2.2) (some S_2)))))))
set_option maxRecDepth 100000 in
set_option maxHeartbeats 4000000 in
theorem c_X0_init (l : Launch) (g : GG) (S : St) (a0 : Nat) : Ct l yX0_init cX0_init 1 none rm_X0_init g aU pU [rv g a0] S (f_X0_init S a0) := by
  refine Ct.mk (cf := cfC S.2.2) (by decide +kernel) (cat_r cat_n) (Nat.le_of_ble_eq_true rfl) (cfC_0 _) ?_
  intro X hXl hin C
  show J X g _ _ 0 [(0, rv g a0)] [] S (f_X0_init S a0)
  have hin : X.2.2.2.2.2.2.2.2.1.name = "<init>" := hin
  unfold f_X0_init
  refine J.aload_n (pc := 0) C (x := a0) dX0_init_0 rfl rfl ?_
  refine J.objInit (pc := 1) C wm_RX0_3 w_oi w_oc cat_n ⟨Nat.le_of_ble_eq_true rfl, Nat.le_of_ble_eq_true rfl⟩ dX0_init_1 ?_
  refine J.aload_n (pc := 4) C (x := a0) dX0_init_4 rfl rfl ?_
  refine J.sipush (pc := 5) C dX0_init_5 ks_160 ?_
  refine J.newa (atype := .int) (ty := .int) (n := 160) (c := 10) (N := 160) C rfl ⟨by decide, by decide, rfl, fun _ => rfl, (fun D h => by cases h), rfl⟩ wa_int (by decide) (by decide) (by decide) dX0_init_8 (fun S_1 _ => ?_)
  refine J.putRs (pc := 10) C fl_RX0_9 rfl (fun r h => by cases h; exact ⟨rfl, rfl⟩) hin nar_ra fit_ra dX0_init_10 (fun S_2 => ?_)
  refine J.ck (fun hr => ?_)
  exact J.vret (pc := 13) C rfl rfl (rok_le hr) dX0_init_13
abbrev rm_X1_init : Room := { frames := 1, cells := 5, slots := 182, locals := 20 }
def f_X1_init (S : St) (a0 : Nat) : Option St :=
  (chk (¬ a0 = 0)
  (chk ((kd S.2.2 = 10 ∧ ln S.2.2 = 50) ∧ nok S.2.2 5 182 S.2.2 50) (vlt (newS S) fun S_1 =>
  (chk (okc S_1 1 a0) (vlt (upR S_1 a0 0 S.2.2) fun S_2 =>
  (chk ((kd S_2.2.2 = 10 ∧ ln S_2.2.2 = 50) ∧ nok S.2.2 5 182 S_2.2.2 50) (vlt (newS S_2) fun S_3 =>
  (chk (okc S_3 1 a0) (vlt (upR S_3 a0 1 S_2.2.2) fun S_4 =>
  (chk ((kd S_4.2.2 = 10 ∧ ln S_4.2.2 = 50) ∧ nok S.2.2 5 182 S_4.2.2 50) (vlt (newS S_4) fun S_5 =>
  (chk (okc S_5 1 a0) (vlt (upR S_5 a0 2 S_4.2.2) fun S_6 =>
  (chk ((kd S_6.2.2 = 10 ∧ ln S_6.2.2 = 16) ∧ nok S.2.2 5 182 S_6.2.2 16) (vlt (newS S_6) fun S_7 =>
  (chk (okc S_7 1 a0) (vlt (upR S_7 a0 4 S_6.2.2) fun S_8 =>
  (chk ((kd S_8.2.2 = 10 ∧ ln S_8.2.2 = 16) ∧ nok S.2.2 5 182 S_8.2.2 16) (vlt (newS S_8) fun S_9 =>
  (chk (okc S_9 1 a0) (vlt (upR S_9 a0 5 S_8.2.2) fun S_10 =>
  (chk (rok S.2.2 5 182 S_10.2.2) (some S_10)))))))))))))))))))))))
set_option maxRecDepth 100000 in
set_option maxHeartbeats 4000000 in
theorem c_X1_init (l : Launch) (g : GG) (S : St) (a0 : Nat) : Ct l yX1_init cX1_init 1 none rm_X1_init g aU pU [rv g a0] S (f_X1_init S a0) := by
  refine Ct.mk (cf := cfC S.2.2) (by decide +kernel) (cat_r cat_n) (Nat.le_of_ble_eq_true rfl) (cfC_0 _) ?_
  intro X hXl hin C
  show J X g _ _ 0 [(0, rv g a0)] [] S (f_X1_init S a0)
  have hin : X.2.2.2.2.2.2.2.2.1.name = "<init>" := hin
  unfold f_X1_init
  refine J.aload_n (pc := 0) C (x := a0) dX1_init_0 rfl rfl ?_
  refine J.objInit (pc := 1) C wm_RX1_3 w_oi w_oc cat_n ⟨Nat.le_of_ble_eq_true rfl, Nat.le_of_ble_eq_true rfl⟩ dX1_init_1 ?_
  refine J.aload_n (pc := 4) C (x := a0) dX1_init_4 rfl rfl ?_
  refine J.bipush (pc := 5) C dX1_init_5 kb_50 ?_
  refine J.newa (atype := .int) (ty := .int) (n := 50) (c := 10) (N := 50) C rfl ⟨by decide, by decide, rfl, fun _ => rfl, (fun D h => by cases h), rfl⟩ wa_int (by decide) (by decide) (by decide) dX1_init_7 (fun S_1 _ => ?_)
  refine J.putRs (pc := 9) C fl_RX1_9 rfl (fun r h => by cases h; exact ⟨rfl, rfl⟩) hin nar_ra fit_ra dX1_init_9 (fun S_2 => ?_)
  refine J.aload_n (pc := 12) C (x := a0) dX1_init_12 rfl rfl ?_
  refine J.bipush (pc := 13) C dX1_init_13 kb_50 ?_
  refine J.newa (atype := .int) (ty := .int) (n := 50) (c := 10) (N := 50) C rfl ⟨by decide, by decide, rfl, fun _ => rfl, (fun D h => by cases h), rfl⟩ wa_int (by decide) (by decide) (by decide) dX1_init_15 (fun S_3 _ => ?_)
  refine J.putRs (pc := 17) C fl_RX1_15 rfl (fun r h => by cases h; exact ⟨rfl, rfl⟩) hin nar_ra fit_ra dX1_init_17 (fun S_4 => ?_)
  refine J.aload_n (pc := 20) C (x := a0) dX1_init_20 rfl rfl ?_
  refine J.bipush (pc := 21) C dX1_init_21 kb_50 ?_
  refine J.newa (atype := .int) (ty := .int) (n := 50) (c := 10) (N := 50) C rfl ⟨by decide, by decide, rfl, fun _ => rfl, (fun D h => by cases h), rfl⟩ wa_int (by decide) (by decide) (by decide) dX1_init_23 (fun S_5 _ => ?_)
  refine J.putRs (pc := 25) C fl_RX1_18 rfl (fun r h => by cases h; exact ⟨rfl, rfl⟩) hin nar_ra fit_ra dX1_init_25 (fun S_6 => ?_)
  refine J.aload_n (pc := 28) C (x := a0) dX1_init_28 rfl rfl ?_
  refine J.bipush (pc := 29) C dX1_init_29 kb_16 ?_
  refine J.newa (atype := .int) (ty := .int) (n := 16) (c := 10) (N := 16) C rfl ⟨by decide, by decide, rfl, fun _ => rfl, (fun D h => by cases h), rfl⟩ wa_int (by decide) (by decide) (by decide) dX1_init_31 (fun S_7 _ => ?_)
  refine J.putRs (pc := 33) C fl_RX1_21 rfl (fun r h => by cases h; exact ⟨rfl, rfl⟩) hin nar_ra fit_ra dX1_init_33 (fun S_8 => ?_)
  refine J.aload_n (pc := 36) C (x := a0) dX1_init_36 rfl rfl ?_
  refine J.bipush (pc := 37) C dX1_init_37 kb_16 ?_
  refine J.newa (atype := .int) (ty := .int) (n := 16) (c := 10) (N := 16) C rfl ⟨by decide, by decide, rfl, fun _ => rfl, (fun D h => by cases h), rfl⟩ wa_int (by decide) (by decide) (by decide) dX1_init_39 (fun S_9 _ => ?_)
  refine J.putRs (pc := 41) C fl_RX1_24 rfl (fun r h => by cases h; exact ⟨rfl, rfl⟩) hin nar_ra fit_ra dX1_init_41 (fun S_10 => ?_)
  refine J.ck (fun hr => ?_)
  exact J.vret (pc := 44) C rfl rfl (rok_le hr) dX1_init_44
abbrev rm_X5_init : Room := { frames := 1, cells := 0, slots := 0, locals := 20 }
def f_X5_init (S : St) (a0 : Nat) : Option St :=
  (chk (¬ a0 = 0)
  (chk (rok S.2.2 0 0 S.2.2) (some S)))
set_option maxRecDepth 100000 in
set_option maxHeartbeats 4000000 in
theorem c_X5_init (l : Launch) (g : GG) (S : St) (a0 : Nat) : Ct l yX5_init cX5_init 1 none rm_X5_init g aU pU [rv g a0] S (f_X5_init S a0) := by
  refine Ct.mk (cf := cfC S.2.2) (by decide +kernel) (cat_r cat_n) (Nat.le_of_ble_eq_true rfl) (cfC_0 _) ?_
  intro X hXl hin C
  show J X g _ _ 0 [(0, rv g a0)] [] S (f_X5_init S a0)
  have hin : X.2.2.2.2.2.2.2.2.1.name = "<init>" := hin
  unfold f_X5_init
  refine J.aload_n (pc := 0) C (x := a0) dX5_init_0 rfl rfl ?_
  refine J.objInit (pc := 1) C wm_RX5_1 w_oi w_oc cat_n ⟨Nat.le_of_ble_eq_true rfl, Nat.le_of_ble_eq_true rfl⟩ dX5_init_1 ?_
  refine J.ck (fun hr => ?_)
  exact J.vret (pc := 4) C rfl rfl (rok_le hr) dX5_init_4
abbrev rm_X3_init : Room := { frames := 2, cells := 19, slots := 876, locals := 40 }
def f_X3_init_B46 (n0 : Nat) (a0 : Nat) (kx46 : St → Option St) (k46 : St → Int32 → Option St) (S : St) (x1 : Int32) : Option St :=
  (chk (okc S 3 a0)
  (chk (okc S 10 (S.2.1 a0 0))
  (if (Int32.ofNat (ln (S.2.1 a0 0))) ≤ x1 then
  (kx46 S)
  else (chk (okc S 3 a0)
  (chk (rok n0 19 876 S.2.2) (bnd (f_X7_numberIn S 3 x1) fun r11 =>
  (chk (inw S 10 (S.2.1 a0 0) x1) (vlt (upI S (S.2.1 a0 0) x1.toNatClampNeg r11) fun S_12 =>
  (k46 S_12 (x1 + 1))))))))))
set_option maxRecDepth 100000 in
set_option maxHeartbeats 4000000 in
theorem w_X3_init_B46 {X : CT} {g : GG} (n0 : Nat) (hin : X.2.2.2.2.2.2.2.2.1.name = "<init>") (C : CX X g cX3_init RX3 none 2 rm_X3_init) (a0 : Nat) (kx46 : St → Option St) (hkx46 : ∀ (S : St), J X g (Qm X g aU pU) (cfC n0) 74 [(0, rv g a0)] [] S (kx46 S)) : ∀ (n : Nat) (S : St) (x1 : Int32), J X g (Qm X g aU pU) (cfC n0) 46 [(0, rv g a0), (1, .int x1)] [] S (wl2 (f_X3_init_B46 n0 a0 kx46) n S x1) := by
  refine J.loop2 (lvf := fun (S : St) (x1 : Int32) => [(0, rv g a0), (1, .int x1)]) (Sf := fun (S : St) (x1 : Int32) => S) ?_
  intro k46 hk46 S x1
  show J X g _ _ 46 [(0, rv g a0), (1, .int x1)] [] S (f_X3_init_B46 n0 a0 kx46 k46 S x1)
  unfold f_X3_init_B46
  refine J.iload_n (pc := 46) C dX3_init_46 rfl rfl ?_
  refine J.aload_n (pc := 47) C (x := a0) dX3_init_47 rfl rfl ?_
  refine J.getR (pc := 48) C fl_RX3_9 rfl dX3_init_48 ?_
  refine J.alen (pc := 51) C 10 (by decide) dX3_init_51 ?_
  refine J.icmp_ge (pc := 52) C (tgt := 74) dX3_init_52 rfl ?_ ?_
  · exact J.pick [0] rfl (hkx46 _)
  · refine J.aload_n (pc := 55) C (x := a0) dX3_init_55 rfl rfl ?_
    refine J.getR (pc := 56) C fl_RX3_9 rfl dX3_init_56 ?_
    refine J.iload_n (pc := 59) C dX3_init_59 rfl rfl ?_
    refine J.getsN (pc := 60) C 3 (by decide) ws_RX3_33 dX3_init_60 ?_
    refine J.iload_n (pc := 63) C dX3_init_63 rfl rfl ?_
    refine J.snIc (pc := 64) C ms_X7_numberIn wn_RX3_36 (fun l => c_X7_numberIn l g S 3 x1) ⟨Nat.le_of_ble_eq_true rfl, Nat.le_of_ble_eq_true rfl⟩ rfl rfl (ct_i (ct_r ct_n)) (Nat.le_of_ble_eq_true rfl) dX3_init_64 (fun r11 => ?_)
    refine J.iasts (pc := 67) C dX3_init_67 (fun S_12 => ?_)
    refine J.iinc (pc := 68) C (lv' := [(0, rv g a0), (1, .int (x1 + 1))]) dX3_init_68 rfl (Nat.le_of_ble_eq_true rfl) (lsf_r (lsf_i lsf_n)) ki_1 rfl ?_
    refine J.goto (pc := 71) C (tgt := 46) dX3_init_71 rfl ?_
    exact (hk46 _ _)
def f_X3_init_B76 (n0 : Nat) (a0 : Nat) (kx76 : St → Option St) (k76 : St → Int32 → Option St) (S : St) (x1 : Int32) : Option St :=
  (chk (okc S 3 a0)
  (chk (okc S 14 (S.2.1 a0 1))
  (if (Int32.ofNat (ln (S.2.1 a0 1))) ≤ x1 then
  (kx76 S)
  else (chk (okc S 3 a0)
  (chk (kd S.2.2 = 5 ∧ nok n0 19 876 S.2.2 6) (vlt (newS S) fun S_14 =>
  (chk (okc S_14 5 S.2.2) (chk (rok2 n0 19 876 0 0 S_14.2.2) (bnd (f_X5_init S_14 S.2.2) fun S_15 =>
  (chk (S_15.2.2 = S_14.2.2 + 0 ∧ slT S_15.2.2 = slT S_14.2.2 + 0)
  (chk (inw S_15 14 (S.2.1 a0 1) x1 ∧ okc S_15 5 S.2.2) (vlt (upR S_15 (S.2.1 a0 1) x1.toNatClampNeg S.2.2) fun S_16 =>
  (k76 S_16 (x1 + 1))))))))))))))
set_option maxRecDepth 100000 in
set_option maxHeartbeats 4000000 in
theorem w_X3_init_B76 {X : CT} {g : GG} (n0 : Nat) (hin : X.2.2.2.2.2.2.2.2.1.name = "<init>") (C : CX X g cX3_init RX3 none 2 rm_X3_init) (a0 : Nat) (kx76 : St → Option St) (hkx76 : ∀ (S : St), J X g (Qm X g aU pU) (cfC n0) 104 [(0, rv g a0)] [] S (kx76 S)) : ∀ (n : Nat) (S : St) (x1 : Int32), J X g (Qm X g aU pU) (cfC n0) 76 [(0, rv g a0), (1, .int x1)] [] S (wl2 (f_X3_init_B76 n0 a0 kx76) n S x1) := by
  refine J.loop2 (lvf := fun (S : St) (x1 : Int32) => [(0, rv g a0), (1, .int x1)]) (Sf := fun (S : St) (x1 : Int32) => S) ?_
  intro k76 hk76 S x1
  show J X g _ _ 76 [(0, rv g a0), (1, .int x1)] [] S (f_X3_init_B76 n0 a0 kx76 k76 S x1)
  unfold f_X3_init_B76
  refine J.iload_n (pc := 76) C dX3_init_76 rfl rfl ?_
  refine J.aload_n (pc := 77) C (x := a0) dX3_init_77 rfl rfl ?_
  refine J.getR (pc := 78) C fl_RX3_17 rfl dX3_init_78 ?_
  refine J.alen (pc := 81) C 14 (by decide) dX3_init_81 ?_
  refine J.icmp_ge (pc := 82) C (tgt := 104) dX3_init_82 rfl ?_ ?_
  · exact J.pick [0] rfl (hkx76 _)
  · refine J.aload_n (pc := 85) C (x := a0) dX3_init_85 rfl rfl ?_
    refine J.getR (pc := 86) C fl_RX3_17 rfl dX3_init_86 ?_
    refine J.iload_n (pc := 89) C dX3_init_89 rfl rfl ?_
    refine J.new (ci := 5) (N := 6) C rfl rfl wl_RX3_15 wi_X5 wz_RX5 dX3_init_90 (fun S_14 _ => ?_)
    refine J.dup (pc := 93) C dX3_init_93 (rv_cat g _) ?_
    refine J.ctorN (pc := 94) C mi_X5_init wn_RX3_40 (fun l => c_X5_init l g S_14 S.2.2) ⟨Nat.le_of_ble_eq_true rfl, Nat.le_of_ble_eq_true rfl⟩ rfl rfl (ct_r (ct_i (ct_r ct_n))) (Nat.le_of_ble_eq_true rfl) dX3_init_94 (fun S_15 => ?_)
    refine J.aasts (pc := 97) C 14 5 (by decide) (fun _ => rfl) rfl rfl dX3_init_97 (fun S_16 => ?_)
    refine J.iinc (pc := 98) C (lv' := [(0, rv g a0), (1, .int (x1 + 1))]) dX3_init_98 rfl (Nat.le_of_ble_eq_true rfl) (lsf_r (lsf_i lsf_n)) ki_1 rfl ?_
    refine J.goto (pc := 101) C (tgt := 76) dX3_init_101 rfl ?_
    exact (hk76 _ _)
def f_X3_init_B106 (n0 : Nat) (a0 : Nat) (kx106 : St → Option St) (k106 : St → Int32 → Option St) (S : St) (x1 : Int32) : Option St :=
  (chk (okc S 3 a0)
  (chk (okc S 12 (S.2.1 a0 3))
  (if (Int32.ofNat (ln (S.2.1 a0 3))) ≤ x1 then
  (kx106 S)
  else (chk (okc S 3 a0)
  (chk (kd S.2.2 = 0 ∧ nok n0 19 876 S.2.2 3) (vlt (newS S) fun S_18 =>
  (chk (okc S_18 0 S.2.2) (chk (rok2 n0 19 876 1 160 S_18.2.2) (bnd (f_X0_init S_18 S.2.2) fun S_19 =>
  (chk (S_19.2.2 = S_18.2.2 + 1 ∧ slT S_19.2.2 = slT S_18.2.2 + 160)
  (chk (inw S_19 12 (S.2.1 a0 3) x1 ∧ okc S_19 0 S.2.2) (vlt (upR S_19 (S.2.1 a0 3) x1.toNatClampNeg S.2.2) fun S_20 =>
  (k106 S_20 (x1 + 1))))))))))))))
set_option maxRecDepth 100000 in
set_option maxHeartbeats 4000000 in
theorem w_X3_init_B106 {X : CT} {g : GG} (n0 : Nat) (hin : X.2.2.2.2.2.2.2.2.1.name = "<init>") (C : CX X g cX3_init RX3 none 2 rm_X3_init) (a0 : Nat) (kx106 : St → Option St) (hkx106 : ∀ (S : St), J X g (Qm X g aU pU) (cfC n0) 134 [] [] S (kx106 S)) : ∀ (n : Nat) (S : St) (x1 : Int32), J X g (Qm X g aU pU) (cfC n0) 106 [(0, rv g a0), (1, .int x1)] [] S (wl2 (f_X3_init_B106 n0 a0 kx106) n S x1) := by
  refine J.loop2 (lvf := fun (S : St) (x1 : Int32) => [(0, rv g a0), (1, .int x1)]) (Sf := fun (S : St) (x1 : Int32) => S) ?_
  intro k106 hk106 S x1
  show J X g _ _ 106 [(0, rv g a0), (1, .int x1)] [] S (f_X3_init_B106 n0 a0 kx106 k106 S x1)
  unfold f_X3_init_B106
  refine J.iload_n (pc := 106) C dX3_init_106 rfl rfl ?_
  refine J.aload_n (pc := 107) C (x := a0) dX3_init_107 rfl rfl ?_
  refine J.getR (pc := 108) C fl_RX3_23 rfl dX3_init_108 ?_
  refine J.alen (pc := 111) C 12 (by decide) dX3_init_111 ?_
  refine J.icmp_ge (pc := 112) C (tgt := 134) dX3_init_112 rfl ?_ ?_
  · exact J.pick [] rfl (hkx106 _)
  · refine J.aload_n (pc := 115) C (x := a0) dX3_init_115 rfl rfl ?_
    refine J.getR (pc := 116) C fl_RX3_23 rfl dX3_init_116 ?_
    refine J.iload_n (pc := 119) C dX3_init_119 rfl rfl ?_
    refine J.new (ci := 0) (N := 3) C rfl rfl wl_RX3_21 wi_X0 wz_RX0 dX3_init_120 (fun S_18 _ => ?_)
    refine J.dup (pc := 123) C dX3_init_123 (rv_cat g _) ?_
    refine J.ctorN (pc := 124) C mi_X0_init wn_RX3_41 (fun l => c_X0_init l g S_18 S.2.2) ⟨Nat.le_of_ble_eq_true rfl, Nat.le_of_ble_eq_true rfl⟩ rfl rfl (ct_r (ct_i (ct_r ct_n))) (Nat.le_of_ble_eq_true rfl) dX3_init_124 (fun S_19 => ?_)
    refine J.aasts (pc := 127) C 12 0 (by decide) (fun _ => rfl) rfl rfl dX3_init_127 (fun S_20 => ?_)
    refine J.iinc (pc := 128) C (lv' := [(0, rv g a0), (1, .int (x1 + 1))]) dX3_init_128 rfl (Nat.le_of_ble_eq_true rfl) (lsf_r (lsf_i lsf_n)) ki_1 rfl ?_
    refine J.goto (pc := 131) C (tgt := 106) dX3_init_131 rfl ?_
    exact (hk106 _ _)
def f_X3_init (S : St) (a0 : Nat) : Option St :=
  (chk (¬ a0 = 0)
  (chk ((kd S.2.2 = 10 ∧ ln S.2.2 = 8) ∧ nok S.2.2 19 876 S.2.2 8) (vlt (newS S) fun S_1 =>
  (chk (okc S_1 3 a0) (vlt (upR S_1 a0 0 S.2.2) fun S_2 =>
  (chk ((kd S_2.2.2 = 14 ∧ ln S_2.2.2 = 4) ∧ nok S.2.2 19 876 S_2.2.2 4) (vlt (newS S_2) fun S_3 =>
  (chk (okc S_3 3 a0) (vlt (upR S_3 a0 1 S_2.2.2) fun S_4 =>
  (chk ((kd S_4.2.2 = 12 ∧ ln S_4.2.2 = 5) ∧ nok S.2.2 19 876 S_4.2.2 5) (vlt (newS S_4) fun S_5 =>
  (chk (okc S_5 3 a0) (vlt (upR S_5 a0 3 S_4.2.2) fun S_6 =>
  (chk ((kd S_6.2.2 = 10 ∧ ln S_6.2.2 = 10) ∧ nok S.2.2 19 876 S_6.2.2 10) (vlt (newS S_6) fun S_7 =>
  (chk (okc S_7 3 a0) (vlt (upR S_7 a0 8 S_6.2.2) fun S_8 =>
  (chk ((kd S_8.2.2 = 10 ∧ ln S_8.2.2 = 10) ∧ nok S.2.2 19 876 S_8.2.2 10) (vlt (newS S_8) fun S_9 =>
  (chk (okc S_9 3 a0) (vlt (upR S_9 a0 9 S_8.2.2) fun S_10 =>
  (wl2 (f_X3_init_B46 S.2.2 a0 (fun (S_13 : St) => (wl2 (f_X3_init_B76 S.2.2 a0 (fun (S_17 : St) => (wl2 (f_X3_init_B106 S.2.2 a0 (fun (S_21 : St) => (chk (rok S.2.2 19 876 S_21.2.2) (some S_21)))) FU S_17 0))) FU S_13 0))) FU S_10 0))))))))))))))))))))))
set_option maxRecDepth 100000 in
set_option maxHeartbeats 4000000 in
theorem c_X3_init (l : Launch) (g : GG) (S : St) (a0 : Nat) : Ct l yX3_init cX3_init 2 none rm_X3_init g aU pU [rv g a0] S (f_X3_init S a0) := by
  refine Ct.mk (cf := cfC S.2.2) (by decide +kernel) (cat_r cat_n) (Nat.le_of_ble_eq_true rfl) (cfC_0 _) ?_
  intro X hXl hin C
  show J X g _ _ 0 [(0, rv g a0)] [] S (f_X3_init S a0)
  have hin : X.2.2.2.2.2.2.2.2.1.name = "<init>" := hin
  unfold f_X3_init
  refine J.aload_n (pc := 0) C (x := a0) dX3_init_0 rfl rfl ?_
  refine J.objInit (pc := 1) C wm_RX3_3 w_oi w_oc cat_n ⟨Nat.le_of_ble_eq_true rfl, Nat.le_of_ble_eq_true rfl⟩ dX3_init_1 ?_
  refine J.aload_n (pc := 4) C (x := a0) dX3_init_4 rfl rfl ?_
  refine J.bipush (pc := 5) C dX3_init_5 kb_8 ?_
  refine J.newa (atype := .int) (ty := .int) (n := 8) (c := 10) (N := 8) C rfl ⟨by decide, by decide, rfl, fun _ => rfl, (fun D h => by cases h), rfl⟩ wa_int (by decide) (by decide) (by decide) dX3_init_7 (fun S_1 _ => ?_)
  refine J.putRs (pc := 9) C fl_RX3_9 rfl (fun r h => by cases h; exact ⟨rfl, rfl⟩) hin nar_ra fit_ra dX3_init_9 (fun S_2 => ?_)
  refine J.aload_n (pc := 12) C (x := a0) dX3_init_12 rfl rfl ?_
  refine J.iconst (pc := 13) C dX3_init_13 ki_4 ?_
  refine J.newr (n := 4) (c := 14) (ce := 5) (N := 4) C rfl ⟨by decide, by decide, rfl, fun _ => rfl⟩ wl_RX3_15 (fun U hU => hU.2.2.2.2.2.2.1) (by decide) (by decide) (by decide) dX3_init_14 (fun S_3 _ => ?_)
  refine J.putRs (pc := 17) C fl_RX3_17 rfl (fun r h => by cases h; exact ⟨rfl, rfl⟩) hin nar_ra fit_ra dX3_init_17 (fun S_4 => ?_)
  refine J.aload_n (pc := 20) C (x := a0) dX3_init_20 rfl rfl ?_
  refine J.iconst (pc := 21) C dX3_init_21 ki_5 ?_
  refine J.newr (n := 5) (c := 12) (ce := 0) (N := 5) C rfl ⟨by decide, by decide, rfl, fun _ => rfl⟩ wl_RX3_21 (fun U hU => hU.2.2.2.2.1) (by decide) (by decide) (by decide) dX3_init_22 (fun S_5 _ => ?_)
  refine J.putRs (pc := 25) C fl_RX3_23 rfl (fun r h => by cases h; exact ⟨rfl, rfl⟩) hin nar_ra fit_ra dX3_init_25 (fun S_6 => ?_)
  refine J.aload_n (pc := 28) C (x := a0) dX3_init_28 rfl rfl ?_
  refine J.bipush (pc := 29) C dX3_init_29 kb_10 ?_
  refine J.newa (atype := .int) (ty := .int) (n := 10) (c := 10) (N := 10) C rfl ⟨by decide, by decide, rfl, fun _ => rfl, (fun D h => by cases h), rfl⟩ wa_int (by decide) (by decide) (by decide) dX3_init_31 (fun S_7 _ => ?_)
  refine J.putRs (pc := 33) C fl_RX3_27 rfl (fun r h => by cases h; exact ⟨rfl, rfl⟩) hin nar_ra fit_ra dX3_init_33 (fun S_8 => ?_)
  refine J.aload_n (pc := 36) C (x := a0) dX3_init_36 rfl rfl ?_
  refine J.bipush (pc := 37) C dX3_init_37 kb_10 ?_
  refine J.newa (atype := .int) (ty := .int) (n := 10) (c := 10) (N := 10) C rfl ⟨by decide, by decide, rfl, fun _ => rfl, (fun D h => by cases h), rfl⟩ wa_int (by decide) (by decide) (by decide) dX3_init_39 (fun S_9 _ => ?_)
  refine J.putRs (pc := 41) C fl_RX3_30 rfl (fun r h => by cases h; exact ⟨rfl, rfl⟩) hin nar_ra fit_ra dX3_init_41 (fun S_10 => ?_)
  refine J.iconst (pc := 44) C dX3_init_44 ki_0 ?_
  refine J.istore_n (pc := 45) C (lv' := [(0, rv g a0), (1, .int 0)]) dX3_init_45 rfl (Nat.le_of_ble_eq_true rfl) (lsf_r lsf_n) rfl ?_
  refine w_X3_init_B46 _ hin C _ _ (fun S_13 => ?_) FU _ _
  refine J.iconst (pc := 74) C dX3_init_74 ki_0 ?_
  refine J.istore_n (pc := 75) C (lv' := [(0, rv g a0), (1, .int 0)]) dX3_init_75 rfl (Nat.le_of_ble_eq_true rfl) (lsf_r lsf_n) rfl ?_
  refine w_X3_init_B76 _ hin C _ _ (fun S_17 => ?_) FU _ _
  refine J.iconst (pc := 104) C dX3_init_104 ki_0 ?_
  refine J.istore_n (pc := 105) C (lv' := [(0, rv g a0), (1, .int 0)]) dX3_init_105 rfl (Nat.le_of_ble_eq_true rfl) (lsf_r lsf_n) rfl ?_
  refine w_X3_init_B106 _ hin C _ _ (fun S_21 => ?_) FU _ _
  refine J.ck (fun hr => ?_)
  exact J.vret (pc := 134) C rfl rfl (rok_le hr) dX3_init_134
abbrev rm_X2_init : Room := { frames := 1, cells := 1, slots := 6, locals := 20 }
def f_X2_init (S : St) (a0 : Nat) : Option St :=
  (chk (¬ a0 = 0)
  (chk ((kd S.2.2 = 10 ∧ ln S.2.2 = 6) ∧ nok S.2.2 1 6 S.2.2 6) (vlt (newS S) fun S_1 =>
  (chk (okc S_1 2 a0) (vlt (upR S_1 a0 1 S.2.2) fun S_2 =>
  (chk (rok S.2.2 1 6 S_2.2.2) (some S_2)))))))
set_option maxRecDepth 100000 in
set_option maxHeartbeats 4000000 in
theorem c_X2_init (l : Launch) (g : GG) (S : St) (a0 : Nat) : Ct l yX2_init cX2_init 1 none rm_X2_init g aU pU [rv g a0] S (f_X2_init S a0) := by
  refine Ct.mk (cf := cfC S.2.2) (by decide +kernel) (cat_r cat_n) (Nat.le_of_ble_eq_true rfl) (cfC_0 _) ?_
  intro X hXl hin C
  show J X g _ _ 0 [(0, rv g a0)] [] S (f_X2_init S a0)
  have hin : X.2.2.2.2.2.2.2.2.1.name = "<init>" := hin
  unfold f_X2_init
  refine J.aload_n (pc := 0) C (x := a0) dX2_init_0 rfl rfl ?_
  refine J.objInit (pc := 1) C wm_RX2_3 w_oi w_oc cat_n ⟨Nat.le_of_ble_eq_true rfl, Nat.le_of_ble_eq_true rfl⟩ dX2_init_1 ?_
  refine J.aload_n (pc := 4) C (x := a0) dX2_init_4 rfl rfl ?_
  refine J.bipush (pc := 5) C dX2_init_5 kb_6 ?_
  refine J.newa (atype := .int) (ty := .int) (n := 6) (c := 10) (N := 6) C rfl ⟨by decide, by decide, rfl, fun _ => rfl, (fun D h => by cases h), rfl⟩ wa_int (by decide) (by decide) (by decide) dX2_init_7 (fun S_1 _ => ?_)
  refine J.putRs (pc := 9) C fl_RX2_9 rfl (fun r h => by cases h; exact ⟨rfl, rfl⟩) hin nar_ra fit_ra dX2_init_9 (fun S_2 => ?_)
  refine J.ck (fun hr => ?_)
  exact J.vret (pc := 12) C rfl rfl (rok_le hr) dX2_init_12
abbrev rm_X4_init : Room := { frames := 2, cells := 3, slots := 90, locals := 40 }
def f_X4_init (S : St) (a0 : Nat) : Option St :=
  (chk (¬ a0 = 0)
  (chk ((kd S.2.2 = 11 ∧ ln S.2.2 = 80) ∧ nok S.2.2 3 90 S.2.2 80) (vlt (newS S) fun S_1 =>
  (chk (okc S_1 4 a0) (vlt (upR S_1 a0 0 S.2.2) fun S_2 =>
  (chk (kd S_2.2.2 = 2 ∧ nok S.2.2 3 90 S_2.2.2 4) (vlt (newS S_2) fun S_3 =>
  (chk (okc S_3 2 S_2.2.2) (chk (rok2 S.2.2 3 90 1 6 S_3.2.2) (bnd (f_X2_init S_3 S_2.2.2) fun S_4 =>
  (chk (S_4.2.2 = S_3.2.2 + 1 ∧ slT S_4.2.2 = slT S_3.2.2 + 6)
  (chk (okc S_4 4 a0) (vlt (upR S_4 a0 2 S_2.2.2) fun S_5 =>
  (chk (rok S.2.2 3 90 S_5.2.2) (some S_5)))))))))))))))
set_option maxRecDepth 100000 in
set_option maxHeartbeats 4000000 in
theorem c_X4_init (l : Launch) (g : GG) (S : St) (a0 : Nat) : Ct l yX4_init cX4_init 1 none rm_X4_init g aU pU [rv g a0] S (f_X4_init S a0) := by
  refine Ct.mk (cf := cfC S.2.2) (by decide +kernel) (cat_r cat_n) (Nat.le_of_ble_eq_true rfl) (cfC_0 _) ?_
  intro X hXl hin C
  show J X g _ _ 0 [(0, rv g a0)] [] S (f_X4_init S a0)
  have hin : X.2.2.2.2.2.2.2.2.1.name = "<init>" := hin
  unfold f_X4_init
  refine J.aload_n (pc := 0) C (x := a0) dX4_init_0 rfl rfl ?_
  refine J.objInit (pc := 1) C wm_RX4_3 w_oi w_oc cat_n ⟨Nat.le_of_ble_eq_true rfl, Nat.le_of_ble_eq_true rfl⟩ dX4_init_1 ?_
  refine J.aload_n (pc := 4) C (x := a0) dX4_init_4 rfl rfl ?_
  refine J.bipush (pc := 5) C dX4_init_5 kb_80 ?_
  refine J.newa (atype := .char) (ty := .char) (n := 80) (c := 11) (N := 80) C rfl ⟨by decide, by decide, rfl, fun _ => rfl, (fun D h => by cases h), rfl⟩ wa_char (by decide) (by decide) (by decide) dX4_init_7 (fun S_1 _ => ?_)
  refine J.putRs (pc := 9) C fl_RX4_9 rfl (fun r h => by cases h; exact ⟨rfl, rfl⟩) hin nar_ra fit_ra dX4_init_9 (fun S_2 => ?_)
  refine J.aload_n (pc := 12) C (x := a0) dX4_init_12 rfl rfl ?_
  refine J.new (ci := 2) (N := 4) C rfl rfl wl_RX4_15 wi_X2 wz_RX2 dX4_init_13 (fun S_3 _ => ?_)
  refine J.dup (pc := 16) C dX4_init_16 (rv_cat g _) ?_
  refine J.ctorN (pc := 17) C mi_X2_init wn_RX4_17 (fun l => c_X2_init l g S_3 S_2.2.2) ⟨Nat.le_of_ble_eq_true rfl, Nat.le_of_ble_eq_true rfl⟩ rfl rfl (ct_r (ct_r ct_n)) (Nat.le_of_ble_eq_true rfl) dX4_init_17 (fun S_4 => ?_)
  refine J.putRs (pc := 20) C fl_RX4_18 rfl (fun r h => by cases h; exact ⟨rfl, rfl⟩) hin nar_r fit_r dX4_init_20 (fun S_5 => ?_)
  refine J.ck (fun hr => ?_)
  exact J.vret (pc := 23) C rfl rfl (rok_le hr) dX4_init_23
abbrev rm_X6_init : Room := { frames := 1, cells := 4, slots := 47, locals := 20 }
def f_X6_init (S : St) (a0 : Nat) : Option St :=
  (chk (¬ a0 = 0)
  (chk ((kd S.2.2 = 10 ∧ ln S.2.2 = 10) ∧ nok S.2.2 4 47 S.2.2 10) (vlt (newS S) fun S_1 =>
  (chk (okc S_1 6 a0) (vlt (upR S_1 a0 0 S.2.2) fun S_2 =>
  (chk ((kd S_2.2.2 = 10 ∧ ln S_2.2.2 = 10) ∧ nok S.2.2 4 47 S_2.2.2 10) (vlt (newS S_2) fun S_3 =>
  (chk (okc S_3 6 a0) (vlt (upR S_3 a0 1 S_2.2.2) fun S_4 =>
  (chk ((kd S_4.2.2 = 10 ∧ ln S_4.2.2 = 10) ∧ nok S.2.2 4 47 S_4.2.2 10) (vlt (newS S_4) fun S_5 =>
  (chk (okc S_5 6 a0) (vlt (upR S_5 a0 2 S_4.2.2) fun S_6 =>
  (chk ((kd S_6.2.2 = 10 ∧ ln S_6.2.2 = 17) ∧ nok S.2.2 4 47 S_6.2.2 17) (vlt (newS S_6) fun S_7 =>
  (chk (okc S_7 6 a0) (vlt (upR S_7 a0 3 S_6.2.2) fun S_8 =>
  (chk (rok S.2.2 4 47 S_8.2.2) (some S_8)))))))))))))))))))
set_option maxRecDepth 100000 in
set_option maxHeartbeats 4000000 in
theorem c_X6_init (l : Launch) (g : GG) (S : St) (a0 : Nat) : Ct l yX6_init cX6_init 1 none rm_X6_init g aU pU [rv g a0] S (f_X6_init S a0) := by
  refine Ct.mk (cf := cfC S.2.2) (by decide +kernel) (cat_r cat_n) (Nat.le_of_ble_eq_true rfl) (cfC_0 _) ?_
  intro X hXl hin C
  show J X g _ _ 0 [(0, rv g a0)] [] S (f_X6_init S a0)
  have hin : X.2.2.2.2.2.2.2.2.1.name = "<init>" := hin
  unfold f_X6_init
  refine J.aload_n (pc := 0) C (x := a0) dX6_init_0 rfl rfl ?_
  refine J.objInit (pc := 1) C wm_RX6_3 w_oi w_oc cat_n ⟨Nat.le_of_ble_eq_true rfl, Nat.le_of_ble_eq_true rfl⟩ dX6_init_1 ?_
  refine J.aload_n (pc := 4) C (x := a0) dX6_init_4 rfl rfl ?_
  refine J.bipush (pc := 5) C dX6_init_5 kb_10 ?_
  refine J.newa (atype := .int) (ty := .int) (n := 10) (c := 10) (N := 10) C rfl ⟨by decide, by decide, rfl, fun _ => rfl, (fun D h => by cases h), rfl⟩ wa_int (by decide) (by decide) (by decide) dX6_init_7 (fun S_1 _ => ?_)
  refine J.putRs (pc := 9) C fl_RX6_9 rfl (fun r h => by cases h; exact ⟨rfl, rfl⟩) hin nar_ra fit_ra dX6_init_9 (fun S_2 => ?_)
  refine J.aload_n (pc := 12) C (x := a0) dX6_init_12 rfl rfl ?_
  refine J.bipush (pc := 13) C dX6_init_13 kb_10 ?_
  refine J.newa (atype := .int) (ty := .int) (n := 10) (c := 10) (N := 10) C rfl ⟨by decide, by decide, rfl, fun _ => rfl, (fun D h => by cases h), rfl⟩ wa_int (by decide) (by decide) (by decide) dX6_init_15 (fun S_3 _ => ?_)
  refine J.putRs (pc := 17) C fl_RX6_15 rfl (fun r h => by cases h; exact ⟨rfl, rfl⟩) hin nar_ra fit_ra dX6_init_17 (fun S_4 => ?_)
  refine J.aload_n (pc := 20) C (x := a0) dX6_init_20 rfl rfl ?_
  refine J.bipush (pc := 21) C dX6_init_21 kb_10 ?_
  refine J.newa (atype := .int) (ty := .int) (n := 10) (c := 10) (N := 10) C rfl ⟨by decide, by decide, rfl, fun _ => rfl, (fun D h => by cases h), rfl⟩ wa_int (by decide) (by decide) (by decide) dX6_init_23 (fun S_5 _ => ?_)
  refine J.putRs (pc := 25) C fl_RX6_18 rfl (fun r h => by cases h; exact ⟨rfl, rfl⟩) hin nar_ra fit_ra dX6_init_25 (fun S_6 => ?_)
  refine J.aload_n (pc := 28) C (x := a0) dX6_init_28 rfl rfl ?_
  refine J.bipush (pc := 29) C dX6_init_29 kb_17 ?_
  refine J.newa (atype := .int) (ty := .int) (n := 17) (c := 10) (N := 17) C rfl ⟨by decide, by decide, rfl, fun _ => rfl, (fun D h => by cases h), rfl⟩ wa_int (by decide) (by decide) (by decide) dX6_init_31 (fun S_7 _ => ?_)
  refine J.putRs (pc := 33) C fl_RX6_21 rfl (fun r h => by cases h; exact ⟨rfl, rfl⟩) hin nar_ra fit_ra dX6_init_33 (fun S_8 => ?_)
  refine J.ck (fun hr => ?_)
  exact J.vret (pc := 36) C rfl rfl (rok_le hr) dX6_init_36
abbrev rm_X7_init : Room := { frames := 3, cells := 119, slots := 4957, locals := 61 }
def f_X7_init_B82 (n0 : Nat) (a0 : Nat) (kx82 : St → Option St) (k82 : St → Int32 → Option St) (S : St) (x1 : Int32) : Option St :=
  (chk (okc S 7 a0)
  (chk (okc S 13 (S.2.1 a0 1))
  (if (Int32.ofNat (ln (S.2.1 a0 1))) ≤ x1 then
  (kx82 S)
  else (chk (okc S 7 a0)
  (chk (kd S.2.2 = 3 ∧ nok n0 119 4957 S.2.2 10) (vlt (newS S) fun S_21 =>
  (chk (okc S_21 3 S.2.2) (chk (rok2 n0 119 4957 19 876 S_21.2.2) (bnd (f_X3_init S_21 S.2.2) fun S_22 =>
  (chk (S_22.2.2 = S_21.2.2 + 19 ∧ slT S_22.2.2 = slT S_21.2.2 + 876)
  (chk (inw S_22 13 (S.2.1 a0 1) x1 ∧ okc S_22 3 S.2.2) (vlt (upR S_22 (S.2.1 a0 1) x1.toNatClampNeg S.2.2) fun S_23 =>
  (k82 S_23 (x1 + 1))))))))))))))
set_option maxRecDepth 100000 in
set_option maxHeartbeats 4000000 in
theorem w_X7_init_B82 {X : CT} {g : GG} (n0 : Nat) (hin : X.2.2.2.2.2.2.2.2.1.name = "<init>") (C : CX X g cX7_init RX7 none 2 rm_X7_init) (a0 : Nat) (kx82 : St → Option St) (hkx82 : ∀ (S : St), J X g (Qm X g aU pU) (cfC n0) 110 [] [] S (kx82 S)) : ∀ (n : Nat) (S : St) (x1 : Int32), J X g (Qm X g aU pU) (cfC n0) 82 [(0, rv g a0), (1, .int x1)] [] S (wl2 (f_X7_init_B82 n0 a0 kx82) n S x1) := by
  refine J.loop2 (lvf := fun (S : St) (x1 : Int32) => [(0, rv g a0), (1, .int x1)]) (Sf := fun (S : St) (x1 : Int32) => S) ?_
  intro k82 hk82 S x1
  show J X g _ _ 82 [(0, rv g a0), (1, .int x1)] [] S (f_X7_init_B82 n0 a0 kx82 k82 S x1)
  unfold f_X7_init_B82
  refine J.iload_n (pc := 82) C dX7_init_82 rfl rfl ?_
  refine J.aload_n (pc := 83) C (x := a0) dX7_init_83 rfl rfl ?_
  refine J.getR (pc := 84) C fl_RX7_16 rfl dX7_init_84 ?_
  refine J.alen (pc := 87) C 13 (by decide) dX7_init_87 ?_
  refine J.icmp_ge (pc := 88) C (tgt := 110) dX7_init_88 rfl ?_ ?_
  · exact J.pick [] rfl (hkx82 _)
  · refine J.aload_n (pc := 91) C (x := a0) dX7_init_91 rfl rfl ?_
    refine J.getR (pc := 92) C fl_RX7_16 rfl dX7_init_92 ?_
    refine J.iload_n (pc := 95) C dX7_init_95 rfl rfl ?_
    refine J.new (ci := 3) (N := 10) C rfl rfl wl_RX7_9 wi_X3 wz_RX3 dX7_init_96 (fun S_21 _ => ?_)
    refine J.dup (pc := 99) C dX7_init_99 (rv_cat g _) ?_
    refine J.ctor (pc := 100) C mi_X3_init wm_RX7_11 (fun l => c_X3_init l g S_21 S.2.2) ⟨Nat.le_of_ble_eq_true rfl, Nat.le_of_ble_eq_true rfl⟩ rfl rfl (ct_r (ct_i (ct_r ct_n))) (Nat.le_of_ble_eq_true rfl) dX7_init_100 (fun S_22 => ?_)
    refine J.aasts (pc := 103) C 13 3 (by decide) (fun _ => rfl) rfl rfl dX7_init_103 (fun S_23 => ?_)
    refine J.iinc (pc := 104) C (lv' := [(0, rv g a0), (1, .int (x1 + 1))]) dX7_init_104 rfl (Nat.le_of_ble_eq_true rfl) (lsf_r (lsf_i lsf_n)) ki_1 rfl ?_
    refine J.goto (pc := 107) C (tgt := 82) dX7_init_107 rfl ?_
    exact (hk82 _ _)
def f_X7_init (S : St) (a0 : Nat) : Option St :=
  (chk (¬ a0 = 0)
  (chk (kd S.2.2 = 3 ∧ nok S.2.2 119 4957 S.2.2 10) (vlt (newS S) fun S_1 =>
  (chk (okc S_1 3 S.2.2) (chk (rok2 S.2.2 119 4957 19 876 S_1.2.2) (bnd (f_X3_init S_1 S.2.2) fun S_2 =>
  (chk (S_2.2.2 = S_1.2.2 + 19 ∧ slT S_2.2.2 = slT S_1.2.2 + 876)
  (chk (okc S_2 7 a0) (vlt (upR S_2 a0 0 S.2.2) fun S_3 =>
  (chk ((kd S_3.2.2 = 13 ∧ ln S_3.2.2 = 4) ∧ nok S.2.2 119 4957 S_3.2.2 4) (vlt (newS S_3) fun S_4 =>
  (chk (okc S_4 7 a0) (vlt (upR S_4 a0 1 S_3.2.2) fun S_5 =>
  (chk (okc S_5 7 a0) (vlt (upI S_5 a0 2 0) fun S_6 =>
  (chk (kd S_6.2.2 = 4 ∧ nok S.2.2 119 4957 S_6.2.2 10) (vlt (newS S_6) fun S_7 =>
  (chk (okc S_7 4 S_6.2.2) (chk (rok2 S.2.2 119 4957 3 90 S_7.2.2) (bnd (f_X4_init S_7 S_6.2.2) fun S_8 =>
  (chk (S_8.2.2 = S_7.2.2 + 3 ∧ slT S_8.2.2 = slT S_7.2.2 + 90)
  (chk (okc S_8 7 a0) (vlt (upR S_8 a0 3 S_6.2.2) fun S_9 =>
  (chk (kd S_9.2.2 = 6 ∧ nok S.2.2 119 4957 S_9.2.2 4) (vlt (newS S_9) fun S_10 =>
  (chk (okc S_10 6 S_9.2.2) (chk (rok2 S.2.2 119 4957 4 47 S_10.2.2) (bnd (f_X6_init S_10 S_9.2.2) fun S_11 =>
  (chk (S_11.2.2 = S_10.2.2 + 4 ∧ slT S_11.2.2 = slT S_10.2.2 + 47)
  (chk (okc S_11 7 a0) (vlt (upR S_11 a0 4 S_9.2.2) fun S_12 =>
  (chk (kd S_12.2.2 = 1 ∧ nok S.2.2 119 4957 S_12.2.2 11) (vlt (newS S_12) fun S_13 =>
  (chk (okc S_13 1 S_12.2.2) (chk (rok2 S.2.2 119 4957 5 182 S_13.2.2) (bnd (f_X1_init S_13 S_12.2.2) fun S_14 =>
  (chk (S_14.2.2 = S_13.2.2 + 5 ∧ slT S_14.2.2 = slT S_13.2.2 + 182)
  (chk (okc S_14 7 a0) (vlt (upR S_14 a0 5 S_12.2.2) fun S_15 =>
  (chk (kd S_15.2.2 = 0 ∧ nok S.2.2 119 4957 S_15.2.2 3) (vlt (newS S_15) fun S_16 =>
  (chk (okc S_16 0 S_15.2.2) (chk (rok2 S.2.2 119 4957 1 160 S_16.2.2) (bnd (f_X0_init S_16 S_15.2.2) fun S_17 =>
  (chk (S_17.2.2 = S_16.2.2 + 1 ∧ slT S_17.2.2 = slT S_16.2.2 + 160)
  (chk (okc S_17 7 a0) (vlt (upR S_17 a0 6 S_15.2.2) fun S_18 =>
  (chk ((kd S_18.2.2 = 10 ∧ ln S_18.2.2 = 16) ∧ nok S.2.2 119 4957 S_18.2.2 16) (vlt (newS S_18) fun S_19 =>
  (chk (okc S_19 7 a0) (vlt (upR S_19 a0 7 S_18.2.2) fun S_20 =>
  (wl2 (f_X7_init_B82 S.2.2 a0 (fun (S_24 : St) => (chk (rok S.2.2 119 4957 S_24.2.2) (some S_24)))) FU S_20 0))))))))))))))))))))))))))))))))))))))))))))))))))))
set_option maxRecDepth 100000 in
set_option maxHeartbeats 4000000 in
theorem c_X7_init (l : Launch) (g : GG) (S : St) (a0 : Nat) : Ct l yX7_init cX7_init 2 none rm_X7_init g aU pU [rv g a0] S (f_X7_init S a0) := by
  refine Ct.mk (cf := cfC S.2.2) (by decide +kernel) (cat_r cat_n) (Nat.le_of_ble_eq_true rfl) (cfC_0 _) ?_
  intro X hXl hin C
  show J X g _ _ 0 [(0, rv g a0)] [] S (f_X7_init S a0)
  have hin : X.2.2.2.2.2.2.2.2.1.name = "<init>" := hin
  unfold f_X7_init
  refine J.aload_n (pc := 0) C (x := a0) dX7_init_0 rfl rfl ?_
  refine J.objInit (pc := 1) C wm_RX7_3 w_oi w_oc cat_n ⟨Nat.le_of_ble_eq_true rfl, Nat.le_of_ble_eq_true rfl⟩ dX7_init_1 ?_
  refine J.aload_n (pc := 4) C (x := a0) dX7_init_4 rfl rfl ?_
  refine J.new (ci := 3) (N := 10) C rfl rfl wl_RX7_9 wi_X3 wz_RX3 dX7_init_5 (fun S_1 _ => ?_)
  refine J.dup (pc := 8) C dX7_init_8 (rv_cat g _) ?_
  refine J.ctor (pc := 9) C mi_X3_init wm_RX7_11 (fun l => c_X3_init l g S_1 S.2.2) ⟨Nat.le_of_ble_eq_true rfl, Nat.le_of_ble_eq_true rfl⟩ rfl rfl (ct_r (ct_r ct_n)) (Nat.le_of_ble_eq_true rfl) dX7_init_9 (fun S_2 => ?_)
  refine J.putRs (pc := 12) C fl_RX7_12 rfl (fun r h => by cases h; exact ⟨rfl, rfl⟩) hin nar_r fit_r dX7_init_12 (fun S_3 => ?_)
  refine J.aload_n (pc := 15) C (x := a0) dX7_init_15 rfl rfl ?_
  refine J.iconst (pc := 16) C dX7_init_16 ki_4 ?_
  refine J.newr (n := 4) (c := 13) (ce := 3) (N := 4) C rfl ⟨by decide, by decide, rfl, fun _ => rfl⟩ wl_RX7_9 (fun U hU => hU.2.2.2.2.2.1) (by decide) (by decide) (by decide) dX7_init_17 (fun S_4 _ => ?_)
  refine J.putRs (pc := 20) C fl_RX7_16 rfl (fun r h => by cases h; exact ⟨rfl, rfl⟩) hin nar_ra fit_ra dX7_init_20 (fun S_5 => ?_)
  refine J.aload_n (pc := 23) C (x := a0) dX7_init_23 rfl rfl ?_
  refine J.iconst (pc := 24) C dX7_init_24 ki_0 ?_
  refine J.putIs (pc := 25) C fl_RX7_20 rfl (fun r h => by cases h; rfl) rfl rfl dX7_init_25 (fun S_6 => ?_)
  refine J.aload_n (pc := 28) C (x := a0) dX7_init_28 rfl rfl ?_
  refine J.new (ci := 4) (N := 10) C rfl rfl wl_RX7_24 wi_X4 wz_RX4 dX7_init_29 (fun S_7 _ => ?_)
  refine J.dup (pc := 32) C dX7_init_32 (rv_cat g _) ?_
  refine J.ctorN (pc := 33) C mi_X4_init wn_RX7_26 (fun l => c_X4_init l g S_7 S_6.2.2) ⟨Nat.le_of_ble_eq_true rfl, Nat.le_of_ble_eq_true rfl⟩ rfl rfl (ct_r (ct_r ct_n)) (Nat.le_of_ble_eq_true rfl) dX7_init_33 (fun S_8 => ?_)
  refine J.putRs (pc := 36) C fl_RX7_27 rfl (fun r h => by cases h; exact ⟨rfl, rfl⟩) hin nar_r fit_r dX7_init_36 (fun S_9 => ?_)
  refine J.aload_n (pc := 39) C (x := a0) dX7_init_39 rfl rfl ?_
  refine J.new (ci := 6) (N := 4) C rfl rfl wl_RX7_31 wi_X6 wz_RX6 dX7_init_40 (fun S_10 _ => ?_)
  refine J.dup (pc := 43) C dX7_init_43 (rv_cat g _) ?_
  refine J.ctorN (pc := 44) C mi_X6_init wn_RX7_33 (fun l => c_X6_init l g S_10 S_9.2.2) ⟨Nat.le_of_ble_eq_true rfl, Nat.le_of_ble_eq_true rfl⟩ rfl rfl (ct_r (ct_r ct_n)) (Nat.le_of_ble_eq_true rfl) dX7_init_44 (fun S_11 => ?_)
  refine J.putRs (pc := 47) C fl_RX7_34 rfl (fun r h => by cases h; exact ⟨rfl, rfl⟩) hin nar_r fit_r dX7_init_47 (fun S_12 => ?_)
  refine J.aload_n (pc := 50) C (x := a0) dX7_init_50 rfl rfl ?_
  refine J.new (ci := 1) (N := 11) C rfl rfl wl_RX7_38 wi_X1 wz_RX1 dX7_init_51 (fun S_13 _ => ?_)
  refine J.dup (pc := 54) C dX7_init_54 (rv_cat g _) ?_
  refine J.ctorN (pc := 55) C mi_X1_init wn_RX7_40 (fun l => c_X1_init l g S_13 S_12.2.2) ⟨Nat.le_of_ble_eq_true rfl, Nat.le_of_ble_eq_true rfl⟩ rfl rfl (ct_r (ct_r ct_n)) (Nat.le_of_ble_eq_true rfl) dX7_init_55 (fun S_14 => ?_)
  refine J.putRs (pc := 58) C fl_RX7_41 rfl (fun r h => by cases h; exact ⟨rfl, rfl⟩) hin nar_r fit_r dX7_init_58 (fun S_15 => ?_)
  refine J.aload_n (pc := 61) C (x := a0) dX7_init_61 rfl rfl ?_
  refine J.new (ci := 0) (N := 3) C rfl rfl wl_RX7_45 wi_X0 wz_RX0 dX7_init_62 (fun S_16 _ => ?_)
  refine J.dup (pc := 65) C dX7_init_65 (rv_cat g _) ?_
  refine J.ctorN (pc := 66) C mi_X0_init wn_RX7_47 (fun l => c_X0_init l g S_16 S_15.2.2) ⟨Nat.le_of_ble_eq_true rfl, Nat.le_of_ble_eq_true rfl⟩ rfl rfl (ct_r (ct_r ct_n)) (Nat.le_of_ble_eq_true rfl) dX7_init_66 (fun S_17 => ?_)
  refine J.putRs (pc := 69) C fl_RX7_48 rfl (fun r h => by cases h; exact ⟨rfl, rfl⟩) hin nar_r fit_r dX7_init_69 (fun S_18 => ?_)
  refine J.aload_n (pc := 72) C (x := a0) dX7_init_72 rfl rfl ?_
  refine J.bipush (pc := 73) C dX7_init_73 kb_16 ?_
  refine J.newa (atype := .int) (ty := .int) (n := 16) (c := 10) (N := 16) C rfl ⟨by decide, by decide, rfl, fun _ => rfl, (fun D h => by cases h), rfl⟩ wa_int (by decide) (by decide) (by decide) dX7_init_75 (fun S_19 _ => ?_)
  refine J.putRs (pc := 77) C fl_RX7_52 rfl (fun r h => by cases h; exact ⟨rfl, rfl⟩) hin nar_ra fit_ra dX7_init_77 (fun S_20 => ?_)
  refine J.iconst (pc := 80) C dX7_init_80 ki_0 ?_
  refine J.istore_n (pc := 81) C (lv' := [(0, rv g a0), (1, .int 0)]) dX7_init_81 rfl (Nat.le_of_ble_eq_true rfl) (lsf_r lsf_n) rfl ?_
  refine w_X7_init_B82 _ hin C _ _ (fun S_24 => ?_) FU _ _
  refine J.ck (fun hr => ?_)
  exact J.vret (pc := 110) C rfl rfl (rok_le hr) dX7_init_110
abbrev rm_X7_pass : Room := { frames := 4, cells := 0, slots := 0, locals := 88 }
def f_X7_pass (S : St) (a0 : Nat) (a1 : Int32) : Option (Int32 × St) :=
  (bnd (f_X7_isWithin a1 1 200) fun r1 =>
  (if r1 = 0 then
  (some ((-10000001), S))
  else (chk (okc S 7 a0)
  (chk (okc S 3 (S.2.1 a0 0))
  (if ((S.1 (S.2.1 a0 0) 6) + a1) ≤ 20000 then
  (chk (okc S 7 a0) (bnd (f_X7_recordState S a0) fun S_2 =>
  (chk (okc S_2 7 a0)
  (chk (okc S_2 3 (S_2.2.1 a0 0))
  (chk (okc S_2 3 (S_2.2.1 a0 0)) (vlt (upI S_2 (S_2.2.1 a0 0) 6 ((S_2.1 (S_2.2.1 a0 0) 6) + a1)) fun S_3 =>
  (chk (okc S_3 7 a0)
  (chk (okc S_3 3 (S_3.2.1 a0 0))
  (some (S_3.1 (S_3.2.1 a0 0) 6, S_3))))))))))
  else (some ((-10000003), S)))))))
set_option maxRecDepth 100000 in
set_option maxHeartbeats 4000000 in
theorem c_X7_pass (l : Launch) (g : GG) (S : St) (a0 : Nat) (a1 : Int32) : Ct l yX7_pass cX7_pass 2 (some .int) rm_X7_pass g aW pW [rv g a0, .int a1] S (f_X7_pass S a0 a1) := by
  refine Ct.mk (cf := cw (0, 0)) (by decide +kernel) (cat_r (cat_i cat_n)) (Nat.le_of_ble_eq_true rfl) rfl ?_
  intro X hXl hin C
  show J X g _ _ 0 [(0, rv g a0), (1, .int a1)] [] S (f_X7_pass S a0 a1)
  unfold f_X7_pass
  refine J.iload_n (pc := 0) C dX7_pass_0 rfl rfl ?_
  refine J.iconst (pc := 1) C dX7_pass_1 ki_1 ?_
  refine J.sipush (pc := 2) C dX7_pass_2 ks_200 ?_
  refine J.sI (pc := 5) C ms_X7_isWithin wm_RX7_56 (fun l => c_X7_isWithin l g S a1 1 200) ⟨⟨Nat.zero_le _, Nat.zero_le _⟩, rfl, rfl⟩ rfl ⟨Nat.le_of_ble_eq_true rfl, Nat.le_of_ble_eq_true rfl⟩ rfl ct_n (Nat.le_of_ble_eq_true rfl) dX7_pass_5 (fun r1 => ?_)
  refine J.if_ne (pc := 8) C (tgt := 14) dX7_pass_8 rfl ?_ ?_
  · refine J.aload_n (pc := 14) C (x := a0) dX7_pass_14 rfl rfl ?_
    refine J.getR (pc := 15) C fl_RX7_12 rfl dX7_pass_15 ?_
    refine J.getI (pc := 18) C fl_RX7_107 rfl dX7_pass_18 ?_
    refine J.iload_n (pc := 21) C dX7_pass_21 rfl rfl ?_
    refine J.iadd (pc := 22) C dX7_pass_22 ?_
    refine J.sipush (pc := 23) C dX7_pass_23 ks_20000 ?_
    refine J.icmp_le (pc := 26) C (tgt := 32) dX7_pass_26 rfl ?_ ?_
    · refine J.aload_n (pc := 32) C (x := a0) dX7_pass_32 rfl rfl ?_
      refine J.vU (pc := 33) C mv_X7_recordState wm_RX7_75 (fun l => c_X7_recordState l g S a0) ⟨⟨Nat.zero_le _, Nat.zero_le _⟩, rfl, rfl⟩ rfl ⟨Nat.le_of_ble_eq_true rfl, Nat.le_of_ble_eq_true rfl⟩ rfl ct_n (Nat.le_of_ble_eq_true rfl) dX7_pass_33 (fun S_2 => ?_)
      refine J.aload_n (pc := 36) C (x := a0) dX7_pass_36 rfl rfl ?_
      refine J.getR (pc := 37) C fl_RX7_12 rfl dX7_pass_37 ?_
      refine J.dup (pc := 40) C dX7_pass_40 (rv_cat g _) ?_
      refine J.getI (pc := 41) C fl_RX7_107 rfl dX7_pass_41 ?_
      refine J.iload_n (pc := 44) C dX7_pass_44 rfl rfl ?_
      refine J.iadd (pc := 45) C dX7_pass_45 ?_
      refine J.putIs (pc := 46) C fl_RX7_107 rfl (fun r h => by cases h; rfl) rfl rfl dX7_pass_46 (fun S_3 => ?_)
      refine J.aload_n (pc := 49) C (x := a0) dX7_pass_49 rfl rfl ?_
      refine J.getR (pc := 50) C fl_RX7_12 rfl dX7_pass_50 ?_
      refine J.getI (pc := 53) C fl_RX7_107 rfl dX7_pass_53 ?_
      exact J.iret (pc := 56) C rfl rfl ⟨Nat.le_refl _, Nat.le_refl _⟩ dX7_pass_56
    · refine J.ldc (pc := 29) C wc_RX7_93 dX7_pass_29 ?_
      exact J.iret (pc := 31) C rfl rfl ⟨Nat.le_refl _, Nat.le_refl _⟩ dX7_pass_31
  · refine J.ldc (pc := 11) C wc_RX7_60 dX7_pass_11 ?_
    exact J.iret (pc := 13) C rfl rfl ⟨Nat.le_refl _, Nat.le_refl _⟩ dX7_pass_13
