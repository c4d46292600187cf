abbrev rm_X4_isPossibleThen : Room := { frames := 2, cells := 0, slots := 0, locals := 42 }
def f_X4_isPossibleThen (S : St) (a0 : Nat) : Option (Int32 × St) :=
  (chk (okc S 4 a0)
  (chk (okc S 2 (S.2.1 a0 2)) (bnd (f_X2_numberAt S (S.2.1 a0 2) 0) fun r1 =>
  (chk (okc S 4 a0)
  (bnd (f_X7_holds (S.1 a0 9) r1) fun r2 =>
  (chk (okc S 4 a0)
  (chk (okc S 2 (S.2.1 a0 2))
  (if (S.1 (S.2.1 a0 2) 0) = 116 then
  (chk (okc S 4 a0)
  (chk (okc S 4 a0) (vlt (upI S a0 7 ((S.1 a0 7) + 1)) fun S_6 =>
  (chk (okc S_6 4 a0)
  (if (4 : Int32) < (S_6.1 a0 7) then
  (some (0, S_6))
  else (some (1, S_6)))))))
  else (chk (okc S 4 a0)
  (chk (okc S 2 (S.2.1 a0 2))
  (if (S.1 (S.2.1 a0 2) 0) = 103 then
  (chk (okc S 4 a0)
  (chk (okc S 4 a0) (vlt (upI S a0 8 ((S.1 a0 8) + r1)) fun S_5 =>
  (chk (okc S_5 4 a0)
  (if (20000 : Int32) < (S_5.1 a0 8) then
  (some (0, S_5))
  else (some (1, S_5)))))))
  else (chk (okc S 4 a0)
  (chk (okc S 2 (S.2.1 a0 2))
  (if (S.1 (S.2.1 a0 2) 0) = 98 then
  (chk (okc S 4 a0)
  (chk (okc S 4 a0) (vlt (upI S a0 9 ((S.1 a0 9) ||| (1 <<< (r1 &&& 31)))) fun S_4 =>
  (if r2 = 0 then
  (some (1, S_4))
  else (some (0, S_4))))))
  else (chk (okc S 4 a0)
  (chk (okc S 2 (S.2.1 a0 2))
  (if (S.1 (S.2.1 a0 2) 0) = 117 then
  (chk (okc S 4 a0)
  (chk (okc S 4 a0) (vlt (upI S a0 9 ((S.1 a0 9) &&& ((1 <<< (r1 &&& 31)) ^^^ (-1)))) fun S_3 =>
  (chk (r2 = 0 ∨ r2 = 1) (some (r2, S_3))))))
  else (some (1, S)))))))))))))))))))
set_option maxRecDepth 100000 in
set_option maxHeartbeats 4000000 in
theorem c_X4_isPossibleThen (l : Launch) (g : GG) (S : St) (a0 : Nat) : Ct l yX4_isPossibleThen cX4_isPossibleThen 3 (some .boolean) rm_X4_isPossibleThen g aW pW [rv g a0] S (f_X4_isPossibleThen S a0) := by
  refine Ct.mk (cf := cw (0, 0)) (by decide +kernel) (cat_r cat_n) (Nat.le_of_ble_eq_true rfl) rfl ?_
  intro X hXl hin C
  show J X g _ _ 0 [(0, rv g a0)] [] S (f_X4_isPossibleThen S a0)
  unfold f_X4_isPossibleThen
  refine J.aload_n (pc := 0) C (x := a0) dX4_isPossibleThen_0 rfl rfl ?_
  refine J.getR (pc := 1) C fl_RX4_18 rfl dX4_isPossibleThen_1 ?_
  refine J.iconst (pc := 4) C dX4_isPossibleThen_4 ki_0 ?_
  refine J.vI (pc := 5) C mv_X2_numberAt wm_RX4_80 (fun l => c_X2_numberAt l g S (S.2.1 a0 2) 0) ⟨⟨Nat.zero_le _, Nat.zero_le _⟩, rfl, rfl⟩ rfl ⟨Nat.le_of_ble_eq_true rfl, Nat.le_of_ble_eq_true rfl⟩ rfl cat_n (Nat.le_of_ble_eq_true rfl) dX4_isPossibleThen_5 (fun r1 => ?_)
  refine J.istore_n (pc := 8) C (lv' := [(0, rv g a0), (1, .int r1)]) dX4_isPossibleThen_8 rfl (Nat.le_of_ble_eq_true rfl) rfl ?_
  refine J.aload_n (pc := 9) C (x := a0) dX4_isPossibleThen_9 rfl rfl ?_
  refine J.getI (pc := 10) C fl_RX4_43 rfl dX4_isPossibleThen_10 ?_
  refine J.iload_n (pc := 13) C dX4_isPossibleThen_13 rfl rfl ?_
  refine J.snI (pc := 14) C ms_X7_holds wn_RX4_84 (fun l => c_X7_holds l g S (S.1 a0 9) r1) ⟨⟨Nat.zero_le _, Nat.zero_le _⟩, rfl, rfl⟩ rfl ⟨Nat.le_of_ble_eq_true rfl, Nat.le_of_ble_eq_true rfl⟩ rfl cat_n (Nat.le_of_ble_eq_true rfl) dX4_isPossibleThen_14 (fun r2 => ?_)
  refine J.istore_n (pc := 17) C (lv' := [(0, rv g a0), (1, .int r1), (2, .int r2)]) dX4_isPossibleThen_17 rfl (Nat.le_of_ble_eq_true rfl) rfl ?_
  refine J.aload_n (pc := 18) C (x := a0) dX4_isPossibleThen_18 rfl rfl ?_
  refine J.getR (pc := 19) C fl_RX4_18 rfl dX4_isPossibleThen_19 ?_
  refine J.getI (pc := 22) C fl_RX4_88 rfl dX4_isPossibleThen_22 ?_
  refine J.bipush (pc := 25) C dX4_isPossibleThen_25 kb_116 ?_
  refine J.icmp_ne (pc := 27) C (tgt := 54) dX4_isPossibleThen_27 rfl ?_ ?_
  · refine J.aload_n (pc := 54) C (x := a0) dX4_isPossibleThen_54 rfl rfl ?_
    refine J.getR (pc := 55) C fl_RX4_18 rfl dX4_isPossibleThen_55 ?_
    refine J.getI (pc := 58) C fl_RX4_88 rfl dX4_isPossibleThen_58 ?_
    refine J.bipush (pc := 61) C dX4_isPossibleThen_61 kb_103 ?_
    refine J.icmp_ne (pc := 63) C (tgt := 92) dX4_isPossibleThen_63 rfl ?_ ?_
    · refine J.aload_n (pc := 92) C (x := a0) dX4_isPossibleThen_92 rfl rfl ?_
      refine J.getR (pc := 93) C fl_RX4_18 rfl dX4_isPossibleThen_93 ?_
      refine J.getI (pc := 96) C fl_RX4_88 rfl dX4_isPossibleThen_96 ?_
      refine J.bipush (pc := 99) C dX4_isPossibleThen_99 kb_98 ?_
      refine J.icmp_ne (pc := 101) C (tgt := 126) dX4_isPossibleThen_101 rfl ?_ ?_
      · refine J.aload_n (pc := 126) C (x := a0) dX4_isPossibleThen_126 rfl rfl ?_
        refine J.getR (pc := 127) C fl_RX4_18 rfl dX4_isPossibleThen_127 ?_
        refine J.getI (pc := 130) C fl_RX4_88 rfl dX4_isPossibleThen_130 ?_
        refine J.bipush (pc := 133) C dX4_isPossibleThen_133 kb_117 ?_
        refine J.icmp_ne (pc := 135) C (tgt := 154) dX4_isPossibleThen_135 rfl ?_ ?_
        · refine J.iconst (pc := 154) C dX4_isPossibleThen_154 ki_1 ?_
          exact J.zret (pc := 155) C rfl rfl rfl ⟨Nat.le_refl _, Nat.le_refl _⟩ dX4_isPossibleThen_155
        · refine J.aload_n (pc := 138) C (x := a0) dX4_isPossibleThen_138 rfl rfl ?_
          refine J.dup (pc := 139) C dX4_isPossibleThen_139 (rv_cat g _) ?_
          refine J.getI (pc := 140) C fl_RX4_43 rfl dX4_isPossibleThen_140 ?_
          refine J.iconst (pc := 143) C dX4_isPossibleThen_143 ki_1 ?_
          refine J.iload_n (pc := 144) C dX4_isPossibleThen_144 rfl rfl ?_
          refine J.ishl (pc := 145) C dX4_isPossibleThen_145 ?_
          refine J.iconst (pc := 146) C dX4_isPossibleThen_146 ki_m1 ?_
          refine J.ixor (pc := 147) C dX4_isPossibleThen_147 ?_
          refine J.iand (pc := 148) C dX4_isPossibleThen_148 ?_
          refine J.putIs (pc := 149) C fl_RX4_43 rfl (fun r h => by cases h; rfl) rfl rfl dX4_isPossibleThen_149 (fun S_3 => ?_)
          refine J.iload_n (pc := 152) C dX4_isPossibleThen_152 rfl rfl ?_
          refine J.ck (fun hz => ?_)
          exact J.zret (pc := 153) C (nar_z hz) rfl rfl ⟨Nat.le_refl _, Nat.le_refl _⟩ dX4_isPossibleThen_153
      · refine J.aload_n (pc := 104) C (x := a0) dX4_isPossibleThen_104 rfl rfl ?_
        refine J.dup (pc := 105) C dX4_isPossibleThen_105 (rv_cat g _) ?_
        refine J.getI (pc := 106) C fl_RX4_43 rfl dX4_isPossibleThen_106 ?_
        refine J.iconst (pc := 109) C dX4_isPossibleThen_109 ki_1 ?_
        refine J.iload_n (pc := 110) C dX4_isPossibleThen_110 rfl rfl ?_
        refine J.ishl (pc := 111) C dX4_isPossibleThen_111 ?_
        refine J.ior (pc := 112) C dX4_isPossibleThen_112 ?_
        refine J.putIs (pc := 113) C fl_RX4_43 rfl (fun r h => by cases h; rfl) rfl rfl dX4_isPossibleThen_113 (fun S_4 => ?_)
        refine J.iload_n (pc := 116) C dX4_isPossibleThen_116 rfl rfl ?_
        refine J.if_ne (pc := 117) C (tgt := 124) dX4_isPossibleThen_117 rfl ?_ ?_
        · refine J.iconst (pc := 124) C dX4_isPossibleThen_124 ki_0 ?_
          exact J.zret (pc := 125) C rfl rfl rfl ⟨Nat.le_refl _, Nat.le_refl _⟩ dX4_isPossibleThen_125
        · refine J.iconst (pc := 120) C dX4_isPossibleThen_120 ki_1 ?_
          refine J.goto (pc := 121) C (tgt := 125) dX4_isPossibleThen_121 rfl ?_
          exact J.zret (pc := 125) C rfl rfl rfl ⟨Nat.le_refl _, Nat.le_refl _⟩ dX4_isPossibleThen_125
    · refine J.aload_n (pc := 66) C (x := a0) dX4_isPossibleThen_66 rfl rfl ?_
      refine J.dup (pc := 67) C dX4_isPossibleThen_67 (rv_cat g _) ?_
      refine J.getI (pc := 68) C fl_RX4_37 rfl dX4_isPossibleThen_68 ?_
      refine J.iload_n (pc := 71) C dX4_isPossibleThen_71 rfl rfl ?_
      refine J.iadd (pc := 72) C dX4_isPossibleThen_72 ?_
      refine J.putIs (pc := 73) C fl_RX4_37 rfl (fun r h => by cases h; rfl) rfl rfl dX4_isPossibleThen_73 (fun S_5 => ?_)
      refine J.aload_n (pc := 76) C (x := a0) dX4_isPossibleThen_76 rfl rfl ?_
      refine J.getI (pc := 77) C fl_RX4_37 rfl dX4_isPossibleThen_77 ?_
      refine J.sipush (pc := 80) C dX4_isPossibleThen_80 ks_20000 ?_
      refine J.icmp_gt (pc := 83) C (tgt := 90) dX4_isPossibleThen_83 rfl ?_ ?_
      · refine J.iconst (pc := 90) C dX4_isPossibleThen_90 ki_0 ?_
        exact J.zret (pc := 91) C rfl rfl rfl ⟨Nat.le_refl _, Nat.le_refl _⟩ dX4_isPossibleThen_91
      · refine J.iconst (pc := 86) C dX4_isPossibleThen_86 ki_1 ?_
        refine J.goto (pc := 87) C (tgt := 91) dX4_isPossibleThen_87 rfl ?_
        exact J.zret (pc := 91) C rfl rfl rfl ⟨Nat.le_refl _, Nat.le_refl _⟩ dX4_isPossibleThen_91
  · refine J.aload_n (pc := 30) C (x := a0) dX4_isPossibleThen_30 rfl rfl ?_
    refine J.dup (pc := 31) C dX4_isPossibleThen_31 (rv_cat g _) ?_
    refine J.getI (pc := 32) C fl_RX4_31 rfl dX4_isPossibleThen_32 ?_
    refine J.iconst (pc := 35) C dX4_isPossibleThen_35 ki_1 ?_
    refine J.iadd (pc := 36) C dX4_isPossibleThen_36 ?_
    refine J.putIs (pc := 37) C fl_RX4_31 rfl (fun r h => by cases h; rfl) rfl rfl dX4_isPossibleThen_37 (fun S_6 => ?_)
    refine J.aload_n (pc := 40) C (x := a0) dX4_isPossibleThen_40 rfl rfl ?_
    refine J.getI (pc := 41) C fl_RX4_31 rfl dX4_isPossibleThen_41 ?_
    refine J.iconst (pc := 44) C dX4_isPossibleThen_44 ki_4 ?_
    refine J.icmp_gt (pc := 45) C (tgt := 52) dX4_isPossibleThen_45 rfl ?_ ?_
    · refine J.iconst (pc := 52) C dX4_isPossibleThen_52 ki_0 ?_
      exact J.zret (pc := 53) C rfl rfl rfl ⟨Nat.le_refl _, Nat.le_refl _⟩ dX4_isPossibleThen_53
    · refine J.iconst (pc := 48) C dX4_isPossibleThen_48 ki_1 ?_
      refine J.goto (pc := 49) C (tgt := 53) dX4_isPossibleThen_49 rfl ?_
      exact J.zret (pc := 53) C rfl rfl rfl ⟨Nat.le_refl _, Nat.le_refl _⟩ dX4_isPossibleThen_53
abbrev rm_X4_examineOrder : Room := { frames := 3, cells := 0, slots := 0, locals := 67 }
def f_X4_examineOrder (S : St) (a0 : Nat) : Option St :=
  (chk (okc S 4 a0)
  (chk (okc S 2 (S.2.1 a0 2))
  (if (S.1 (S.2.1 a0 2) 3) = 0 then
  (chk (okc S 4 a0)
  (chk (okc S 2 (S.2.1 a0 2)) (bnd (f_X2_wrongNumber S (S.2.1 a0 2)) fun r1 =>
  (if r1 < 0 then
  (chk (okc S 4 a0) (bnd2 (f_X4_isPossibleThen S a0) fun r2 S_3 =>
  (if r2 = 0 then
  (chk (okc S_3 4 a0) (vlt (upI S_3 a0 5 3) fun S_4 =>
  (some S_4)))
  else (some S_3))))
  else (chk (okc S 4 a0) (vlt (upI S a0 5 2) fun S_5 =>
  (chk (okc S_5 4 a0)
  (chk (okc S_5 2 (S_5.2.1 a0 2)) (bnd (f_X2_wrongNumber S_5 (S_5.2.1 a0 2)) fun r6 =>
  (chk (okc S_5 4 a0) (vlt (upI S_5 a0 6 r6) fun S_7 =>
  (some S_7))))))))))))
  else (chk (okc S 4 a0) (vlt (upI S a0 5 1) fun S_8 =>
  (chk (okc S_8 4 a0)
  (chk (okc S_8 2 (S_8.2.1 a0 2))
  (chk (okc S_8 4 a0)
  (chk (okc S_8 4 a0) (vlt (upI S_8 a0 6 ((S_8.1 (S_8.2.1 a0 2) 2) - (S_8.1 a0 4))) fun S_9 =>
  (some S_9)))))))))))
set_option maxRecDepth 100000 in
set_option maxHeartbeats 4000000 in
theorem c_X4_examineOrder (l : Launch) (g : GG) (S : St) (a0 : Nat) : Ct l yX4_examineOrder cX4_examineOrder 1 none rm_X4_examineOrder g aU pU [rv g a0] S (f_X4_examineOrder S a0) := by
  refine Ct.mk (cf := cw (0, 0)) (by decide +kernel) (cat_r cat_n) (Nat.le_of_ble_eq_true rfl) rfl ?_
  intro X hXl hin C
  show J X g _ _ 0 [(0, rv g a0)] [] S (f_X4_examineOrder S a0)
  unfold f_X4_examineOrder
  refine J.aload_n (pc := 0) C (x := a0) dX4_examineOrder_0 rfl rfl ?_
  refine J.getR (pc := 1) C fl_RX4_18 rfl dX4_examineOrder_1 ?_
  refine J.getI (pc := 4) C fl_RX4_65 rfl dX4_examineOrder_4 ?_
  refine J.if_eq (pc := 7) C (tgt := 34) dX4_examineOrder_7 rfl ?_ ?_
  · refine J.aload_n (pc := 34) C (x := a0) dX4_examineOrder_34 rfl rfl ?_
    refine J.getR (pc := 35) C fl_RX4_18 rfl dX4_examineOrder_35 ?_
    refine J.vI (pc := 38) C mv_X2_wrongNumber wm_RX4_72 (fun l => c_X2_wrongNumber l g S (S.2.1 a0 2)) ⟨⟨Nat.zero_le _, Nat.zero_le _⟩, rfl, rfl⟩ rfl ⟨Nat.le_of_ble_eq_true rfl, Nat.le_of_ble_eq_true rfl⟩ rfl cat_n (Nat.le_of_ble_eq_true rfl) dX4_examineOrder_38 (fun r1 => ?_)
    refine J.if_lt (pc := 41) C (tgt := 63) dX4_examineOrder_41 rfl ?_ ?_
    · refine J.aload_n (pc := 63) C (x := a0) dX4_examineOrder_63 rfl rfl ?_
      refine J.vW (pc := 64) C mv_X4_isPossibleThen wm_RX4_76 (fun l => c_X4_isPossibleThen l g S a0) ⟨⟨Nat.zero_le _, Nat.zero_le _⟩, rfl, rfl⟩ rfl ⟨Nat.le_of_ble_eq_true rfl, Nat.le_of_ble_eq_true rfl⟩ rfl cat_n (Nat.le_of_ble_eq_true rfl) dX4_examineOrder_64 (fun r2 S_3 => ?_)
      refine J.if_ne (pc := 67) C (tgt := 75) dX4_examineOrder_67 rfl ?_ ?_
      · exact J.vret (pc := 75) C rfl rfl ⟨Nat.le_refl _, Nat.le_refl _⟩ dX4_examineOrder_75
      · refine J.aload_n (pc := 70) C (x := a0) dX4_examineOrder_70 rfl rfl ?_
        refine J.iconst (pc := 71) C dX4_examineOrder_71 ki_3 ?_
        refine J.putIs (pc := 72) C fl_RX4_52 rfl (fun r h => by cases h; rfl) rfl rfl dX4_examineOrder_72 (fun S_4 => ?_)
        exact J.vret (pc := 75) C rfl rfl ⟨Nat.le_refl _, Nat.le_refl _⟩ dX4_examineOrder_75
    · refine J.aload_n (pc := 44) C (x := a0) dX4_examineOrder_44 rfl rfl ?_
      refine J.iconst (pc := 45) C dX4_examineOrder_45 ki_2 ?_
      refine J.putIs (pc := 46) C fl_RX4_52 rfl (fun r h => by cases h; rfl) rfl rfl dX4_examineOrder_46 (fun S_5 => ?_)
      refine J.aload_n (pc := 49) C (x := a0) dX4_examineOrder_49 rfl rfl ?_
      refine J.aload_n (pc := 50) C (x := a0) dX4_examineOrder_50 rfl rfl ?_
      refine J.getR (pc := 51) C fl_RX4_18 rfl dX4_examineOrder_51 ?_
      refine J.vI (pc := 54) C mv_X2_wrongNumber wm_RX4_72 (fun l => c_X2_wrongNumber l g S_5 (S_5.2.1 a0 2)) ⟨⟨Nat.zero_le _, Nat.zero_le _⟩, rfl, rfl⟩ rfl ⟨Nat.le_of_ble_eq_true rfl, Nat.le_of_ble_eq_true rfl⟩ rfl (cat_r cat_n) (Nat.le_of_ble_eq_true rfl) dX4_examineOrder_54 (fun r6 => ?_)
      refine J.putIs (pc := 57) C fl_RX4_69 rfl (fun r h => by cases h; rfl) rfl rfl dX4_examineOrder_57 (fun S_7 => ?_)
      refine J.goto (pc := 60) C (tgt := 75) dX4_examineOrder_60 rfl ?_
      exact J.vret (pc := 75) C rfl rfl ⟨Nat.le_refl _, Nat.le_refl _⟩ dX4_examineOrder_75
  · refine J.aload_n (pc := 10) C (x := a0) dX4_examineOrder_10 rfl rfl ?_
    refine J.iconst (pc := 11) C dX4_examineOrder_11 ki_1 ?_
    refine J.putIs (pc := 12) C fl_RX4_52 rfl (fun r h => by cases h; rfl) rfl rfl dX4_examineOrder_12 (fun S_8 => ?_)
    refine J.aload_n (pc := 15) C (x := a0) dX4_examineOrder_15 rfl rfl ?_
    refine J.aload_n (pc := 16) C (x := a0) dX4_examineOrder_16 rfl rfl ?_
    refine J.getR (pc := 17) C fl_RX4_18 rfl dX4_examineOrder_17 ?_
    refine J.getI (pc := 20) C fl_RX4_62 rfl dX4_examineOrder_20 ?_
    refine J.aload_n (pc := 23) C (x := a0) dX4_examineOrder_23 rfl rfl ?_
    refine J.getI (pc := 24) C fl_RX4_49 rfl dX4_examineOrder_24 ?_
    refine J.isub (pc := 27) C dX4_examineOrder_27 ?_
    refine J.putIs (pc := 28) C fl_RX4_69 rfl (fun r h => by cases h; rfl) rfl rfl dX4_examineOrder_28 (fun S_9 => ?_)
    refine J.goto (pc := 31) C (tgt := 75) dX4_examineOrder_31 rfl ?_
    exact J.vret (pc := 75) C rfl rfl ⟨Nat.le_refl _, Nat.le_refl _⟩ dX4_examineOrder_75
abbrev rm_X4_examine : Room := { frames := 4, cells := 0, slots := 0, locals := 87 }
def f_X4_examine_B41 (a0 : Nat) (kx41 : St → Option St) (k41 : St → Int32 → Option St) (S : St) (x2 : Int32) : Option St :=
  (if (80 : Int32) ≤ x2 then
  (kx41 S)
  else (chk (okc S 4 a0)
  (chk (okc S 4 a0)
  (if (S.1 a0 1) ≤ (S.1 a0 4) then
  (kx41 S)
  else (chk (okc S 4 a0)
  (if (S.1 a0 5) = 0 then
  (chk (okc S 4 a0)
  (chk (okc S 4 a0)
  (chk (okc S 2 (S.2.1 a0 2)) (bnd (f_X2_read S (S.2.1 a0 2) a0 (S.1 a0 4)) fun S_7 =>
  (chk (okc S_7 4 a0) (bnd (f_X4_examineOrder S_7 a0) fun S_8 =>
  (chk (okc S_8 4 a0)
  (if (S_8.1 a0 5) = 0 then
  (chk (okc S_8 4 a0)
  (chk (okc S_8 2 (S_8.2.1 a0 2))
  (chk (okc S_8 4 a0) (vlt (upI S_8 a0 4 (S_8.1 (S_8.2.1 a0 2) 2)) fun S_9 =>
  (chk (okc S_9 4 a0)
  (chk (okc S_9 4 a0) (vlt (upI S_9 a0 3 ((S_9.1 a0 3) + 1)) fun S_10 =>
  (k41 S_10 (x2 + 1)))))))))
  else (k41 S_8 (x2 + 1))))))))))
  else (kx41 S)))))))
set_option maxRecDepth 100000 in
set_option maxHeartbeats 4000000 in
theorem w_X4_examine_B41 {X : CT} {g : GG} (C : CX X g cX4_examine RX4 none 3 rm_X4_examine) (a0 : Nat) (kx41 : St → Option St) (hkx41 : ∀ (S : St), J X g (Qm X g aU pU) (cw (0, 0)) 115 [] [] S (kx41 S)) : ∀ (n : Nat) (S : St) (x2 : Int32), J X g (Qm X g aU pU) (cw (0, 0)) 41 [(0, rv g a0), (2, .int x2)] [] S (wl2 (f_X4_examine_B41 a0 kx41) n S x2) := by
  refine J.loop2 (lvf := fun (S : St) (x2 : Int32) => [(0, rv g a0), (2, .int x2)]) (Sf := fun (S : St) (x2 : Int32) => S) ?_
  intro k41 hk41 S x2
  show J X g _ _ 41 [(0, rv g a0), (2, .int x2)] [] S (f_X4_examine_B41 a0 kx41 k41 S x2)
  unfold f_X4_examine_B41
  refine J.iload_n (pc := 41) C dX4_examine_41 rfl rfl ?_
  refine J.bipush (pc := 42) C dX4_examine_42 kb_80 ?_
  refine J.icmp_ge (pc := 44) C (tgt := 115) dX4_examine_44 rfl ?_ ?_
  · exact J.pick [] rfl (hkx41 _)
  · refine J.aload_n (pc := 47) C (x := a0) dX4_examine_47 rfl rfl ?_
    refine J.getI (pc := 48) C fl_RX4_49 rfl dX4_examine_48 ?_
    refine J.aload_n (pc := 51) C (x := a0) dX4_examine_51 rfl rfl ?_
    refine J.getI (pc := 52) C fl_RX4_22 rfl dX4_examine_52 ?_
    refine J.icmp_ge (pc := 55) C (tgt := 115) dX4_examine_55 rfl ?_ ?_
    · exact J.pick [] rfl (hkx41 _)
    · refine J.aload_n (pc := 58) C (x := a0) dX4_examine_58 rfl rfl ?_
      refine J.getI (pc := 59) C fl_RX4_52 rfl dX4_examine_59 ?_
      refine J.if_ne (pc := 62) C (tgt := 115) dX4_examine_62 rfl ?_ ?_
      · exact J.pick [] rfl (hkx41 _)
      · refine J.aload_n (pc := 65) C (x := a0) dX4_examine_65 rfl rfl ?_
        refine J.getR (pc := 66) C fl_RX4_18 rfl dX4_examine_66 ?_
        refine J.aload_n (pc := 69) C (x := a0) dX4_examine_69 rfl rfl ?_
        refine J.aload_n (pc := 70) C (x := a0) dX4_examine_70 rfl rfl ?_
        refine J.getI (pc := 71) C fl_RX4_49 rfl dX4_examine_71 ?_
        refine J.vU (pc := 74) C mv_X2_read wm_RX4_55 (fun l => c_X2_read l g S (S.2.1 a0 2) a0 (S.1 a0 4)) ⟨⟨Nat.zero_le _, Nat.zero_le _⟩, rfl, rfl⟩ rfl ⟨Nat.le_of_ble_eq_true rfl, Nat.le_of_ble_eq_true rfl⟩ rfl cat_n (Nat.le_of_ble_eq_true rfl) dX4_examine_74 (fun S_7 => ?_)
        refine J.aload_n (pc := 77) C (x := a0) dX4_examine_77 rfl rfl ?_
        refine J.vU (pc := 78) C mv_X4_examineOrder wm_RX4_59 (fun l => c_X4_examineOrder l g S_7 a0) ⟨⟨Nat.zero_le _, Nat.zero_le _⟩, rfl, rfl⟩ rfl ⟨Nat.le_of_ble_eq_true rfl, Nat.le_of_ble_eq_true rfl⟩ rfl cat_n (Nat.le_of_ble_eq_true rfl) dX4_examine_78 (fun S_8 => ?_)
        refine J.aload_n (pc := 81) C (x := a0) dX4_examine_81 rfl rfl ?_
        refine J.getI (pc := 82) C fl_RX4_52 rfl dX4_examine_82 ?_
        refine J.if_ne (pc := 85) C (tgt := 109) dX4_examine_85 rfl ?_ ?_
        · refine J.iinc (pc := 109) C (lv' := [(0, rv g a0), (2, .int (x2 + 1))]) dX4_examine_109 rfl (Nat.le_of_ble_eq_true rfl) ki_1 rfl ?_
          refine J.goto (pc := 112) C (tgt := 41) dX4_examine_112 rfl ?_
          exact (hk41 _ _)
        · refine J.aload_n (pc := 88) C (x := a0) dX4_examine_88 rfl rfl ?_
          refine J.aload_n (pc := 89) C (x := a0) dX4_examine_89 rfl rfl ?_
          refine J.getR (pc := 90) C fl_RX4_18 rfl dX4_examine_90 ?_
          refine J.getI (pc := 93) C fl_RX4_62 rfl dX4_examine_93 ?_
          refine J.putIs (pc := 96) C fl_RX4_49 rfl (fun r h => by cases h; rfl) rfl rfl dX4_examine_96 (fun S_9 => ?_)
          refine J.aload_n (pc := 99) C (x := a0) dX4_examine_99 rfl rfl ?_
          refine J.dup (pc := 100) C dX4_examine_100 (rv_cat g _) ?_
          refine J.getI (pc := 101) C fl_RX4_46 rfl dX4_examine_101 ?_
          refine J.iconst (pc := 104) C dX4_examine_104 ki_1 ?_
          refine J.iadd (pc := 105) C dX4_examine_105 ?_
          refine J.putIs (pc := 106) C fl_RX4_46 rfl (fun r h => by cases h; rfl) rfl rfl dX4_examine_106 (fun S_10 => ?_)
          refine J.iinc (pc := 109) C (lv' := [(0, rv g a0), (2, .int (x2 + 1))]) dX4_examine_109 rfl (Nat.le_of_ble_eq_true rfl) ki_1 rfl ?_
          refine J.goto (pc := 112) C (tgt := 41) dX4_examine_112 rfl ?_
          exact (hk41 _ _)
def f_X4_examine (S : St) (a0 : Nat) (a1 : Nat) : Option St :=
  (chk (okc S 3 a1)
  (chk (okc S 4 a0) (vlt (upI S a0 7 (S.1 a1 2)) fun S_1 =>
  (chk (okc S_1 3 a1)
  (chk (okc S_1 4 a0) (vlt (upI S_1 a0 8 (S_1.1 a1 6)) fun S_2 =>
  (chk (okc S_2 3 a1)
  (chk (okc S_2 4 a0) (vlt (upI S_2 a0 9 (S_2.1 a1 7)) fun S_3 =>
  (chk (okc S_3 4 a0) (vlt (upI S_3 a0 3 0) fun S_4 =>
  (chk (okc S_4 4 a0) (vlt (upI S_4 a0 4 0) fun S_5 =>
  (chk (okc S_5 4 a0) (vlt (upI S_5 a0 5 0) fun S_6 =>
  (wl2 (f_X4_examine_B41 a0 (fun (S_11 : St) => (some S_11))) FU S_6 0))))))))))))))))
set_option maxRecDepth 100000 in
set_option maxHeartbeats 4000000 in
theorem c_X4_examine (l : Launch) (g : GG) (S : St) (a0 : Nat) (a1 : Nat) : Ct l yX4_examine cX4_examine 3 none rm_X4_examine g aU pU [rv g a0, rv g a1] S (f_X4_examine S a0 a1) := by
  refine Ct.mk (cf := cw (0, 0)) (by decide +kernel) (cat_r (cat_r cat_n)) (Nat.le_of_ble_eq_true rfl) rfl ?_
  intro X hXl hin C
  show J X g _ _ 0 [(0, rv g a0), (1, rv g a1)] [] S (f_X4_examine S a0 a1)
  unfold f_X4_examine
  refine J.aload_n (pc := 0) C (x := a0) dX4_examine_0 rfl rfl ?_
  refine J.aload_n (pc := 1) C (x := a1) dX4_examine_1 rfl rfl ?_
  refine J.getI (pc := 2) C fl_RX4_26 rfl dX4_examine_2 ?_
  refine J.putIs (pc := 5) C fl_RX4_31 rfl (fun r h => by cases h; rfl) rfl rfl dX4_examine_5 (fun S_1 => ?_)
  refine J.aload_n (pc := 8) C (x := a0) dX4_examine_8 rfl rfl ?_
  refine J.aload_n (pc := 9) C (x := a1) dX4_examine_9 rfl rfl ?_
  refine J.getI (pc := 10) C fl_RX4_34 rfl dX4_examine_10 ?_
  refine J.putIs (pc := 13) C fl_RX4_37 rfl (fun r h => by cases h; rfl) rfl rfl dX4_examine_13 (fun S_2 => ?_)
  refine J.aload_n (pc := 16) C (x := a0) dX4_examine_16 rfl rfl ?_
  refine J.aload_n (pc := 17) C (x := a1) dX4_examine_17 rfl rfl ?_
  refine J.getI (pc := 18) C fl_RX4_40 rfl dX4_examine_18 ?_
  refine J.putIs (pc := 21) C fl_RX4_43 rfl (fun r h => by cases h; rfl) rfl rfl dX4_examine_21 (fun S_3 => ?_)
  refine J.aload_n (pc := 24) C (x := a0) dX4_examine_24 rfl rfl ?_
  refine J.iconst (pc := 25) C dX4_examine_25 ki_0 ?_
  refine J.putIs (pc := 26) C fl_RX4_46 rfl (fun r h => by cases h; rfl) rfl rfl dX4_examine_26 (fun S_4 => ?_)
  refine J.aload_n (pc := 29) C (x := a0) dX4_examine_29 rfl rfl ?_
  refine J.iconst (pc := 30) C dX4_examine_30 ki_0 ?_
  refine J.putIs (pc := 31) C fl_RX4_49 rfl (fun r h => by cases h; rfl) rfl rfl dX4_examine_31 (fun S_5 => ?_)
  refine J.aload_n (pc := 34) C (x := a0) dX4_examine_34 rfl rfl ?_
  refine J.iconst (pc := 35) C dX4_examine_35 ki_0 ?_
  refine J.putIs (pc := 36) C fl_RX4_52 rfl (fun r h => by cases h; rfl) rfl rfl dX4_examine_36 (fun S_6 => ?_)
  refine J.iconst (pc := 39) C dX4_examine_39 ki_0 ?_
  refine J.istore_n (pc := 40) C (lv' := [(0, rv g a0), (1, rv g a1), (2, .int 0)]) dX4_examine_40 rfl (Nat.le_of_ble_eq_true rfl) rfl ?_
  refine J.pick [0, 2] rfl ?_
  refine w_X4_examine_B41 C _ _ (fun S_11 => ?_) FU _ _
  exact J.vret (pc := 115) C rfl rfl ⟨Nat.le_refl _, Nat.le_refl _⟩ dX4_examine_115
abbrev rm_X7_fault : Room := { frames := 5, cells := 0, slots := 0, locals := 109 }
def f_X7_fault_J52 (S : St) (x0 : Nat) (x1 : Int32) : Option (Int32 × St) :=
  (if x1 = 0 then
  (chk (okc S 7 x0)
  (chk (okc S 4 (S.2.1 x0 3))
  (some (S.1 (S.2.1 x0 3) 4, S))))
  else (if x1 = 1 then
  (chk (okc S 7 x0)
  (chk (okc S 4 (S.2.1 x0 3))
  (some (S.1 (S.2.1 x0 3) 5, S))))
  else (chk (okc S 7 x0)
  (chk (okc S 4 (S.2.1 x0 3))
  (some (S.1 (S.2.1 x0 3) 6, S))))))
set_option maxRecDepth 100000 in
set_option maxHeartbeats 4000000 in
theorem w_X7_fault_J52 {X : CT} {g : GG} (C : CX X g cX7_fault RX7 (some .int) 2 rm_X7_fault) (S : St) (x0 : Nat) (x1 : Int32) : J X g (Qm X g aW pW) (cw (0, 0)) 52 [(0, rv g x0), (1, .int x1)] [] S (f_X7_fault_J52 S x0 x1) := by
  unfold f_X7_fault_J52
  refine J.iload_n (pc := 52) C dX7_fault_52 rfl rfl ?_
  refine J.if_ne (pc := 53) C (tgt := 64) dX7_fault_53 rfl ?_ ?_
  · refine J.iload_n (pc := 64) C dX7_fault_64 rfl rfl ?_
    refine J.iconst (pc := 65) C dX7_fault_65 ki_1 ?_
    refine J.icmp_ne (pc := 66) C (tgt := 79) dX7_fault_66 rfl ?_ ?_
    · refine J.aload_n (pc := 79) C (x := x0) dX7_fault_79 rfl rfl ?_
      refine J.getR (pc := 80) C fl_RX7_27 rfl dX7_fault_80 ?_
      refine J.getI (pc := 83) C fl_RX7_273 rfl dX7_fault_83 ?_
      exact J.iret (pc := 86) C rfl rfl ⟨Nat.le_refl _, Nat.le_refl _⟩ dX7_fault_86
    · refine J.aload_n (pc := 69) C (x := x0) dX7_fault_69 rfl rfl ?_
      refine J.getR (pc := 70) C fl_RX7_27 rfl dX7_fault_70 ?_
      refine J.getI (pc := 73) C fl_RX7_267 rfl dX7_fault_73 ?_
      refine J.goto (pc := 76) C (tgt := 86) dX7_fault_76 rfl ?_
      exact J.iret (pc := 86) C rfl rfl ⟨Nat.le_refl _, Nat.le_refl _⟩ dX7_fault_86
  · refine J.aload_n (pc := 56) C (x := x0) dX7_fault_56 rfl rfl ?_
    refine J.getR (pc := 57) C fl_RX7_27 rfl dX7_fault_57 ?_
    refine J.getI (pc := 60) C fl_RX7_270 rfl dX7_fault_60 ?_
    exact J.iret (pc := 63) C rfl rfl ⟨Nat.le_refl _, Nat.le_refl _⟩ dX7_fault_63
def f_X7_fault (S : St) (a0 : Nat) (a1 : Int32) : Option (Int32 × St) :=
  (bnd (f_X7_isWithin a1 0 2) fun r1 =>
  (if r1 = 0 then
  (some ((-10000001), S))
  else (chk (okc S 7 a0)
  (chk (okc S 7 a0)
  (chk (okc S 4 (S.2.1 a0 3)) (bnd (f_X4_examine S (S.2.1 a0 3) (S.2.1 a0 0)) fun S_2 =>
  (chk (okc S_2 7 a0)
  (chk (okc S_2 4 (S_2.2.1 a0 3))
  (if (S_2.1 (S_2.2.1 a0 3) 5) = 0 then
  (some ((-10000004), S_2))
  else (if a1 = 2 then
  (chk (okc S_2 7 a0)
  (chk (okc S_2 4 (S_2.2.1 a0 3))
  (if (S_2.1 (S_2.2.1 a0 3) 5) = 3 then
  (some ((-10000004), S_2))
  else (f_X7_fault_J52 S_2 a0 a1))))
  else (f_X7_fault_J52 S_2 a0 a1)))))))))))
set_option maxRecDepth 100000 in
set_option maxHeartbeats 4000000 in
theorem c_X7_fault (l : Launch) (g : GG) (S : St) (a0 : Nat) (a1 : Int32) : Ct l yX7_fault cX7_fault 2 (some .int) rm_X7_fault g aW pW [rv g a0, .int a1] S (f_X7_fault S a0 a1) := by
  refine Ct.mk (cf := cw (0, 0)) (by decide +kernel) (cat_r (cat_i cat_n)) (Nat.le_of_ble_eq_true rfl) rfl ?_
  intro X hXl hin C
  show J X g _ _ 0 [(0, rv g a0), (1, .int a1)] [] S (f_X7_fault S a0 a1)
  unfold f_X7_fault
  refine J.iload_n (pc := 0) C dX7_fault_0 rfl rfl ?_
  refine J.iconst (pc := 1) C dX7_fault_1 ki_0 ?_
  refine J.iconst (pc := 2) C dX7_fault_2 ki_2 ?_
  refine J.sI (pc := 3) C ms_X7_isWithin wm_RX7_56 (fun l => c_X7_isWithin l g S a1 0 2) ⟨⟨Nat.zero_le _, Nat.zero_le _⟩, rfl, rfl⟩ rfl ⟨Nat.le_of_ble_eq_true rfl, Nat.le_of_ble_eq_true rfl⟩ rfl cat_n (Nat.le_of_ble_eq_true rfl) dX7_fault_3 (fun r1 => ?_)
  refine J.if_ne (pc := 6) C (tgt := 12) dX7_fault_6 rfl ?_ ?_
  · refine J.aload_n (pc := 12) C (x := a0) dX7_fault_12 rfl rfl ?_
    refine J.getR (pc := 13) C fl_RX7_27 rfl dX7_fault_13 ?_
    refine J.aload_n (pc := 16) C (x := a0) dX7_fault_16 rfl rfl ?_
    refine J.getR (pc := 17) C fl_RX7_12 rfl dX7_fault_17 ?_
    refine J.vU (pc := 20) C mv_X4_examine wm_RX7_264 (fun l => c_X4_examine l g S (S.2.1 a0 3) (S.2.1 a0 0)) ⟨⟨Nat.zero_le _, Nat.zero_le _⟩, rfl, rfl⟩ rfl ⟨Nat.le_of_ble_eq_true rfl, Nat.le_of_ble_eq_true rfl⟩ rfl cat_n (Nat.le_of_ble_eq_true rfl) dX7_fault_20 (fun S_2 => ?_)
    refine J.aload_n (pc := 23) C (x := a0) dX7_fault_23 rfl rfl ?_
    refine J.getR (pc := 24) C fl_RX7_27 rfl dX7_fault_24 ?_
    refine J.getI (pc := 27) C fl_RX7_267 rfl dX7_fault_27 ?_
    refine J.if_eq (pc := 30) C (tgt := 49) dX7_fault_30 rfl ?_ ?_
    · refine J.ldc (pc := 49) C wc_RX7_163 dX7_fault_49 ?_
      exact J.iret (pc := 51) C rfl rfl ⟨Nat.le_refl _, Nat.le_refl _⟩ dX7_fault_51
    · refine J.iload_n (pc := 33) C dX7_fault_33 rfl rfl ?_
      refine J.iconst (pc := 34) C dX7_fault_34 ki_2 ?_
      refine J.icmp_ne (pc := 35) C (tgt := 52) dX7_fault_35 rfl ?_ ?_
      · exact (w_X7_fault_J52 C _ _ _)
      · refine J.aload_n (pc := 38) C (x := a0) dX7_fault_38 rfl rfl ?_
        refine J.getR (pc := 39) C fl_RX7_27 rfl dX7_fault_39 ?_
        refine J.getI (pc := 42) C fl_RX7_267 rfl dX7_fault_42 ?_
        refine J.iconst (pc := 45) C dX7_fault_45 ki_3 ?_
        refine J.icmp_ne (pc := 46) C (tgt := 52) dX7_fault_46 rfl ?_ ?_
        · exact (w_X7_fault_J52 C _ _ _)
        · refine J.ldc (pc := 49) C wc_RX7_163 dX7_fault_49 ?_
          exact J.iret (pc := 51) C rfl rfl ⟨Nat.le_refl _, Nat.le_refl _⟩ dX7_fault_51
  · refine J.ldc (pc := 9) C wc_RX7_60 dX7_fault_9 ?_
    exact J.iret (pc := 11) C rfl rfl ⟨Nat.le_refl _, Nat.le_refl _⟩ dX7_fault_11
abbrev rm_X7_rowFits : Room := { frames := 3, cells := 0, slots := 0, locals := 74 }
def f_X7_rowFits_B26 (S : St) (a0 : Nat) (a1 : Nat) (a2 : Int32) (a3 : Int32) (kx26 : Option (Int32 × St)) (k26 : Int32 → Option (Int32 × St)) (x4 : Int32) : Option (Int32 × St) :=
  (chk (okc S 7 a0)
  (chk (okc S 3 (S.2.1 a0 0)) (bnd (f_X3_setting S (S.2.1 a0 0) 1) fun r3 =>
  (if r3 ≤ x4 then
  kx26
  else (chk (okc S 0 a1) (bnd (f_X0_pixelAt S a1 a2 x4) fun r4 =>
  (chk (okc S 7 a0)
  (bnd (f_X7_numberIn S (S.2.1 a0 7) x4) fun r5 =>
  (bnd (f_X7_dimmed r5 a3) fun r6 =>
  (if r4 = r6 then
  (k26 (x4 + 1))
  else (some (0, S))))))))))))
set_option maxRecDepth 100000 in
set_option maxHeartbeats 4000000 in
theorem w_X7_rowFits_B26 {X : CT} {g : GG} (C : CX X g cX7_rowFits RX7 (some .boolean) 5 rm_X7_rowFits) (S : St) (a0 : Nat) (a1 : Nat) (a2 : Int32) (a3 : Int32) (kx26 : Option (Int32 × St)) (hkx26 : J X g (Qm X g aW pW) (cw (0, 0)) 70 [] [] S (kx26)) : ∀ (n : Nat) (x4 : Int32), J X g (Qm X g aW pW) (cw (0, 0)) 26 [(0, rv g a0), (1, rv g a1), (2, .int a2), (3, .int a3), (4, .int x4)] [] S (wl1 (f_X7_rowFits_B26 S a0 a1 a2 a3 kx26) n x4) := by
  refine J.loop1 (lvf := fun (x4 : Int32) => [(0, rv g a0), (1, rv g a1), (2, .int a2), (3, .int a3), (4, .int x4)]) (Sf := fun (x4 : Int32) => S) ?_
  intro k26 hk26 x4
  show J X g _ _ 26 [(0, rv g a0), (1, rv g a1), (2, .int a2), (3, .int a3), (4, .int x4)] [] S (f_X7_rowFits_B26 S a0 a1 a2 a3 kx26 k26 x4)
  unfold f_X7_rowFits_B26
  refine J.iload (pc := 26) C dX7_rowFits_26 rfl ?_
  refine J.aload_n (pc := 28) C (x := a0) dX7_rowFits_28 rfl rfl ?_
  refine J.getR (pc := 29) C fl_RX7_12 rfl dX7_rowFits_29 ?_
  refine J.iconst (pc := 32) C dX7_rowFits_32 ki_1 ?_
  refine J.vI (pc := 33) C mv_X3_setting wm_RX7_78 (fun l => c_X3_setting l g S (S.2.1 a0 0) 1) ⟨⟨Nat.zero_le _, Nat.zero_le _⟩, rfl, rfl⟩ rfl ⟨Nat.le_of_ble_eq_true rfl, Nat.le_of_ble_eq_true rfl⟩ rfl (cat_i cat_n) (Nat.le_of_ble_eq_true rfl) dX7_rowFits_33 (fun r3 => ?_)
  refine J.icmp_ge (pc := 36) C (tgt := 70) dX7_rowFits_36 rfl ?_ ?_
  · exact J.pick [] rfl hkx26
  · refine J.aload_n (pc := 39) C (x := a1) dX7_rowFits_39 rfl rfl ?_
    refine J.iload_n (pc := 40) C dX7_rowFits_40 rfl rfl ?_
    refine J.iload (pc := 41) C dX7_rowFits_41 rfl ?_
    refine J.vI (pc := 43) C mv_X0_pixelAt wm_RX7_164 (fun l => c_X0_pixelAt l g S a1 a2 x4) ⟨⟨Nat.zero_le _, Nat.zero_le _⟩, rfl, rfl⟩ rfl ⟨Nat.le_of_ble_eq_true rfl, Nat.le_of_ble_eq_true rfl⟩ rfl cat_n (Nat.le_of_ble_eq_true rfl) dX7_rowFits_43 (fun r4 => ?_)
    refine J.aload_n (pc := 46) C (x := a0) dX7_rowFits_46 rfl rfl ?_
    refine J.getR (pc := 47) C fl_RX7_52 rfl dX7_rowFits_47 ?_
    refine J.iload (pc := 50) C dX7_rowFits_50 rfl ?_
    refine J.sI (pc := 52) C ms_X7_numberIn wm_RX7_64 (fun l => c_X7_numberIn l g S (S.2.1 a0 7) x4) ⟨⟨Nat.zero_le _, Nat.zero_le _⟩, rfl, rfl⟩ rfl ⟨Nat.le_of_ble_eq_true rfl, Nat.le_of_ble_eq_true rfl⟩ rfl (cat_i cat_n) (Nat.le_of_ble_eq_true rfl) dX7_rowFits_52 (fun r5 => ?_)
    refine J.iload_n (pc := 55) C dX7_rowFits_55 rfl rfl ?_
    refine J.sI (pc := 56) C ms_X7_dimmed wm_RX7_141 (fun l => c_X7_dimmed l g S r5 a3) ⟨⟨Nat.zero_le _, Nat.zero_le _⟩, rfl, rfl⟩ rfl ⟨Nat.le_of_ble_eq_true rfl, Nat.le_of_ble_eq_true rfl⟩ rfl (cat_i cat_n) (Nat.le_of_ble_eq_true rfl) dX7_rowFits_56 (fun r6 => ?_)
    refine J.icmp_eq (pc := 59) C (tgt := 64) dX7_rowFits_59 rfl ?_ ?_
    · refine J.iinc (pc := 64) C (lv' := [(0, rv g a0), (1, rv g a1), (2, .int a2), (3, .int a3), (4, .int (x4 + 1))]) dX7_rowFits_64 rfl (Nat.le_of_ble_eq_true rfl) ki_1 rfl ?_
      refine J.goto (pc := 67) C (tgt := 26) dX7_rowFits_67 rfl ?_
      exact (hk26 _)
    · refine J.iconst (pc := 62) C dX7_rowFits_62 ki_0 ?_
      exact J.zret (pc := 63) C rfl rfl rfl ⟨Nat.le_refl _, Nat.le_refl _⟩ dX7_rowFits_63
def f_X7_rowFits (S : St) (a0 : Nat) (a1 : Nat) (a2 : Int32) (a3 : Int32) : Option (Int32 × St) :=
  (chk (okc S 7 a0)
  (chk (okc S 7 a0)
  (chk (okc S 3 (S.2.1 a0 0)) (bnd (f_X3_timeOfRow S (S.2.1 a0 0) a1 a2) fun r1 =>
  (chk (okc S 7 a0)
  (chk (okc S 3 (S.2.1 a0 0)) (bnd (f_X3_paint S (S.2.1 a0 0) a2 r1 (-1) 0 (S.2.1 a0 7)) fun S_2 =>
  (wl1 (f_X7_rowFits_B26 S_2 a0 a1 a2 a3 (some (1, S_2))) FU 0))))))))
set_option maxRecDepth 100000 in
set_option maxHeartbeats 4000000 in
theorem c_X7_rowFits (l : Launch) (g : GG) (S : St) (a0 : Nat) (a1 : Nat) (a2 : Int32) (a3 : Int32) : Ct l yX7_rowFits cX7_rowFits 5 (some .boolean) rm_X7_rowFits g aW pW [rv g a0, rv g a1, .int a2, .int a3] S (f_X7_rowFits S a0 a1 a2 a3) := by
  refine Ct.mk (cf := cw (0, 0)) (by decide +kernel) (cat_r (cat_r (cat_i (cat_i cat_n)))) (Nat.le_of_ble_eq_true rfl) rfl ?_
  intro X hXl hin C
  show J X g _ _ 0 [(0, rv g a0), (1, rv g a1), (2, .int a2), (3, .int a3)] [] S (f_X7_rowFits S a0 a1 a2 a3)
  unfold f_X7_rowFits
  refine J.aload_n (pc := 0) C (x := a0) dX7_rowFits_0 rfl rfl ?_
  refine J.getR (pc := 1) C fl_RX7_12 rfl dX7_rowFits_1 ?_
  refine J.iload_n (pc := 4) C dX7_rowFits_4 rfl rfl ?_
  refine J.aload_n (pc := 5) C (x := a0) dX7_rowFits_5 rfl rfl ?_
  refine J.getR (pc := 6) C fl_RX7_12 rfl dX7_rowFits_6 ?_
  refine J.aload_n (pc := 9) C (x := a1) dX7_rowFits_9 rfl rfl ?_
  refine J.iload_n (pc := 10) C dX7_rowFits_10 rfl rfl ?_
  refine J.vI (pc := 11) C mv_X3_timeOfRow wm_RX7_241 (fun l => c_X3_timeOfRow l g S (S.2.1 a0 0) a1 a2) ⟨⟨Nat.zero_le _, Nat.zero_le _⟩, rfl, rfl⟩ rfl ⟨Nat.le_of_ble_eq_true rfl, Nat.le_of_ble_eq_true rfl⟩ rfl (cat_i (cat_r cat_n)) (Nat.le_of_ble_eq_true rfl) dX7_rowFits_11 (fun r1 => ?_)
  refine J.iconst (pc := 14) C dX7_rowFits_14 ki_m1 ?_
  refine J.iconst (pc := 15) C dX7_rowFits_15 ki_0 ?_
  refine J.aload_n (pc := 16) C (x := a0) dX7_rowFits_16 rfl rfl ?_
  refine J.getR (pc := 17) C fl_RX7_52 rfl dX7_rowFits_17 ?_
  refine J.vU (pc := 20) C mv_X3_paint wm_RX7_134 (fun l => c_X3_paint l g S (S.2.1 a0 0) a2 r1 (-1) 0 (S.2.1 a0 7)) ⟨⟨Nat.zero_le _, Nat.zero_le _⟩, rfl, rfl⟩ rfl ⟨Nat.le_of_ble_eq_true rfl, Nat.le_of_ble_eq_true rfl⟩ rfl cat_n (Nat.le_of_ble_eq_true rfl) dX7_rowFits_20 (fun S_2 => ?_)
  refine J.iconst (pc := 23) C dX7_rowFits_23 ki_0 ?_
  refine J.istore (pc := 24) C (lv' := [(0, rv g a0), (1, rv g a1), (2, .int a2), (3, .int a3), (4, .int 0)]) dX7_rowFits_24 (Nat.le_of_ble_eq_true rfl) rfl ?_
  refine w_X7_rowFits_B26 C _ _ _ _ _ _ ?_ FU _
  refine J.iconst (pc := 70) C dX7_rowFits_70 ki_1 ?_
  exact J.zret (pc := 71) C rfl rfl rfl ⟨Nat.le_refl _, Nat.le_refl _⟩ dX7_rowFits_71
abbrev rm_X7_fitting : Room := { frames := 4, cells := 0, slots := 0, locals := 98 }
def f_X7_fitting_B21 (a0 : Nat) (a2 : Nat) (kx21 : St → Int32 → Option (Int32 × St)) (k21 : St → Int32 → Int32 → Option (Int32 × St)) (S : St) (x3 : Int32) (x4 : Int32) : Option (Int32 × St) :=
  (chk (okc S 7 a0)
  (chk (okc S 3 (S.2.1 a0 0)) (bnd (f_X3_setting S (S.2.1 a0 0) 0) fun r2 =>
  (if r2 ≤ x4 then
  (kx21 S x3)
  else (chk (okc S 7 a0)
  (chk (okc S 3 (S.2.1 a0 0)) (bnd (f_X3_timeOfRow S (S.2.1 a0 0) a2 x4) fun r3 =>
  (chk (okc S 0 a2)
  (bnd (f_X7_holds (S.1 a2 1) x4) fun r4 =>
  (if r4 = 0 then
  (chk (okc S 7 a0)
  (chk (okc S 3 (S.2.1 a0 0)) (bnd (f_X3_percentAt S (S.2.1 a0 0) r3) fun r5 =>
  (chk (okc S 7 a0) (bnd2 (f_X7_rowFits S a0 a2 x4 r5) fun r6 S_7 =>
  (if r6 = 0 then
  (k21 S_7 x3 (x4 + 1))
  else (k21 S_7 (x3 ||| (1 <<< (x4 &&& 31))) (x4 + 1))))))))
  else (k21 S x3 (x4 + 1))))))))))))
set_option maxRecDepth 100000 in
set_option maxHeartbeats 4000000 in
theorem w_X7_fitting_B21 {X : CT} {g : GG} (C : CX X g cX7_fitting RX7 (some .int) 6 rm_X7_fitting) (a0 : Nat) (a2 : Nat) (kx21 : St → Int32 → Option (Int32 × St)) (hkx21 : ∀ (S : St) (x3 : Int32), J X g (Qm X g aW pW) (cw (0, 0)) 90 [(3, .int x3)] [] S (kx21 S x3)) : ∀ (n : Nat) (S : St) (x3 : Int32) (x4 : Int32), J X g (Qm X g aW pW) (cw (0, 0)) 21 [(0, rv g a0), (2, rv g a2), (3, .int x3), (4, .int x4)] [] S (wl3 (f_X7_fitting_B21 a0 a2 kx21) n S x3 x4) := by
  refine J.loop3 (lvf := fun (S : St) (x3 : Int32) (x4 : Int32) => [(0, rv g a0), (2, rv g a2), (3, .int x3), (4, .int x4)]) (Sf := fun (S : St) (x3 : Int32) (x4 : Int32) => S) ?_
  intro k21 hk21 S x3 x4
  show J X g _ _ 21 [(0, rv g a0), (2, rv g a2), (3, .int x3), (4, .int x4)] [] S (f_X7_fitting_B21 a0 a2 kx21 k21 S x3 x4)
  unfold f_X7_fitting_B21
  refine J.iload (pc := 21) C dX7_fitting_21 rfl ?_
  refine J.aload_n (pc := 23) C (x := a0) dX7_fitting_23 rfl rfl ?_
  refine J.getR (pc := 24) C fl_RX7_12 rfl dX7_fitting_24 ?_
  refine J.iconst (pc := 27) C dX7_fitting_27 ki_0 ?_
  refine J.vI (pc := 28) C mv_X3_setting wm_RX7_78 (fun l => c_X3_setting l g S (S.2.1 a0 0) 0) ⟨⟨Nat.zero_le _, Nat.zero_le _⟩, rfl, rfl⟩ rfl ⟨Nat.le_of_ble_eq_true rfl, Nat.le_of_ble_eq_true rfl⟩ rfl (cat_i cat_n) (Nat.le_of_ble_eq_true rfl) dX7_fitting_28 (fun r2 => ?_)
  refine J.icmp_ge (pc := 31) C (tgt := 90) dX7_fitting_31 rfl ?_ ?_
  · exact J.pick [2] rfl (hkx21 _ _)
  · refine J.aload_n (pc := 34) C (x := a0) dX7_fitting_34 rfl rfl ?_
    refine J.getR (pc := 35) C fl_RX7_12 rfl dX7_fitting_35 ?_
    refine J.aload_n (pc := 38) C (x := a2) dX7_fitting_38 rfl rfl ?_
    refine J.iload (pc := 39) C dX7_fitting_39 rfl ?_
    refine J.vI (pc := 41) C mv_X3_timeOfRow wm_RX7_241 (fun l => c_X3_timeOfRow l g S (S.2.1 a0 0) a2 x4) ⟨⟨Nat.zero_le _, Nat.zero_le _⟩, rfl, rfl⟩ rfl ⟨Nat.le_of_ble_eq_true rfl, Nat.le_of_ble_eq_true rfl⟩ rfl cat_n (Nat.le_of_ble_eq_true rfl) dX7_fitting_41 (fun r3 => ?_)
    refine J.istore (pc := 44) C (lv' := [(0, rv g a0), (2, rv g a2), (3, .int x3), (4, .int x4), (5, .int r3)]) dX7_fitting_44 (Nat.le_of_ble_eq_true rfl) rfl ?_
    refine J.aload_n (pc := 46) C (x := a2) dX7_fitting_46 rfl rfl ?_
    refine J.getI (pc := 47) C fl_RX7_158 rfl dX7_fitting_47 ?_
    refine J.iload (pc := 50) C dX7_fitting_50 rfl ?_
    refine J.sI (pc := 52) C ms_X7_holds wm_RX7_122 (fun l => c_X7_holds l g S (S.1 a2 1) x4) ⟨⟨Nat.zero_le _, Nat.zero_le _⟩, rfl, rfl⟩ rfl ⟨Nat.le_of_ble_eq_true rfl, Nat.le_of_ble_eq_true rfl⟩ rfl cat_n (Nat.le_of_ble_eq_true rfl) dX7_fitting_52 (fun r4 => ?_)
    refine J.if_ne (pc := 55) C (tgt := 84) dX7_fitting_55 rfl ?_ ?_
    · refine J.iinc (pc := 84) C (lv' := [(0, rv g a0), (2, rv g a2), (3, .int x3), (4, .int (x4 + 1)), (5, .int r3)]) dX7_fitting_84 rfl (Nat.le_of_ble_eq_true rfl) ki_1 rfl ?_
      refine J.goto (pc := 87) C (tgt := 21) dX7_fitting_87 rfl ?_
      exact J.pick [0, 1, 2, 3] rfl (hk21 _ _ _)
    · refine J.aload_n (pc := 58) C (x := a0) dX7_fitting_58 rfl rfl ?_
      refine J.aload_n (pc := 59) C (x := a2) dX7_fitting_59 rfl rfl ?_
      refine J.iload (pc := 60) C dX7_fitting_60 rfl ?_
      refine J.aload_n (pc := 62) C (x := a0) dX7_fitting_62 rfl rfl ?_
      refine J.getR (pc := 63) C fl_RX7_12 rfl dX7_fitting_63 ?_
      refine J.iload (pc := 66) C dX7_fitting_66 rfl ?_
      refine J.vI (pc := 68) C mv_X3_percentAt wm_RX7_138 (fun l => c_X3_percentAt l g S (S.2.1 a0 0) r3) ⟨⟨Nat.zero_le _, Nat.zero_le _⟩, rfl, rfl⟩ rfl ⟨Nat.le_of_ble_eq_true rfl, Nat.le_of_ble_eq_true rfl⟩ rfl (cat_i (cat_r (cat_r cat_n))) (Nat.le_of_ble_eq_true rfl) dX7_fitting_68 (fun r5 => ?_)
      refine J.vW (pc := 71) C mv_X7_rowFits wm_RX7_244 (fun l => c_X7_rowFits l g S a0 a2 x4 r5) ⟨⟨Nat.zero_le _, Nat.zero_le _⟩, rfl, rfl⟩ rfl ⟨Nat.le_of_ble_eq_true rfl, Nat.le_of_ble_eq_true rfl⟩ rfl cat_n (Nat.le_of_ble_eq_true rfl) dX7_fitting_71 (fun r6 S_7 => ?_)
      refine J.if_eq (pc := 74) C (tgt := 84) dX7_fitting_74 rfl ?_ ?_
      · refine J.iinc (pc := 84) C (lv' := [(0, rv g a0), (2, rv g a2), (3, .int x3), (4, .int (x4 + 1)), (5, .int r3)]) dX7_fitting_84 rfl (Nat.le_of_ble_eq_true rfl) ki_1 rfl ?_
        refine J.goto (pc := 87) C (tgt := 21) dX7_fitting_87 rfl ?_
        exact J.pick [0, 1, 2, 3] rfl (hk21 _ _ _)
      · refine J.iload_n (pc := 77) C dX7_fitting_77 rfl rfl ?_
        refine J.iconst (pc := 78) C dX7_fitting_78 ki_1 ?_
        refine J.iload (pc := 79) C dX7_fitting_79 rfl ?_
        refine J.ishl (pc := 81) C dX7_fitting_81 ?_
        refine J.ior (pc := 82) C dX7_fitting_82 ?_
        refine J.istore_n (pc := 83) C (lv' := [(0, rv g a0), (2, rv g a2), (3, .int (x3 ||| (1 <<< (x4 &&& 31)))), (4, .int x4), (5, .int r3)]) dX7_fitting_83 rfl (Nat.le_of_ble_eq_true rfl) rfl ?_
        refine J.iinc (pc := 84) C (lv' := [(0, rv g a0), (2, rv g a2), (3, .int (x3 ||| (1 <<< (x4 &&& 31)))), (4, .int (x4 + 1)), (5, .int r3)]) dX7_fitting_84 rfl (Nat.le_of_ble_eq_true rfl) ki_1 rfl ?_
        refine J.goto (pc := 87) C (tgt := 21) dX7_fitting_87 rfl ?_
        exact J.pick [0, 1, 2, 3] rfl (hk21 _ _ _)
def f_X7_fitting (S : St) (a0 : Nat) (a1 : Int32) : Option (Int32 × St) :=
  (chk (okc S 7 a0)
  (chk (okc S 3 (S.2.1 a0 0)) (bnd (f_X3_frameAt S (S.2.1 a0 0) a1) fun r1 =>
  (if r1 = 0 then
  (some ((-10000001), S))
  else (wl3 (f_X7_fitting_B21 a0 r1 (fun (S_9 : St) (y3_8 : Int32) => (some (y3_8, S_9)))) FU S 0 0)))))
set_option maxRecDepth 100000 in
set_option maxHeartbeats 4000000 in
theorem c_X7_fitting (l : Launch) (g : GG) (S : St) (a0 : Nat) (a1 : Int32) : Ct l yX7_fitting cX7_fitting 6 (some .int) rm_X7_fitting g aW pW [rv g a0, .int a1] S (f_X7_fitting S a0 a1) := by
  refine Ct.mk (cf := cw (0, 0)) (by decide +kernel) (cat_r (cat_i cat_n)) (Nat.le_of_ble_eq_true rfl) rfl ?_
  intro X hXl hin C
  show J X g _ _ 0 [(0, rv g a0), (1, .int a1)] [] S (f_X7_fitting S a0 a1)
  unfold f_X7_fitting
  refine J.aload_n (pc := 0) C (x := a0) dX7_fitting_0 rfl rfl ?_
  refine J.getR (pc := 1) C fl_RX7_12 rfl dX7_fitting_1 ?_
  refine J.iload_n (pc := 4) C dX7_fitting_4 rfl rfl ?_
  refine J.vR (pc := 5) C mv_X3_frameAt wm_RX7_149 (fun l => c_X3_frameAt l g S (S.2.1 a0 0) a1) ⟨⟨Nat.zero_le _, Nat.zero_le _⟩, rfl, rfl⟩ rfl ⟨Nat.le_of_ble_eq_true rfl, Nat.le_of_ble_eq_true rfl⟩ rfl cat_n (Nat.le_of_ble_eq_true rfl) dX7_fitting_5 (fun r1 => ?_)
  refine J.astore_n (pc := 8) C (lv' := [(0, rv g a0), (1, .int a1), (2, rv g r1)]) dX7_fitting_8 rfl (Nat.le_of_ble_eq_true rfl) rfl ?_
  refine J.aload_n (pc := 9) C (x := r1) dX7_fitting_9 rfl rfl ?_
  refine J.ifnonnull (pc := 10) C (tgt := 16) dX7_fitting_10 rfl ?_ ?_
  · refine J.iconst (pc := 16) C dX7_fitting_16 ki_0 ?_
    refine J.istore_n (pc := 17) C (lv' := [(0, rv g a0), (1, .int a1), (2, rv g r1), (3, .int 0)]) dX7_fitting_17 rfl (Nat.le_of_ble_eq_true rfl) rfl ?_
    refine J.iconst (pc := 18) C dX7_fitting_18 ki_0 ?_
    refine J.istore (pc := 19) C (lv' := [(0, rv g a0), (1, .int a1), (2, rv g r1), (3, .int 0), (4, .int 0)]) dX7_fitting_19 (Nat.le_of_ble_eq_true rfl) rfl ?_
    refine J.pick [0, 2, 3, 4] rfl ?_
    refine w_X7_fitting_B21 C _ _ _ (fun S_9 y3_8 => ?_) FU _ _ _
    refine J.iload_n (pc := 90) C dX7_fitting_90 rfl rfl ?_
    exact J.iret (pc := 91) C rfl rfl ⟨Nat.le_refl _, Nat.le_refl _⟩ dX7_fitting_91
  · refine J.ldc (pc := 13) C wc_RX7_60 dX7_fitting_13 ?_
    exact J.iret (pc := 15) C rfl rfl ⟨Nat.le_refl _, Nat.le_refl _⟩ dX7_fitting_15
abbrev rm_X3_dropFrame : Room := { frames := 1, cells := 0, slots := 0, locals := 21 }
def f_X3_dropFrame_B15 (a0 : Nat) (a2 : Nat) (kx15 : St → Option St) (k15 : St → Int32 → Option St) (S : St) (x3 : Int32) : Option St :=
  (chk (okc S 3 a0)
  (if (S.1 a0 4) ≤ x3 then
  (kx15 S)
  else (chk (okc S 3 a0)
  (chk (okc S 12 (S.2.1 a0 3))
  (if (Int32.ofNat (ln (S.2.1 a0 3))) ≤ x3 then
  (kx15 S)
  else (chk (okc S 3 a0)
  (chk (okc S 3 a0)
  (chk (ina S 12 (S.2.1 a0 3) x3)
  (chk (inw S 12 (S.2.1 a0 3) (x3 - 1) ∧ okc S 0 (S.2.1 (S.2.1 a0 3) x3.toNatClampNeg)) (vlt (upR S (S.2.1 a0 3) (x3 - 1).toNatClampNeg (S.2.1 (S.2.1 a0 3) x3.toNatClampNeg)) fun S_2 =>
  (k15 S_2 (x3 + 1))))))))))))
set_option maxRecDepth 100000 in
set_option maxHeartbeats 4000000 in
theorem w_X3_dropFrame_B15 {X : CT} {g : GG} (C : CX X g cX3_dropFrame RX3 none 4 rm_X3_dropFrame) (a0 : Nat) (a2 : Nat) (kx15 : St → Option St) (hkx15 : ∀ (S : St), J X g (Qm X g aU pU) (cw (0, 0)) 52 [(0, rv g a0), (2, rv g a2)] [] S (kx15 S)) : ∀ (n : Nat) (S : St) (x3 : Int32), J X g (Qm X g aU pU) (cw (0, 0)) 15 [(0, rv g a0), (2, rv g a2), (3, .int x3)] [] S (wl2 (f_X3_dropFrame_B15 a0 a2 kx15) n S x3) := by
  refine J.loop2 (lvf := fun (S : St) (x3 : Int32) => [(0, rv g a0), (2, rv g a2), (3, .int x3)]) (Sf := fun (S : St) (x3 : Int32) => S) ?_
  intro k15 hk15 S x3
  show J X g _ _ 15 [(0, rv g a0), (2, rv g a2), (3, .int x3)] [] S (f_X3_dropFrame_B15 a0 a2 kx15 k15 S x3)
  unfold f_X3_dropFrame_B15
  refine J.iload_n (pc := 15) C dX3_dropFrame_15 rfl rfl ?_
  refine J.aload_n (pc := 16) C (x := a0) dX3_dropFrame_16 rfl rfl ?_
  refine J.getI (pc := 17) C fl_RX3_67 rfl dX3_dropFrame_17 ?_
  refine J.icmp_ge (pc := 20) C (tgt := 52) dX3_dropFrame_20 rfl ?_ ?_
  · exact J.pick [0, 1] rfl (hkx15 _)
  · refine J.iload_n (pc := 23) C dX3_dropFrame_23 rfl rfl ?_
    refine J.aload_n (pc := 24) C (x := a0) dX3_dropFrame_24 rfl rfl ?_
    refine J.getR (pc := 25) C fl_RX3_23 rfl dX3_dropFrame_25 ?_
    refine J.alen (pc := 28) C 12 (by decide) dX3_dropFrame_28 ?_
    refine J.icmp_ge (pc := 29) C (tgt := 52) dX3_dropFrame_29 rfl ?_ ?_
    · exact J.pick [0, 1] rfl (hkx15 _)
    · refine J.aload_n (pc := 32) C (x := a0) dX3_dropFrame_32 rfl rfl ?_
      refine J.getR (pc := 33) C fl_RX3_23 rfl dX3_dropFrame_33 ?_
      refine J.iload_n (pc := 36) C dX3_dropFrame_36 rfl rfl ?_
      refine J.iconst (pc := 37) C dX3_dropFrame_37 ki_1 ?_
      refine J.isub (pc := 38) C dX3_dropFrame_38 ?_
      refine J.aload_n (pc := 39) C (x := a0) dX3_dropFrame_39 rfl rfl ?_
      refine J.getR (pc := 40) C fl_RX3_23 rfl dX3_dropFrame_40 ?_
      refine J.iload_n (pc := 43) C dX3_dropFrame_43 rfl rfl ?_
      refine J.aald (pc := 44) C 12 (by decide) (fun _ => rfl) rfl dX3_dropFrame_44 ?_
      refine J.aasts (pc := 45) C 12 0 (by decide) (fun _ => rfl) rfl rfl dX3_dropFrame_45 (fun S_2 => ?_)
      refine J.iinc (pc := 46) C (lv' := [(0, rv g a0), (2, rv g a2), (3, .int (x3 + 1))]) dX3_dropFrame_46 rfl (Nat.le_of_ble_eq_true rfl) ki_1 rfl ?_
      refine J.goto (pc := 49) C (tgt := 15) dX3_dropFrame_49 rfl ?_
      exact (hk15 _ _)
def f_X3_dropFrame_J52 (S : St) (x0 : Nat) (x2 : Nat) : Option St :=
  (chk (okc S 3 x0)
  (if ((S.1 x0 4) - 1) < 0 then
  (some S)
  else (chk (okc S 3 x0)
  (chk (okc S 12 (S.2.1 x0 3))
  (if (Int32.ofNat (ln (S.2.1 x0 3))) ≤ ((S.1 x0 4) - 1) then
  (some S)
  else (chk (okc S 3 x0)
  (chk (inw S 12 (S.2.1 x0 3) ((S.1 x0 4) - 1) ∧ okc S 0 x2) (vlt (upR S (S.2.1 x0 3) ((S.1 x0 4) - 1).toNatClampNeg x2) fun S_4 =>
  (chk (okc S_4 3 x0) (vlt (upI S_4 x0 4 ((S.1 x0 4) - 1)) fun S_5 =>
  (some S_5)))))))))))
set_option maxRecDepth 100000 in
set_option maxHeartbeats 4000000 in
theorem w_X3_dropFrame_J52 {X : CT} {g : GG} (C : CX X g cX3_dropFrame RX3 none 4 rm_X3_dropFrame) (S : St) (x0 : Nat) (x2 : Nat) : J X g (Qm X g aU pU) (cw (0, 0)) 52 [(0, rv g x0), (2, rv g x2)] [] S (f_X3_dropFrame_J52 S x0 x2) := by
  unfold f_X3_dropFrame_J52
  refine J.aload_n (pc := 52) C (x := x0) dX3_dropFrame_52 rfl rfl ?_
  refine J.getI (pc := 53) C fl_RX3_67 rfl dX3_dropFrame_53 ?_
  refine J.iconst (pc := 56) C dX3_dropFrame_56 ki_1 ?_
  refine J.isub (pc := 57) C dX3_dropFrame_57 ?_
  refine J.istore_n (pc := 58) C (lv' := [(0, rv g x0), (2, rv g x2), (3, .int ((S.1 x0 4) - 1))]) dX3_dropFrame_58 rfl (Nat.le_of_ble_eq_true rfl) rfl ?_
  refine J.iload_n (pc := 59) C dX3_dropFrame_59 rfl rfl ?_
  refine J.if_lt (pc := 60) C (tgt := 84) dX3_dropFrame_60 rfl ?_ ?_
  · exact J.vret (pc := 84) C rfl rfl ⟨Nat.le_refl _, Nat.le_refl _⟩ dX3_dropFrame_84
  · refine J.iload_n (pc := 63) C dX3_dropFrame_63 rfl rfl ?_
    refine J.aload_n (pc := 64) C (x := x0) dX3_dropFrame_64 rfl rfl ?_
    refine J.getR (pc := 65) C fl_RX3_23 rfl dX3_dropFrame_65 ?_
    refine J.alen (pc := 68) C 12 (by decide) dX3_dropFrame_68 ?_
    refine J.icmp_ge (pc := 69) C (tgt := 84) dX3_dropFrame_69 rfl ?_ ?_
    · exact J.vret (pc := 84) C rfl rfl ⟨Nat.le_refl _, Nat.le_refl _⟩ dX3_dropFrame_84
    · refine J.aload_n (pc := 72) C (x := x0) dX3_dropFrame_72 rfl rfl ?_
      refine J.getR (pc := 73) C fl_RX3_23 rfl dX3_dropFrame_73 ?_
      refine J.iload_n (pc := 76) C dX3_dropFrame_76 rfl rfl ?_
      refine J.aload_n (pc := 77) C (x := x2) dX3_dropFrame_77 rfl rfl ?_
      refine J.aasts (pc := 78) C 12 0 (by decide) (fun _ => rfl) rfl rfl dX3_dropFrame_78 (fun S_4 => ?_)
      refine J.aload_n (pc := 79) C (x := x0) dX3_dropFrame_79 rfl rfl ?_
      refine J.iload_n (pc := 80) C dX3_dropFrame_80 rfl rfl ?_
      refine J.putIs (pc := 81) C fl_RX3_67 rfl (fun r h => by cases h; rfl) rfl rfl dX3_dropFrame_81 (fun S_5 => ?_)
      exact J.vret (pc := 84) C rfl rfl ⟨Nat.le_refl _, Nat.le_refl _⟩ dX3_dropFrame_84
def f_X3_dropFrame (S : St) (a0 : Nat) (a1 : Int32) : Option St :=
  (chk (okc S 3 a0) (bnd (f_X3_frameAt S a0 a1) fun r1 =>
  (if r1 = 0 then
  (some S)
  else (wl2 (f_X3_dropFrame_B15 a0 r1 (fun (S_3 : St) => (f_X3_dropFrame_J52 S_3 a0 r1))) FU S (a1 + 1)))))
set_option maxRecDepth 100000 in
set_option maxHeartbeats 4000000 in
theorem c_X3_dropFrame (l : Launch) (g : GG) (S : St) (a0 : Nat) (a1 : Int32) : Ct l yX3_dropFrame cX3_dropFrame 4 none rm_X3_dropFrame g aU pU [rv g a0, .int a1] S (f_X3_dropFrame S a0 a1) := by
  refine Ct.mk (cf := cw (0, 0)) (by decide +kernel) (cat_r (cat_i cat_n)) (Nat.le_of_ble_eq_true rfl) rfl ?_
  intro X hXl hin C
  show J X g _ _ 0 [(0, rv g a0), (1, .int a1)] [] S (f_X3_dropFrame S a0 a1)
  unfold f_X3_dropFrame
  refine J.aload_n (pc := 0) C (x := a0) dX3_dropFrame_0 rfl rfl ?_
  refine J.iload_n (pc := 1) C dX3_dropFrame_1 rfl rfl ?_
  refine J.vR (pc := 2) C mv_X3_frameAt wm_RX3_73 (fun l => c_X3_frameAt l g S a0 a1) ⟨⟨Nat.zero_le _, Nat.zero_le _⟩, rfl, rfl⟩ rfl ⟨Nat.le_of_ble_eq_true rfl, Nat.le_of_ble_eq_true rfl⟩ rfl cat_n (Nat.le_of_ble_eq_true rfl) dX3_dropFrame_2 (fun r1 => ?_)
  refine J.astore_n (pc := 5) C (lv' := [(0, rv g a0), (1, .int a1), (2, rv g r1)]) dX3_dropFrame_5 rfl (Nat.le_of_ble_eq_true rfl) rfl ?_
  refine J.aload_n (pc := 6) C (x := r1) dX3_dropFrame_6 rfl rfl ?_
  refine J.ifnonnull (pc := 7) C (tgt := 11) dX3_dropFrame_7 rfl ?_ ?_
  · refine J.iload_n (pc := 11) C dX3_dropFrame_11 rfl rfl ?_
    refine J.iconst (pc := 12) C dX3_dropFrame_12 ki_1 ?_
    refine J.iadd (pc := 13) C dX3_dropFrame_13 ?_
    refine J.istore_n (pc := 14) C (lv' := [(0, rv g a0), (1, .int a1), (2, rv g r1), (3, .int (a1 + 1))]) dX3_dropFrame_14 rfl (Nat.le_of_ble_eq_true rfl) rfl ?_
    refine J.pick [0, 2, 3] rfl ?_
    refine w_X3_dropFrame_B15 C _ _ _ (fun S_3 => ?_) FU _ _
    exact (w_X3_dropFrame_J52 C _ _ _)
  · exact J.vret (pc := 10) C rfl rfl ⟨Nat.le_refl _, Nat.le_refl _⟩ dX3_dropFrame_10
abbrev rm_X7_forget : Room := { frames := 4, cells := 0, slots := 0, locals := 88 }
def f_X7_forget (S : St) (a0 : Nat) (a1 : Int32) : Option (Int32 × St) :=
  (chk (okc S 7 a0)
  (chk (okc S 3 (S.2.1 a0 0)) (bnd (f_X3_frameAt S (S.2.1 a0 0) a1) fun r1 =>
  (if r1 = 0 then
  (some ((-10000001), S))
  else (chk (okc S 7 a0) (bnd (f_X7_recordState S a0) fun S_2 =>
  (chk (okc S_2 7 a0)
  (chk (okc S_2 3 (S_2.2.1 a0 0)) (bnd (f_X3_dropFrame S_2 (S_2.2.1 a0 0) a1) fun S_3 =>
  (chk (okc S_3 7 a0)
  (chk (okc S_3 3 (S_3.2.1 a0 0))
  (some (S_3.1 (S_3.2.1 a0 0) 4, S_3)))))))))))))
set_option maxRecDepth 100000 in
set_option maxHeartbeats 4000000 in
theorem c_X7_forget (l : Launch) (g : GG) (S : St) (a0 : Nat) (a1 : Int32) : Ct l yX7_forget cX7_forget 2 (some .int) rm_X7_forget g aW pW [rv g a0, .int a1] S (f_X7_forget S a0 a1) := by
  refine Ct.mk (cf := cw (0, 0)) (by decide +kernel) (cat_r (cat_i cat_n)) (Nat.le_of_ble_eq_true rfl) rfl ?_
  intro X hXl hin C
  show J X g _ _ 0 [(0, rv g a0), (1, .int a1)] [] S (f_X7_forget S a0 a1)
  unfold f_X7_forget
  refine J.aload_n (pc := 0) C (x := a0) dX7_forget_0 rfl rfl ?_
  refine J.getR (pc := 1) C fl_RX7_12 rfl dX7_forget_1 ?_
  refine J.iload_n (pc := 4) C dX7_forget_4 rfl rfl ?_
  refine J.vR (pc := 5) C mv_X3_frameAt wm_RX7_149 (fun l => c_X3_frameAt l g S (S.2.1 a0 0) a1) ⟨⟨Nat.zero_le _, Nat.zero_le _⟩, rfl, rfl⟩ rfl ⟨Nat.le_of_ble_eq_true rfl, Nat.le_of_ble_eq_true rfl⟩ rfl cat_n (Nat.le_of_ble_eq_true rfl) dX7_forget_5 (fun r1 => ?_)
  refine J.ifnonnull (pc := 8) C (tgt := 14) dX7_forget_8 rfl ?_ ?_
  · refine J.aload_n (pc := 14) C (x := a0) dX7_forget_14 rfl rfl ?_
    refine J.vU (pc := 15) C mv_X7_recordState wm_RX7_75 (fun l => c_X7_recordState l g S a0) ⟨⟨Nat.zero_le _, Nat.zero_le _⟩, rfl, rfl⟩ rfl ⟨Nat.le_of_ble_eq_true rfl, Nat.le_of_ble_eq_true rfl⟩ rfl cat_n (Nat.le_of_ble_eq_true rfl) dX7_forget_15 (fun S_2 => ?_)
    refine J.aload_n (pc := 18) C (x := a0) dX7_forget_18 rfl rfl ?_
    refine J.getR (pc := 19) C fl_RX7_12 rfl dX7_forget_19 ?_
    refine J.iload_n (pc := 22) C dX7_forget_22 rfl rfl ?_
    refine J.vU (pc := 23) C mv_X3_dropFrame wm_RX7_153 (fun l => c_X3_dropFrame l g S_2 (S_2.2.1 a0 0) a1) ⟨⟨Nat.zero_le _, Nat.zero_le _⟩, rfl, rfl⟩ rfl ⟨Nat.le_of_ble_eq_true rfl, Nat.le_of_ble_eq_true rfl⟩ rfl cat_n (Nat.le_of_ble_eq_true rfl) dX7_forget_23 (fun S_3 => ?_)
    refine J.aload_n (pc := 26) C (x := a0) dX7_forget_26 rfl rfl ?_
    refine J.getR (pc := 27) C fl_RX7_12 rfl dX7_forget_27 ?_
    refine J.getI (pc := 30) C fl_RX7_71 rfl dX7_forget_30 ?_
    exact J.iret (pc := 33) C rfl rfl ⟨Nat.le_refl _, Nat.le_refl _⟩ dX7_forget_33
  · refine J.ldc (pc := 11) C wc_RX7_60 dX7_forget_11 ?_
    exact J.iret (pc := 13) C rfl rfl ⟨Nat.le_refl _, Nat.le_refl _⟩ dX7_forget_13
abbrev rm_X7_edgeCountOf : Room := { frames := 3, cells := 0, slots := 0, locals := 69 }
def f_X7_edgeCountOf_B4 (S : St) (a0 : Nat) (a1 : Nat) (kx4 : Int32 → Option Int32) (k4 : Int32 → Int32 → Option Int32) (x2 : Int32) (x3 : Int32) : Option Int32 :=
  (chk (okc S 7 a0)
  (chk (okc S 3 (S.2.1 a0 0)) (bnd (f_X3_setting S (S.2.1 a0 0) 0) fun r1 =>
  (if r1 ≤ x3 then
  (kx4 x2)
  else (chk (okc S 7 a0)
  (chk (okc S 3 (S.2.1 a0 0)) (bnd (f_X3_edgesIn S (S.2.1 a0 0) a1 x3) fun r2 =>
  (bnd (f_J6_bitCount_0f7a4 r2) fun r3 =>
  (k4 (x2 + r3) (x3 + 1))))))))))
set_option maxRecDepth 100000 in
set_option maxHeartbeats 4000000 in
theorem w_X7_edgeCountOf_B4 {X : CT} {g : GG} (C : CX X g cX7_edgeCountOf RX7 (some .int) 4 rm_X7_edgeCountOf) (S : St) (a0 : Nat) (a1 : Nat) (kx4 : Int32 → Option Int32) (hkx4 : ∀ (x2 : Int32), J X g (Qm X g aI (pK S)) (cw (0, 0)) 37 [(2, .int x2)] [] S (kx4 x2)) : ∀ (n : Nat) (x2 : Int32) (x3 : Int32), J X g (Qm X g aI (pK S)) (cw (0, 0)) 4 [(0, rv g a0), (1, rv g a1), (2, .int x2), (3, .int x3)] [] S (wl2 (f_X7_edgeCountOf_B4 S a0 a1 kx4) n x2 x3) := by
  refine J.loop2 (lvf := fun (x2 : Int32) (x3 : Int32) => [(0, rv g a0), (1, rv g a1), (2, .int x2), (3, .int x3)]) (Sf := fun (x2 : Int32) (x3 : Int32) => S) ?_
  intro k4 hk4 x2 x3
  show J X g _ _ 4 [(0, rv g a0), (1, rv g a1), (2, .int x2), (3, .int x3)] [] S (f_X7_edgeCountOf_B4 S a0 a1 kx4 k4 x2 x3)
  unfold f_X7_edgeCountOf_B4
  refine J.iload_n (pc := 4) C dX7_edgeCountOf_4 rfl rfl ?_
  refine J.aload_n (pc := 5) C (x := a0) dX7_edgeCountOf_5 rfl rfl ?_
  refine J.getR (pc := 6) C fl_RX7_12 rfl dX7_edgeCountOf_6 ?_
  refine J.iconst (pc := 9) C dX7_edgeCountOf_9 ki_0 ?_
  refine J.vI (pc := 10) C mv_X3_setting wm_RX7_78 (fun l => c_X3_setting l g S (S.2.1 a0 0) 0) ⟨⟨Nat.zero_le _, Nat.zero_le _⟩, rfl, rfl⟩ rfl ⟨Nat.le_of_ble_eq_true rfl, Nat.le_of_ble_eq_true rfl⟩ rfl (cat_i cat_n) (Nat.le_of_ble_eq_true rfl) dX7_edgeCountOf_10 (fun r1 => ?_)
  refine J.icmp_ge (pc := 13) C (tgt := 37) dX7_edgeCountOf_13 rfl ?_ ?_
  · exact J.pick [2] rfl (hkx4 _)
  · refine J.iload_n (pc := 16) C dX7_edgeCountOf_16 rfl rfl ?_
    refine J.aload_n (pc := 17) C (x := a0) dX7_edgeCountOf_17 rfl rfl ?_
    refine J.getR (pc := 18) C fl_RX7_12 rfl dX7_edgeCountOf_18 ?_
    refine J.aload_n (pc := 21) C (x := a1) dX7_edgeCountOf_21 rfl rfl ?_
    refine J.iload_n (pc := 22) C dX7_edgeCountOf_22 rfl rfl ?_
    refine J.vI (pc := 23) C mv_X3_edgesIn wm_RX7_167 (fun l => c_X3_edgesIn l g S (S.2.1 a0 0) a1 x3) ⟨⟨Nat.zero_le _, Nat.zero_le _⟩, rfl, rfl⟩ rfl ⟨Nat.le_of_ble_eq_true rfl, Nat.le_of_ble_eq_true rfl⟩ rfl (cat_i cat_n) (Nat.le_of_ble_eq_true rfl) dX7_edgeCountOf_23 (fun r2 => ?_)
    refine J.sI (pc := 26) C ms_J6_bitCount_0f7a4 wm_RX7_126 (fun l => c_J6_bitCount_0f7a4 l g S r2) ⟨⟨Nat.zero_le _, Nat.zero_le _⟩, rfl, rfl⟩ rfl ⟨Nat.le_of_ble_eq_true rfl, Nat.le_of_ble_eq_true rfl⟩ rfl (cat_i cat_n) (Nat.le_of_ble_eq_true rfl) dX7_edgeCountOf_26 (fun r3 => ?_)
    refine J.iadd (pc := 29) C dX7_edgeCountOf_29 ?_
    refine J.istore_n (pc := 30) C (lv' := [(0, rv g a0), (1, rv g a1), (2, .int (x2 + r3)), (3, .int x3)]) dX7_edgeCountOf_30 rfl (Nat.le_of_ble_eq_true rfl) rfl ?_
    refine J.iinc (pc := 31) C (lv' := [(0, rv g a0), (1, rv g a1), (2, .int (x2 + r3)), (3, .int (x3 + 1))]) dX7_edgeCountOf_31 rfl (Nat.le_of_ble_eq_true rfl) ki_1 rfl ?_
    refine J.goto (pc := 34) C (tgt := 4) dX7_edgeCountOf_34 rfl ?_
    exact (hk4 _ _)
def f_X7_edgeCountOf (S : St) (a0 : Nat) (a1 : Nat) : Option Int32 :=
  (wl2 (f_X7_edgeCountOf_B4 S a0 a1 (fun (y2_4 : Int32) => (some y2_4))) FU 0 0)
set_option maxRecDepth 100000 in
set_option maxHeartbeats 4000000 in
theorem c_X7_edgeCountOf (l : Launch) (g : GG) (S : St) (a0 : Nat) (a1 : Nat) : Ct l yX7_edgeCountOf cX7_edgeCountOf 4 (some .int) rm_X7_edgeCountOf g aI (pK S) [rv g a0, rv g a1] S (f_X7_edgeCountOf S a0 a1) := by
  refine Ct.mk (cf := cw (0, 0)) (by decide +kernel) (cat_r (cat_r cat_n)) (Nat.le_of_ble_eq_true rfl) rfl ?_
  intro X hXl hin C
  show J X g _ _ 0 [(0, rv g a0), (1, rv g a1)] [] S (f_X7_edgeCountOf S a0 a1)
  unfold f_X7_edgeCountOf
  refine J.iconst (pc := 0) C dX7_edgeCountOf_0 ki_0 ?_
  refine J.istore_n (pc := 1) C (lv' := [(0, rv g a0), (1, rv g a1), (2, .int 0)]) dX7_edgeCountOf_1 rfl (Nat.le_of_ble_eq_true rfl) rfl ?_
  refine J.iconst (pc := 2) C dX7_edgeCountOf_2 ki_0 ?_
  refine J.istore_n (pc := 3) C (lv' := [(0, rv g a0), (1, rv g a1), (2, .int 0), (3, .int 0)]) dX7_edgeCountOf_3 rfl (Nat.le_of_ble_eq_true rfl) rfl ?_
  refine w_X7_edgeCountOf_B4 C _ _ _ _ (fun y2_4 => ?_) FU _ _
  refine J.iload_n (pc := 37) C dX7_edgeCountOf_37 rfl rfl ?_
  exact J.iret (pc := 38) C rfl rfl ⟨Nat.le_refl _, Nat.le_refl _⟩ dX7_edgeCountOf_38
abbrev rm_X7_frameOf : Room := { frames := 4, cells := 0, slots := 0, locals := 92 }
def f_X7_frameOf (S : St) (a0 : Nat) (a1 : Int32) (a2 : Int32) : Option Int32 :=
  (chk (okc S 7 a0)
  (chk (okc S 3 (S.2.1 a0 0)) (bnd (f_X3_frameAt S (S.2.1 a0 0) a1) fun r1 =>
  (if r1 = 0 then
  (some (-10000001))
  else (bnd (f_X7_isWithin a2 0 2) fun r2 =>
  (if r2 = 0 then
  (some (-10000001))
  else (if a2 = 0 then
  (chk (okc S 0 r1)
  (some (S.1 r1 0)))
  else (if a2 = 1 then
  (chk (okc S 0 r1)
  (some (S.1 r1 1)))
  else (chk (okc S 7 a0) (bnd (f_X7_edgeCountOf S a0 r1) fun r3 =>
  (some r3)))))))))))
set_option maxRecDepth 100000 in
set_option maxHeartbeats 4000000 in
theorem c_X7_frameOf (l : Launch) (g : GG) (S : St) (a0 : Nat) (a1 : Int32) (a2 : Int32) : Ct l yX7_frameOf cX7_frameOf 4 (some .int) rm_X7_frameOf g aI (pK S) [rv g a0, .int a1, .int a2] S (f_X7_frameOf S a0 a1 a2) := by
  refine Ct.mk (cf := cw (0, 0)) (by decide +kernel) (cat_r (cat_i (cat_i cat_n))) (Nat.le_of_ble_eq_true rfl) rfl ?_
  intro X hXl hin C
  show J X g _ _ 0 [(0, rv g a0), (1, .int a1), (2, .int a2)] [] S (f_X7_frameOf S a0 a1 a2)
  unfold f_X7_frameOf
  refine J.aload_n (pc := 0) C (x := a0) dX7_frameOf_0 rfl rfl ?_
  refine J.getR (pc := 1) C fl_RX7_12 rfl dX7_frameOf_1 ?_
  refine J.iload_n (pc := 4) C dX7_frameOf_4 rfl rfl ?_
  refine J.vR (pc := 5) C mv_X3_frameAt wm_RX7_149 (fun l => c_X3_frameAt l g S (S.2.1 a0 0) a1) ⟨⟨Nat.zero_le _, Nat.zero_le _⟩, rfl, rfl⟩ rfl ⟨Nat.le_of_ble_eq_true rfl, Nat.le_of_ble_eq_true rfl⟩ rfl cat_n (Nat.le_of_ble_eq_true rfl) dX7_frameOf_5 (fun r1 => ?_)
  refine J.astore_n (pc := 8) C (lv' := [(0, rv g a0), (1, .int a1), (2, .int a2), (3, rv g r1)]) dX7_frameOf_8 rfl (Nat.le_of_ble_eq_true rfl) rfl ?_
  refine J.aload_n (pc := 9) C (x := r1) dX7_frameOf_9 rfl rfl ?_
  refine J.ifnull (pc := 10) C (tgt := 22) dX7_frameOf_10 rfl ?_ ?_
  · refine J.ldc (pc := 22) C wc_RX7_60 dX7_frameOf_22 ?_
    exact J.iret (pc := 24) C rfl rfl ⟨Nat.le_refl _, Nat.le_refl _⟩ dX7_frameOf_24
  · refine J.iload_n (pc := 13) C dX7_frameOf_13 rfl rfl ?_
    refine J.iconst (pc := 14) C dX7_frameOf_14 ki_0 ?_
    refine J.iconst (pc := 15) C dX7_frameOf_15 ki_2 ?_
    refine J.sI (pc := 16) C ms_X7_isWithin wm_RX7_56 (fun l => c_X7_isWithin l g S a2 0 2) ⟨⟨Nat.zero_le _, Nat.zero_le _⟩, rfl, rfl⟩ rfl ⟨Nat.le_of_ble_eq_true rfl, Nat.le_of_ble_eq_true rfl⟩ rfl cat_n (Nat.le_of_ble_eq_true rfl) dX7_frameOf_16 (fun r2 => ?_)
    refine J.if_ne (pc := 19) C (tgt := 25) dX7_frameOf_19 rfl ?_ ?_
    · refine J.iload_n (pc := 25) C dX7_frameOf_25 rfl rfl ?_
      refine J.if_ne (pc := 26) C (tgt := 34) dX7_frameOf_26 rfl ?_ ?_
      · refine J.iload_n (pc := 34) C dX7_frameOf_34 rfl rfl ?_
        refine J.iconst (pc := 35) C dX7_frameOf_35 ki_1 ?_
        refine J.icmp_ne (pc := 36) C (tgt := 46) dX7_frameOf_36 rfl ?_ ?_
        · refine J.aload_n (pc := 46) C (x := a0) dX7_frameOf_46 rfl rfl ?_
          refine J.aload_n (pc := 47) C (x := r1) dX7_frameOf_47 rfl rfl ?_
          refine J.vI (pc := 48) C mv_X7_edgeCountOf wm_RX7_159 (fun l => c_X7_edgeCountOf l g S a0 r1) ⟨⟨Nat.zero_le _, Nat.zero_le _⟩, rfl, rfl⟩ rfl ⟨Nat.le_of_ble_eq_true rfl, Nat.le_of_ble_eq_true rfl⟩ rfl cat_n (Nat.le_of_ble_eq_true rfl) dX7_frameOf_48 (fun r3 => ?_)
          exact J.iret (pc := 51) C rfl rfl ⟨Nat.le_refl _, Nat.le_refl _⟩ dX7_frameOf_51
        · refine J.aload_n (pc := 39) C (x := r1) dX7_frameOf_39 rfl rfl ?_
          refine J.getI (pc := 40) C fl_RX7_158 rfl dX7_frameOf_40 ?_
          refine J.goto (pc := 43) C (tgt := 51) dX7_frameOf_43 rfl ?_
          exact J.iret (pc := 51) C rfl rfl ⟨Nat.le_refl _, Nat.le_refl _⟩ dX7_frameOf_51
      · refine J.aload_n (pc := 29) C (x := r1) dX7_frameOf_29 rfl rfl ?_
        refine J.getI (pc := 30) C fl_RX7_157 rfl dX7_frameOf_30 ?_
        exact J.iret (pc := 33) C rfl rfl ⟨Nat.le_refl _, Nat.le_refl _⟩ dX7_frameOf_33
    · refine J.ldc (pc := 22) C wc_RX7_60 dX7_frameOf_22 ?_
      exact J.iret (pc := 24) C rfl rfl ⟨Nat.le_refl _, Nat.le_refl _⟩ dX7_frameOf_24
abbrev rm_X0_init : Room := { frames := 1, cells := 1, slots := 160, locals := 20 }
def f_X0_init (S : St) (a0 : Nat) : Option St :=
  (chk (¬ a0 = 0)
  (chk ((kd S.2.2 = 10 ∧ ln S.2.2 = 160) ∧ nok S.2.2 1 160 S.2.2 160) (vlt (newS S) fun S_1 =>
  (chk (okc S_1 0 a0) (vlt (upR S_1 a0 2 S.2.2) fun S_2 =>
  (chk (rok S.2.2 1 160 S_2.2.2) (some S_2)))))))
set_option maxRecDepth 100000 in
set_option maxHeartbeats 4000000 in
theorem c_X0_init (l : Launch) (g : GG) (S : St) (a0 : Nat) : Ct l yX0_init cX0_init 1 none rm_X0_init g aU pU [rv g a0] S (f_X0_init S a0) := by
  refine Ct.mk (cf := cfC S.2.2) (by decide +kernel) (cat_r cat_n) (Nat.le_of_ble_eq_true rfl) (cfC_0 _) ?_
  intro X hXl hin C
  show J X g _ _ 0 [(0, rv g a0)] [] S (f_X0_init S a0)
  have hin : X.2.2.2.2.2.2.2.2.1.name = "<init>" := hin
  unfold f_X0_init
  refine J.aload_n (pc := 0) C (x := a0) dX0_init_0 rfl rfl ?_
  refine J.objInit (pc := 1) C wm_RX0_3 w_oi w_oc cat_n ⟨Nat.le_of_ble_eq_true rfl, Nat.le_of_ble_eq_true rfl⟩ dX0_init_1 ?_
  refine J.aload_n (pc := 4) C (x := a0) dX0_init_4 rfl rfl ?_
  refine J.sipush (pc := 5) C dX0_init_5 ks_160 ?_
  refine J.newa (atype := .int) (ty := .int) (n := 160) (c := 10) (N := 160) C rfl ⟨by decide, by decide, rfl, fun _ => rfl, (fun D h => by cases h), rfl⟩ wa_int (by decide) (by decide) (by decide) dX0_init_8 (fun S_1 _ => ?_)
  refine J.putRs (pc := 10) C fl_RX0_9 rfl (fun r h => by cases h; exact ⟨rfl, rfl⟩) hin nar_ra fit_ra dX0_init_10 (fun S_2 => ?_)
  refine J.ck (fun hr => ?_)
  exact J.vret (pc := 13) C rfl rfl (rok_le hr) dX0_init_13
abbrev rm_X1_init : Room := { frames := 1, cells := 5, slots := 182, locals := 20 }
def f_X1_init (S : St) (a0 : Nat) : Option St :=
  (chk (¬ a0 = 0)
  (chk ((kd S.2.2 = 10 ∧ ln S.2.2 = 50) ∧ nok S.2.2 5 182 S.2.2 50) (vlt (newS S) fun S_1 =>
  (chk (okc S_1 1 a0) (vlt (upR S_1 a0 0 S.2.2) fun S_2 =>
  (chk ((kd S_2.2.2 = 10 ∧ ln S_2.2.2 = 50) ∧ nok S.2.2 5 182 S_2.2.2 50) (vlt (newS S_2) fun S_3 =>
  (chk (okc S_3 1 a0) (vlt (upR S_3 a0 1 S_2.2.2) fun S_4 =>
  (chk ((kd S_4.2.2 = 10 ∧ ln S_4.2.2 = 50) ∧ nok S.2.2 5 182 S_4.2.2 50) (vlt (newS S_4) fun S_5 =>
  (chk (okc S_5 1 a0) (vlt (upR S_5 a0 2 S_4.2.2) fun S_6 =>
  (chk ((kd S_6.2.2 = 10 ∧ ln S_6.2.2 = 16) ∧ nok S.2.2 5 182 S_6.2.2 16) (vlt (newS S_6) fun S_7 =>
  (chk (okc S_7 1 a0) (vlt (upR S_7 a0 4 S_6.2.2) fun S_8 =>
  (chk ((kd S_8.2.2 = 10 ∧ ln S_8.2.2 = 16) ∧ nok S.2.2 5 182 S_8.2.2 16) (vlt (newS S_8) fun S_9 =>
  (chk (okc S_9 1 a0) (vlt (upR S_9 a0 5 S_8.2.2) fun S_10 =>
  (chk (rok S.2.2 5 182 S_10.2.2) (some S_10)))))))))))))))))))))))
set_option maxRecDepth 100000 in
set_option maxHeartbeats 4000000 in
theorem c_X1_init (l : Launch) (g : GG) (S : St) (a0 : Nat) : Ct l yX1_init cX1_init 1 none rm_X1_init g aU pU [rv g a0] S (f_X1_init S a0) := by
  refine Ct.mk (cf := cfC S.2.2) (by decide +kernel) (cat_r cat_n) (Nat.le_of_ble_eq_true rfl) (cfC_0 _) ?_
  intro X hXl hin C
  show J X g _ _ 0 [(0, rv g a0)] [] S (f_X1_init S a0)
  have hin : X.2.2.2.2.2.2.2.2.1.name = "<init>" := hin
  unfold f_X1_init
  refine J.aload_n (pc := 0) C (x := a0) dX1_init_0 rfl rfl ?_
  refine J.objInit (pc := 1) C wm_RX1_3 w_oi w_oc cat_n ⟨Nat.le_of_ble_eq_true rfl, Nat.le_of_ble_eq_true rfl⟩ dX1_init_1 ?_
  refine J.aload_n (pc := 4) C (x := a0) dX1_init_4 rfl rfl ?_
  refine J.bipush (pc := 5) C dX1_init_5 kb_50 ?_
  refine J.newa (atype := .int) (ty := .int) (n := 50) (c := 10) (N := 50) C rfl ⟨by decide, by decide, rfl, fun _ => rfl, (fun D h => by cases h), rfl⟩ wa_int (by decide) (by decide) (by decide) dX1_init_7 (fun S_1 _ => ?_)
  refine J.putRs (pc := 9) C fl_RX1_9 rfl (fun r h => by cases h; exact ⟨rfl, rfl⟩) hin nar_ra fit_ra dX1_init_9 (fun S_2 => ?_)
  refine J.aload_n (pc := 12) C (x := a0) dX1_init_12 rfl rfl ?_
  refine J.bipush (pc := 13) C dX1_init_13 kb_50 ?_
  refine J.newa (atype := .int) (ty := .int) (n := 50) (c := 10) (N := 50) C rfl ⟨by decide, by decide, rfl, fun _ => rfl, (fun D h => by cases h), rfl⟩ wa_int (by decide) (by decide) (by decide) dX1_init_15 (fun S_3 _ => ?_)
  refine J.putRs (pc := 17) C fl_RX1_15 rfl (fun r h => by cases h; exact ⟨rfl, rfl⟩) hin nar_ra fit_ra dX1_init_17 (fun S_4 => ?_)
  refine J.aload_n (pc := 20) C (x := a0) dX1_init_20 rfl rfl ?_
  refine J.bipush (pc := 21) C dX1_init_21 kb_50 ?_
  refine J.newa (atype := .int) (ty := .int) (n := 50) (c := 10) (N := 50) C rfl ⟨by decide, by decide, rfl, fun _ => rfl, (fun D h => by cases h), rfl⟩ wa_int (by decide) (by decide) (by decide) dX1_init_23 (fun S_5 _ => ?_)
  refine J.putRs (pc := 25) C fl_RX1_18 rfl (fun r h => by cases h; exact ⟨rfl, rfl⟩) hin nar_ra fit_ra dX1_init_25 (fun S_6 => ?_)
  refine J.aload_n (pc := 28) C (x := a0) dX1_init_28 rfl rfl ?_
  refine J.bipush (pc := 29) C dX1_init_29 kb_16 ?_
  refine J.newa (atype := .int) (ty := .int) (n := 16) (c := 10) (N := 16) C rfl ⟨by decide, by decide, rfl, fun _ => rfl, (fun D h => by cases h), rfl⟩ wa_int (by decide) (by decide) (by decide) dX1_init_31 (fun S_7 _ => ?_)
  refine J.putRs (pc := 33) C fl_RX1_21 rfl (fun r h => by cases h; exact ⟨rfl, rfl⟩) hin nar_ra fit_ra dX1_init_33 (fun S_8 => ?_)
  refine J.aload_n (pc := 36) C (x := a0) dX1_init_36 rfl rfl ?_
  refine J.bipush (pc := 37) C dX1_init_37 kb_16 ?_
  refine J.newa (atype := .int) (ty := .int) (n := 16) (c := 10) (N := 16) C rfl ⟨by decide, by decide, rfl, fun _ => rfl, (fun D h => by cases h), rfl⟩ wa_int (by decide) (by decide) (by decide) dX1_init_39 (fun S_9 _ => ?_)
  refine J.putRs (pc := 41) C fl_RX1_24 rfl (fun r h => by cases h; exact ⟨rfl, rfl⟩) hin nar_ra fit_ra dX1_init_41 (fun S_10 => ?_)
  refine J.ck (fun hr => ?_)
  exact J.vret (pc := 44) C rfl rfl (rok_le hr) dX1_init_44
abbrev rm_X5_init : Room := { frames := 1, cells := 0, slots := 0, locals := 20 }
def f_X5_init (S : St) (a0 : Nat) : Option St :=
  (chk (¬ a0 = 0)
  (chk (rok S.2.2 0 0 S.2.2) (some S)))
set_option maxRecDepth 100000 in
set_option maxHeartbeats 4000000 in
theorem c_X5_init (l : Launch) (g : GG) (S : St) (a0 : Nat) : Ct l yX5_init cX5_init 1 none rm_X5_init g aU pU [rv g a0] S (f_X5_init S a0) := by
  refine Ct.mk (cf := cfC S.2.2) (by decide +kernel) (cat_r cat_n) (Nat.le_of_ble_eq_true rfl) (cfC_0 _) ?_
  intro X hXl hin C
  show J X g _ _ 0 [(0, rv g a0)] [] S (f_X5_init S a0)
  have hin : X.2.2.2.2.2.2.2.2.1.name = "<init>" := hin
  unfold f_X5_init
  refine J.aload_n (pc := 0) C (x := a0) dX5_init_0 rfl rfl ?_
  refine J.objInit (pc := 1) C wm_RX5_1 w_oi w_oc cat_n ⟨Nat.le_of_ble_eq_true rfl, Nat.le_of_ble_eq_true rfl⟩ dX5_init_1 ?_
  refine J.ck (fun hr => ?_)
  exact J.vret (pc := 4) C rfl rfl (rok_le hr) dX5_init_4
abbrev rm_X3_init : Room := { frames := 2, cells := 19, slots := 876, locals := 40 }
def f_X3_init_B46 (n0 : Nat) (a0 : Nat) (kx46 : St → Option St) (k46 : St → Int32 → Option St) (S : St) (x1 : Int32) : Option St :=
  (chk (okc S 3 a0)
  (chk (okc S 10 (S.2.1 a0 0))
  (if (Int32.ofNat (ln (S.2.1 a0 0))) ≤ x1 then
  (kx46 S)
  else (chk (okc S 3 a0)
  (chk (rok n0 19 876 S.2.2) (bnd (f_X7_numberIn S 3 x1) fun r11 =>
  (chk (inw S 10 (S.2.1 a0 0) x1) (vlt (upI S (S.2.1 a0 0) x1.toNatClampNeg r11) fun S_12 =>
  (k46 S_12 (x1 + 1))))))))))
set_option maxRecDepth 100000 in
set_option maxHeartbeats 4000000 in
theorem w_X3_init_B46 {X : CT} {g : GG} (n0 : Nat) (hin : X.2.2.2.2.2.2.2.2.1.name = "<init>") (C : CX X g cX3_init RX3 none 2 rm_X3_init) (a0 : Nat) (kx46 : St → Option St) (hkx46 : ∀ (S : St), J X g (Qm X g aU pU) (cfC n0) 74 [(0, rv g a0)] [] S (kx46 S)) : ∀ (n : Nat) (S : St) (x1 : Int32), J X g (Qm X g aU pU) (cfC n0) 46 [(0, rv g a0), (1, .int x1)] [] S (wl2 (f_X3_init_B46 n0 a0 kx46) n S x1) := by
  refine J.loop2 (lvf := fun (S : St) (x1 : Int32) => [(0, rv g a0), (1, .int x1)]) (Sf := fun (S : St) (x1 : Int32) => S) ?_
  intro k46 hk46 S x1
  show J X g _ _ 46 [(0, rv g a0), (1, .int x1)] [] S (f_X3_init_B46 n0 a0 kx46 k46 S x1)
  unfold f_X3_init_B46
  refine J.iload_n (pc := 46) C dX3_init_46 rfl rfl ?_
  refine J.aload_n (pc := 47) C (x := a0) dX3_init_47 rfl rfl ?_
  refine J.getR (pc := 48) C fl_RX3_9 rfl dX3_init_48 ?_
  refine J.alen (pc := 51) C 10 (by decide) dX3_init_51 ?_
  refine J.icmp_ge (pc := 52) C (tgt := 74) dX3_init_52 rfl ?_ ?_
  · exact J.pick [0] rfl (hkx46 _)
  · refine J.aload_n (pc := 55) C (x := a0) dX3_init_55 rfl rfl ?_
    refine J.getR (pc := 56) C fl_RX3_9 rfl dX3_init_56 ?_
    refine J.iload_n (pc := 59) C dX3_init_59 rfl rfl ?_
    refine J.getsN (pc := 60) C 3 (by decide) ws_RX3_33 dX3_init_60 ?_
    refine J.iload_n (pc := 63) C dX3_init_63 rfl rfl ?_
    refine J.snIc (pc := 64) C ms_X7_numberIn wn_RX3_36 (fun l => c_X7_numberIn l g S 3 x1) ⟨Nat.le_of_ble_eq_true rfl, Nat.le_of_ble_eq_true rfl⟩ rfl rfl (cat_i (cat_r cat_n)) (Nat.le_of_ble_eq_true rfl) dX3_init_64 (fun r11 => ?_)
    refine J.iasts (pc := 67) C dX3_init_67 (fun S_12 => ?_)
    refine J.iinc (pc := 68) C (lv' := [(0, rv g a0), (1, .int (x1 + 1))]) dX3_init_68 rfl (Nat.le_of_ble_eq_true rfl) ki_1 rfl ?_
    refine J.goto (pc := 71) C (tgt := 46) dX3_init_71 rfl ?_
    exact (hk46 _ _)
def f_X3_init_B76 (n0 : Nat) (a0 : Nat) (kx76 : St → Option St) (k76 : St → Int32 → Option St) (S : St) (x1 : Int32) : Option St :=
  (chk (okc S 3 a0)
  (chk (okc S 14 (S.2.1 a0 1))
  (if (Int32.ofNat (ln (S.2.1 a0 1))) ≤ x1 then
  (kx76 S)
  else (chk (okc S 3 a0)
  (chk (kd S.2.2 = 5 ∧ nok n0 19 876 S.2.2 6) (vlt (newS S) fun S_14 =>
  (chk (okc S_14 5 S.2.2) (chk (rok2 n0 19 876 0 0 S_14.2.2) (bnd (f_X5_init S_14 S.2.2) fun S_15 =>
  (chk (S_15.2.2 = S_14.2.2 + 0 ∧ slT S_15.2.2 = slT S_14.2.2 + 0)
  (chk (inw S_15 14 (S.2.1 a0 1) x1 ∧ okc S_15 5 S.2.2) (vlt (upR S_15 (S.2.1 a0 1) x1.toNatClampNeg S.2.2) fun S_16 =>
  (k76 S_16 (x1 + 1))))))))))))))
set_option maxRecDepth 100000 in
set_option maxHeartbeats 4000000 in
theorem w_X3_init_B76 {X : CT} {g : GG} (n0 : Nat) (hin : X.2.2.2.2.2.2.2.2.1.name = "<init>") (C : CX X g cX3_init RX3 none 2 rm_X3_init) (a0 : Nat) (kx76 : St → Option St) (hkx76 : ∀ (S : St), J X g (Qm X g aU pU) (cfC n0) 104 [(0, rv g a0)] [] S (kx76 S)) : ∀ (n : Nat) (S : St) (x1 : Int32), J X g (Qm X g aU pU) (cfC n0) 76 [(0, rv g a0), (1, .int x1)] [] S (wl2 (f_X3_init_B76 n0 a0 kx76) n S x1) := by
  refine J.loop2 (lvf := fun (S : St) (x1 : Int32) => [(0, rv g a0), (1, .int x1)]) (Sf := fun (S : St) (x1 : Int32) => S) ?_
  intro k76 hk76 S x1
  show J X g _ _ 76 [(0, rv g a0), (1, .int x1)] [] S (f_X3_init_B76 n0 a0 kx76 k76 S x1)
  unfold f_X3_init_B76
  refine J.iload_n (pc := 76) C dX3_init_76 rfl rfl ?_
  refine J.aload_n (pc := 77) C (x := a0) dX3_init_77 rfl rfl ?_
  refine J.getR (pc := 78) C fl_RX3_17 rfl dX3_init_78 ?_
  refine J.alen (pc := 81) C 14 (by decide) dX3_init_81 ?_
  refine J.icmp_ge (pc := 82) C (tgt := 104) dX3_init_82 rfl ?_ ?_
  · exact J.pick [0] rfl (hkx76 _)
  · refine J.aload_n (pc := 85) C (x := a0) dX3_init_85 rfl rfl ?_
    refine J.getR (pc := 86) C fl_RX3_17 rfl dX3_init_86 ?_
    refine J.iload_n (pc := 89) C dX3_init_89 rfl rfl ?_
    refine J.new (ci := 5) (N := 6) C rfl rfl wl_RX3_15 wi_X5 wz_RX5 dX3_init_90 (fun S_14 _ => ?_)
    refine J.dup (pc := 93) C dX3_init_93 (rv_cat g _) ?_
    refine J.ctorN (pc := 94) C mi_X5_init wn_RX3_40 (fun l => c_X5_init l g S_14 S.2.2) ⟨Nat.le_of_ble_eq_true rfl, Nat.le_of_ble_eq_true rfl⟩ rfl rfl (cat_r (cat_i (cat_r cat_n))) (Nat.le_of_ble_eq_true rfl) dX3_init_94 (fun S_15 => ?_)
    refine J.aasts (pc := 97) C 14 5 (by decide) (fun _ => rfl) rfl rfl dX3_init_97 (fun S_16 => ?_)
    refine J.iinc (pc := 98) C (lv' := [(0, rv g a0), (1, .int (x1 + 1))]) dX3_init_98 rfl (Nat.le_of_ble_eq_true rfl) ki_1 rfl ?_
    refine J.goto (pc := 101) C (tgt := 76) dX3_init_101 rfl ?_
    exact (hk76 _ _)
def f_X3_init_B106 (n0 : Nat) (a0 : Nat) (kx106 : St → Option St) (k106 : St → Int32 → Option St) (S : St) (x1 : Int32) : Option St :=
  (chk (okc S 3 a0)
  (chk (okc S 12 (S.2.1 a0 3))
  (if (Int32.ofNat (ln (S.2.1 a0 3))) ≤ x1 then
  (kx106 S)
  else (chk (okc S 3 a0)
  (chk (kd S.2.2 = 0 ∧ nok n0 19 876 S.2.2 3) (vlt (newS S) fun S_18 =>
  (chk (okc S_18 0 S.2.2) (chk (rok2 n0 19 876 1 160 S_18.2.2) (bnd (f_X0_init S_18 S.2.2) fun S_19 =>
  (chk (S_19.2.2 = S_18.2.2 + 1 ∧ slT S_19.2.2 = slT S_18.2.2 + 160)
  (chk (inw S_19 12 (S.2.1 a0 3) x1 ∧ okc S_19 0 S.2.2) (vlt (upR S_19 (S.2.1 a0 3) x1.toNatClampNeg S.2.2) fun S_20 =>
  (k106 S_20 (x1 + 1))))))))))))))
set_option maxRecDepth 100000 in
set_option maxHeartbeats 4000000 in
theorem w_X3_init_B106 {X : CT} {g : GG} (n0 : Nat) (hin : X.2.2.2.2.2.2.2.2.1.name = "<init>") (C : CX X g cX3_init RX3 none 2 rm_X3_init) (a0 : Nat) (kx106 : St → Option St) (hkx106 : ∀ (S : St), J X g (Qm X g aU pU) (cfC n0) 134 [] [] S (kx106 S)) : ∀ (n : Nat) (S : St) (x1 : Int32), J X g (Qm X g aU pU) (cfC n0) 106 [(0, rv g a0), (1, .int x1)] [] S (wl2 (f_X3_init_B106 n0 a0 kx106) n S x1) := by
  refine J.loop2 (lvf := fun (S : St) (x1 : Int32) => [(0, rv g a0), (1, .int x1)]) (Sf := fun (S : St) (x1 : Int32) => S) ?_
  intro k106 hk106 S x1
  show J X g _ _ 106 [(0, rv g a0), (1, .int x1)] [] S (f_X3_init_B106 n0 a0 kx106 k106 S x1)
  unfold f_X3_init_B106
  refine J.iload_n (pc := 106) C dX3_init_106 rfl rfl ?_
  refine J.aload_n (pc := 107) C (x := a0) dX3_init_107 rfl rfl ?_
  refine J.getR (pc := 108) C fl_RX3_23 rfl dX3_init_108 ?_
  refine J.alen (pc := 111) C 12 (by decide) dX3_init_111 ?_
  refine J.icmp_ge (pc := 112) C (tgt := 134) dX3_init_112 rfl ?_ ?_
  · exact J.pick [] rfl (hkx106 _)
  · refine J.aload_n (pc := 115) C (x := a0) dX3_init_115 rfl rfl ?_
    refine J.getR (pc := 116) C fl_RX3_23 rfl dX3_init_116 ?_
    refine J.iload_n (pc := 119) C dX3_init_119 rfl rfl ?_
    refine J.new (ci := 0) (N := 3) C rfl rfl wl_RX3_21 wi_X0 wz_RX0 dX3_init_120 (fun S_18 _ => ?_)
    refine J.dup (pc := 123) C dX3_init_123 (rv_cat g _) ?_
    refine J.ctorN (pc := 124) C mi_X0_init wn_RX3_41 (fun l => c_X0_init l g S_18 S.2.2) ⟨Nat.le_of_ble_eq_true rfl, Nat.le_of_ble_eq_true rfl⟩ rfl rfl (cat_r (cat_i (cat_r cat_n))) (Nat.le_of_ble_eq_true rfl) dX3_init_124 (fun S_19 => ?_)
    refine J.aasts (pc := 127) C 12 0 (by decide) (fun _ => rfl) rfl rfl dX3_init_127 (fun S_20 => ?_)
    refine J.iinc (pc := 128) C (lv' := [(0, rv g a0), (1, .int (x1 + 1))]) dX3_init_128 rfl (Nat.le_of_ble_eq_true rfl) ki_1 rfl ?_
    refine J.goto (pc := 131) C (tgt := 106) dX3_init_131 rfl ?_
    exact (hk106 _ _)
def f_X3_init (S : St) (a0 : Nat) : Option St :=
  (chk (¬ a0 = 0)
  (chk ((kd S.2.2 = 10 ∧ ln S.2.2 = 8) ∧ nok S.2.2 19 876 S.2.2 8) (vlt (newS S) fun S_1 =>
  (chk (okc S_1 3 a0) (vlt (upR S_1 a0 0 S.2.2) fun S_2 =>
  (chk ((kd S_2.2.2 = 14 ∧ ln S_2.2.2 = 4) ∧ nok S.2.2 19 876 S_2.2.2 4) (vlt (newS S_2) fun S_3 =>
  (chk (okc S_3 3 a0) (vlt (upR S_3 a0 1 S_2.2.2) fun S_4 =>
  (chk ((kd S_4.2.2 = 12 ∧ ln S_4.2.2 = 5) ∧ nok S.2.2 19 876 S_4.2.2 5) (vlt (newS S_4) fun S_5 =>
  (chk (okc S_5 3 a0) (vlt (upR S_5 a0 3 S_4.2.2) fun S_6 =>
  (chk ((kd S_6.2.2 = 10 ∧ ln S_6.2.2 = 10) ∧ nok S.2.2 19 876 S_6.2.2 10) (vlt (newS S_6) fun S_7 =>
  (chk (okc S_7 3 a0) (vlt (upR S_7 a0 8 S_6.2.2) fun S_8 =>
  (chk ((kd S_8.2.2 = 10 ∧ ln S_8.2.2 = 10) ∧ nok S.2.2 19 876 S_8.2.2 10) (vlt (newS S_8) fun S_9 =>
  (chk (okc S_9 3 a0) (vlt (upR S_9 a0 9 S_8.2.2) fun S_10 =>
  (wl2 (f_X3_init_B46 S.2.2 a0 (fun (S_13 : St) => (wl2 (f_X3_init_B76 S.2.2 a0 (fun (S_17 : St) => (wl2 (f_X3_init_B106 S.2.2 a0 (fun (S_21 : St) => (chk (rok S.2.2 19 876 S_21.2.2) (some S_21)))) FU S_17 0))) FU S_13 0))) FU S_10 0))))))))))))))))))))))
set_option maxRecDepth 100000 in
set_option maxHeartbeats 4000000 in
theorem c_X3_init (l : Launch) (g : GG) (S : St) (a0 : Nat) : Ct l yX3_init cX3_init 2 none rm_X3_init g aU pU [rv g a0] S (f_X3_init S a0) := by
  refine Ct.mk (cf := cfC S.2.2) (by decide +kernel) (cat_r cat_n) (Nat.le_of_ble_eq_true rfl) (cfC_0 _) ?_
  intro X hXl hin C
  show J X g _ _ 0 [(0, rv g a0)] [] S (f_X3_init S a0)
  have hin : X.2.2.2.2.2.2.2.2.1.name = "<init>" := hin
  unfold f_X3_init
  refine J.aload_n (pc := 0) C (x := a0) dX3_init_0 rfl rfl ?_
  refine J.objInit (pc := 1) C wm_RX3_3 w_oi w_oc cat_n ⟨Nat.le_of_ble_eq_true rfl, Nat.le_of_ble_eq_true rfl⟩ dX3_init_1 ?_
  refine J.aload_n (pc := 4) C (x := a0) dX3_init_4 rfl rfl ?_
  refine J.bipush (pc := 5) C dX3_init_5 kb_8 ?_
  refine J.newa (atype := .int) (ty := .int) (n := 8) (c := 10) (N := 8) C rfl ⟨by decide, by decide, rfl, fun _ => rfl, (fun D h => by cases h), rfl⟩ wa_int (by decide) (by decide) (by decide) dX3_init_7 (fun S_1 _ => ?_)
  refine J.putRs (pc := 9) C fl_RX3_9 rfl (fun r h => by cases h; exact ⟨rfl, rfl⟩) hin nar_ra fit_ra dX3_init_9 (fun S_2 => ?_)
  refine J.aload_n (pc := 12) C (x := a0) dX3_init_12 rfl rfl ?_
  refine J.iconst (pc := 13) C dX3_init_13 ki_4 ?_
  refine J.newr (n := 4) (c := 14) (ce := 5) (N := 4) C rfl ⟨by decide, by decide, rfl, fun _ => rfl⟩ wl_RX3_15 (fun U hU => hU.2.2.2.2.2.2) (by decide) (by decide) (by decide) dX3_init_14 (fun S_3 _ => ?_)
  refine J.putRs (pc := 17) C fl_RX3_17 rfl (fun r h => by cases h; exact ⟨rfl, rfl⟩) hin nar_ra fit_ra dX3_init_17 (fun S_4 => ?_)
  refine J.aload_n (pc := 20) C (x := a0) dX3_init_20 rfl rfl ?_
  refine J.iconst (pc := 21) C dX3_init_21 ki_5 ?_
  refine J.newr (n := 5) (c := 12) (ce := 0) (N := 5) C rfl ⟨by decide, by decide, rfl, fun _ => rfl⟩ wl_RX3_21 (fun U hU => hU.2.2.2.2.1) (by decide) (by decide) (by decide) dX3_init_22 (fun S_5 _ => ?_)
  refine J.putRs (pc := 25) C fl_RX3_23 rfl (fun r h => by cases h; exact ⟨rfl, rfl⟩) hin nar_ra fit_ra dX3_init_25 (fun S_6 => ?_)
  refine J.aload_n (pc := 28) C (x := a0) dX3_init_28 rfl rfl ?_
  refine J.bipush (pc := 29) C dX3_init_29 kb_10 ?_
  refine J.newa (atype := .int) (ty := .int) (n := 10) (c := 10) (N := 10) C rfl ⟨by decide, by decide, rfl, fun _ => rfl, (fun D h => by cases h), rfl⟩ wa_int (by decide) (by decide) (by decide) dX3_init_31 (fun S_7 _ => ?_)
  refine J.putRs (pc := 33) C fl_RX3_27 rfl (fun r h => by cases h; exact ⟨rfl, rfl⟩) hin nar_ra fit_ra dX3_init_33 (fun S_8 => ?_)
  refine J.aload_n (pc := 36) C (x := a0) dX3_init_36 rfl rfl ?_
  refine J.bipush (pc := 37) C dX3_init_37 kb_10 ?_
  refine J.newa (atype := .int) (ty := .int) (n := 10) (c := 10) (N := 10) C rfl ⟨by decide, by decide, rfl, fun _ => rfl, (fun D h => by cases h), rfl⟩ wa_int (by decide) (by decide) (by decide) dX3_init_39 (fun S_9 _ => ?_)
  refine J.putRs (pc := 41) C fl_RX3_30 rfl (fun r h => by cases h; exact ⟨rfl, rfl⟩) hin nar_ra fit_ra dX3_init_41 (fun S_10 => ?_)
  refine J.iconst (pc := 44) C dX3_init_44 ki_0 ?_
  refine J.istore_n (pc := 45) C (lv' := [(0, rv g a0), (1, .int 0)]) dX3_init_45 rfl (Nat.le_of_ble_eq_true rfl) rfl ?_
  refine w_X3_init_B46 _ hin C _ _ (fun S_13 => ?_) FU _ _
  refine J.iconst (pc := 74) C dX3_init_74 ki_0 ?_
  refine J.istore_n (pc := 75) C (lv' := [(0, rv g a0), (1, .int 0)]) dX3_init_75 rfl (Nat.le_of_ble_eq_true rfl) rfl ?_
  refine w_X3_init_B76 _ hin C _ _ (fun S_17 => ?_) FU _ _
  refine J.iconst (pc := 104) C dX3_init_104 ki_0 ?_
  refine J.istore_n (pc := 105) C (lv' := [(0, rv g a0), (1, .int 0)]) dX3_init_105 rfl (Nat.le_of_ble_eq_true rfl) rfl ?_
  refine w_X3_init_B106 _ hin C _ _ (fun S_21 => ?_) FU _ _
  refine J.ck (fun hr => ?_)
  exact J.vret (pc := 134) C rfl rfl (rok_le hr) dX3_init_134
abbrev rm_X2_init : Room := { frames := 1, cells := 1, slots := 6, locals := 20 }
def f_X2_init (S : St) (a0 : Nat) : Option St :=
  (chk (¬ a0 = 0)
  (chk ((kd S.2.2 = 10 ∧ ln S.2.2 = 6) ∧ nok S.2.2 1 6 S.2.2 6) (vlt (newS S) fun S_1 =>
  (chk (okc S_1 2 a0) (vlt (upR S_1 a0 1 S.2.2) fun S_2 =>
  (chk (rok S.2.2 1 6 S_2.2.2) (some S_2)))))))
set_option maxRecDepth 100000 in
set_option maxHeartbeats 4000000 in
theorem c_X2_init (l : Launch) (g : GG) (S : St) (a0 : Nat) : Ct l yX2_init cX2_init 1 none rm_X2_init g aU pU [rv g a0] S (f_X2_init S a0) := by
  refine Ct.mk (cf := cfC S.2.2) (by decide +kernel) (cat_r cat_n) (Nat.le_of_ble_eq_true rfl) (cfC_0 _) ?_
  intro X hXl hin C
  show J X g _ _ 0 [(0, rv g a0)] [] S (f_X2_init S a0)
  have hin : X.2.2.2.2.2.2.2.2.1.name = "<init>" := hin
  unfold f_X2_init
  refine J.aload_n (pc := 0) C (x := a0) dX2_init_0 rfl rfl ?_
  refine J.objInit (pc := 1) C wm_RX2_3 w_oi w_oc cat_n ⟨Nat.le_of_ble_eq_true rfl, Nat.le_of_ble_eq_true rfl⟩ dX2_init_1 ?_
  refine J.aload_n (pc := 4) C (x := a0) dX2_init_4 rfl rfl ?_
  refine J.bipush (pc := 5) C dX2_init_5 kb_6 ?_
  refine J.newa (atype := .int) (ty := .int) (n := 6) (c := 10) (N := 6) C rfl ⟨by decide, by decide, rfl, fun _ => rfl, (fun D h => by cases h), rfl⟩ wa_int (by decide) (by decide) (by decide) dX2_init_7 (fun S_1 _ => ?_)
  refine J.putRs (pc := 9) C fl_RX2_9 rfl (fun r h => by cases h; exact ⟨rfl, rfl⟩) hin nar_ra fit_ra dX2_init_9 (fun S_2 => ?_)
  refine J.ck (fun hr => ?_)
  exact J.vret (pc := 12) C rfl rfl (rok_le hr) dX2_init_12
abbrev rm_X4_init : Room := { frames := 2, cells := 3, slots := 90, locals := 40 }
def f_X4_init (S : St) (a0 : Nat) : Option St :=
  (chk (¬ a0 = 0)
  (chk ((kd S.2.2 = 11 ∧ ln S.2.2 = 80) ∧ nok S.2.2 3 90 S.2.2 80) (vlt (newS S) fun S_1 =>
  (chk (okc S_1 4 a0) (vlt (upR S_1 a0 0 S.2.2) fun S_2 =>
  (chk (kd S_2.2.2 = 2 ∧ nok S.2.2 3 90 S_2.2.2 4) (vlt (newS S_2) fun S_3 =>
  (chk (okc S_3 2 S_2.2.2) (chk (rok2 S.2.2 3 90 1 6 S_3.2.2) (bnd (f_X2_init S_3 S_2.2.2) fun S_4 =>
  (chk (S_4.2.2 = S_3.2.2 + 1 ∧ slT S_4.2.2 = slT S_3.2.2 + 6)
  (chk (okc S_4 4 a0) (vlt (upR S_4 a0 2 S_2.2.2) fun S_5 =>
  (chk (rok S.2.2 3 90 S_5.2.2) (some S_5)))))))))))))))
set_option maxRecDepth 100000 in
set_option maxHeartbeats 4000000 in
theorem c_X4_init (l : Launch) (g : GG) (S : St) (a0 : Nat) : Ct l yX4_init cX4_init 1 none rm_X4_init g aU pU [rv g a0] S (f_X4_init S a0) := by
  refine Ct.mk (cf := cfC S.2.2) (by decide +kernel) (cat_r cat_n) (Nat.le_of_ble_eq_true rfl) (cfC_0 _) ?_
  intro X hXl hin C
  show J X g _ _ 0 [(0, rv g a0)] [] S (f_X4_init S a0)
  have hin : X.2.2.2.2.2.2.2.2.1.name = "<init>" := hin
  unfold f_X4_init
  refine J.aload_n (pc := 0) C (x := a0) dX4_init_0 rfl rfl ?_
  refine J.objInit (pc := 1) C wm_RX4_3 w_oi w_oc cat_n ⟨Nat.le_of_ble_eq_true rfl, Nat.le_of_ble_eq_true rfl⟩ dX4_init_1 ?_
  refine J.aload_n (pc := 4) C (x := a0) dX4_init_4 rfl rfl ?_
  refine J.bipush (pc := 5) C dX4_init_5 kb_80 ?_
  refine J.newa (atype := .char) (ty := .char) (n := 80) (c := 11) (N := 80) C rfl ⟨by decide, by decide, rfl, fun _ => rfl, (fun D h => by cases h), rfl⟩ wa_char (by decide) (by decide) (by decide) dX4_init_7 (fun S_1 _ => ?_)
  refine J.putRs (pc := 9) C fl_RX4_9 rfl (fun r h => by cases h; exact ⟨rfl, rfl⟩) hin nar_ra fit_ra dX4_init_9 (fun S_2 => ?_)
  refine J.aload_n (pc := 12) C (x := a0) dX4_init_12 rfl rfl ?_
  refine J.new (ci := 2) (N := 4) C rfl rfl wl_RX4_15 wi_X2 wz_RX2 dX4_init_13 (fun S_3 _ => ?_)
  refine J.dup (pc := 16) C dX4_init_16 (rv_cat g _) ?_
  refine J.ctorN (pc := 17) C mi_X2_init wn_RX4_17 (fun l => c_X2_init l g S_3 S_2.2.2) ⟨Nat.le_of_ble_eq_true rfl, Nat.le_of_ble_eq_true rfl⟩ rfl rfl (cat_r (cat_r cat_n)) (Nat.le_of_ble_eq_true rfl) dX4_init_17 (fun S_4 => ?_)
  refine J.putRs (pc := 20) C fl_RX4_18 rfl (fun r h => by cases h; exact ⟨rfl, rfl⟩) hin nar_r fit_r dX4_init_20 (fun S_5 => ?_)
  refine J.ck (fun hr => ?_)
  exact J.vret (pc := 23) C rfl rfl (rok_le hr) dX4_init_23
abbrev rm_X6_init : Room := { frames := 1, cells := 4, slots := 47, locals := 20 }
def f_X6_init (S : St) (a0 : Nat) : Option St :=
  (chk (¬ a0 = 0)
  (chk ((kd S.2.2 = 10 ∧ ln S.2.2 = 10) ∧ nok S.2.2 4 47 S.2.2 10) (vlt (newS S) fun S_1 =>
  (chk (okc S_1 6 a0) (vlt (upR S_1 a0 0 S.2.2) fun S_2 =>
  (chk ((kd S_2.2.2 = 10 ∧ ln S_2.2.2 = 10) ∧ nok S.2.2 4 47 S_2.2.2 10) (vlt (newS S_2) fun S_3 =>
  (chk (okc S_3 6 a0) (vlt (upR S_3 a0 1 S_2.2.2) fun S_4 =>
  (chk ((kd S_4.2.2 = 10 ∧ ln S_4.2.2 = 10) ∧ nok S.2.2 4 47 S_4.2.2 10) (vlt (newS S_4) fun S_5 =>
  (chk (okc S_5 6 a0) (vlt (upR S_5 a0 2 S_4.2.2) fun S_6 =>
  (chk ((kd S_6.2.2 = 10 ∧ ln S_6.2.2 = 17) ∧ nok S.2.2 4 47 S_6.2.2 17) (vlt (newS S_6) fun S_7 =>
  (chk (okc S_7 6 a0) (vlt (upR S_7 a0 3 S_6.2.2) fun S_8 =>
  (chk (rok S.2.2 4 47 S_8.2.2) (some S_8)))))))))))))))))))
set_option maxRecDepth 100000 in
set_option maxHeartbeats 4000000 in
theorem c_X6_init (l : Launch) (g : GG) (S : St) (a0 : Nat) : Ct l yX6_init cX6_init 1 none rm_X6_init g aU pU [rv g a0] S (f_X6_init S a0) := by
  refine Ct.mk (cf := cfC S.2.2) (by decide +kernel) (cat_r cat_n) (Nat.le_of_ble_eq_true rfl) (cfC_0 _) ?_
  intro X hXl hin C
  show J X g _ _ 0 [(0, rv g a0)] [] S (f_X6_init S a0)
  have hin : X.2.2.2.2.2.2.2.2.1.name = "<init>" := hin
  unfold f_X6_init
  refine J.aload_n (pc := 0) C (x := a0) dX6_init_0 rfl rfl ?_
  refine J.objInit (pc := 1) C wm_RX6_3 w_oi w_oc cat_n ⟨Nat.le_of_ble_eq_true rfl, Nat.le_of_ble_eq_true rfl⟩ dX6_init_1 ?_
  refine J.aload_n (pc := 4) C (x := a0) dX6_init_4 rfl rfl ?_
  refine J.bipush (pc := 5) C dX6_init_5 kb_10 ?_
  refine J.newa (atype := .int) (ty := .int) (n := 10) (c := 10) (N := 10) C rfl ⟨by decide, by decide, rfl, fun _ => rfl, (fun D h => by cases h), rfl⟩ wa_int (by decide) (by decide) (by decide) dX6_init_7 (fun S_1 _ => ?_)
  refine J.putRs (pc := 9) C fl_RX6_9 rfl (fun r h => by cases h; exact ⟨rfl, rfl⟩) hin nar_ra fit_ra dX6_init_9 (fun S_2 => ?_)
  refine J.aload_n (pc := 12) C (x := a0) dX6_init_12 rfl rfl ?_
  refine J.bipush (pc := 13) C dX6_init_13 kb_10 ?_
  refine J.newa (atype := .int) (ty := .int) (n := 10) (c := 10) (N := 10) C rfl ⟨by decide, by decide, rfl, fun _ => rfl, (fun D h => by cases h), rfl⟩ wa_int (by decide) (by decide) (by decide) dX6_init_15 (fun S_3 _ => ?_)
  refine J.putRs (pc := 17) C fl_RX6_15 rfl (fun r h => by cases h; exact ⟨rfl, rfl⟩) hin nar_ra fit_ra dX6_init_17 (fun S_4 => ?_)
  refine J.aload_n (pc := 20) C (x := a0) dX6_init_20 rfl rfl ?_
  refine J.bipush (pc := 21) C dX6_init_21 kb_10 ?_
  refine J.newa (atype := .int) (ty := .int) (n := 10) (c := 10) (N := 10) C rfl ⟨by decide, by decide, rfl, fun _ => rfl, (fun D h => by cases h), rfl⟩ wa_int (by decide) (by decide) (by decide) dX6_init_23 (fun S_5 _ => ?_)
  refine J.putRs (pc := 25) C fl_RX6_18 rfl (fun r h => by cases h; exact ⟨rfl, rfl⟩) hin nar_ra fit_ra dX6_init_25 (fun S_6 => ?_)
  refine J.aload_n (pc := 28) C (x := a0) dX6_init_28 rfl rfl ?_
  refine J.bipush (pc := 29) C dX6_init_29 kb_17 ?_
  refine J.newa (atype := .int) (ty := .int) (n := 17) (c := 10) (N := 17) C rfl ⟨by decide, by decide, rfl, fun _ => rfl, (fun D h => by cases h), rfl⟩ wa_int (by decide) (by decide) (by decide) dX6_init_31 (fun S_7 _ => ?_)
  refine J.putRs (pc := 33) C fl_RX6_21 rfl (fun r h => by cases h; exact ⟨rfl, rfl⟩) hin nar_ra fit_ra dX6_init_33 (fun S_8 => ?_)
  refine J.ck (fun hr => ?_)
  exact J.vret (pc := 36) C rfl rfl (rok_le hr) dX6_init_36
abbrev rm_X7_init : Room := { frames := 3, cells := 119, slots := 4957, locals := 61 }
def f_X7_init_B82 (n0 : Nat) (a0 : Nat) (kx82 : St → Option St) (k82 : St → Int32 → Option St) (S : St) (x1 : Int32) : Option St :=
  (chk (okc S 7 a0)
  (chk (okc S 13 (S.2.1 a0 1))
  (if (Int32.ofNat (ln (S.2.1 a0 1))) ≤ x1 then
  (kx82 S)
  else (chk (okc S 7 a0)
  (chk (kd S.2.2 = 3 ∧ nok n0 119 4957 S.2.2 10) (vlt (newS S) fun S_21 =>
  (chk (okc S_21 3 S.2.2) (chk (rok2 n0 119 4957 19 876 S_21.2.2) (bnd (f_X3_init S_21 S.2.2) fun S_22 =>
  (chk (S_22.2.2 = S_21.2.2 + 19 ∧ slT S_22.2.2 = slT S_21.2.2 + 876)
  (chk (inw S_22 13 (S.2.1 a0 1) x1 ∧ okc S_22 3 S.2.2) (vlt (upR S_22 (S.2.1 a0 1) x1.toNatClampNeg S.2.2) fun S_23 =>
  (k82 S_23 (x1 + 1))))))))))))))
set_option maxRecDepth 100000 in
set_option maxHeartbeats 4000000 in
theorem w_X7_init_B82 {X : CT} {g : GG} (n0 : Nat) (hin : X.2.2.2.2.2.2.2.2.1.name = "<init>") (C : CX X g cX7_init RX7 none 2 rm_X7_init) (a0 : Nat) (kx82 : St → Option St) (hkx82 : ∀ (S : St), J X g (Qm X g aU pU) (cfC n0) 110 [] [] S (kx82 S)) : ∀ (n : Nat) (S : St) (x1 : Int32), J X g (Qm X g aU pU) (cfC n0) 82 [(0, rv g a0), (1, .int x1)] [] S (wl2 (f_X7_init_B82 n0 a0 kx82) n S x1) := by
  refine J.loop2 (lvf := fun (S : St) (x1 : Int32) => [(0, rv g a0), (1, .int x1)]) (Sf := fun (S : St) (x1 : Int32) => S) ?_
  intro k82 hk82 S x1
  show J X g _ _ 82 [(0, rv g a0), (1, .int x1)] [] S (f_X7_init_B82 n0 a0 kx82 k82 S x1)
  unfold f_X7_init_B82
  refine J.iload_n (pc := 82) C dX7_init_82 rfl rfl ?_
  refine J.aload_n (pc := 83) C (x := a0) dX7_init_83 rfl rfl ?_
  refine J.getR (pc := 84) C fl_RX7_16 rfl dX7_init_84 ?_
  refine J.alen (pc := 87) C 13 (by decide) dX7_init_87 ?_
  refine J.icmp_ge (pc := 88) C (tgt := 110) dX7_init_88 rfl ?_ ?_
  · exact J.pick [] rfl (hkx82 _)
  · refine J.aload_n (pc := 91) C (x := a0) dX7_init_91 rfl rfl ?_
    refine J.getR (pc := 92) C fl_RX7_16 rfl dX7_init_92 ?_
    refine J.iload_n (pc := 95) C dX7_init_95 rfl rfl ?_
    refine J.new (ci := 3) (N := 10) C rfl rfl wl_RX7_9 wi_X3 wz_RX3 dX7_init_96 (fun S_21 _ => ?_)
    refine J.dup (pc := 99) C dX7_init_99 (rv_cat g _) ?_
    refine J.ctor (pc := 100) C mi_X3_init wm_RX7_11 (fun l => c_X3_init l g S_21 S.2.2) ⟨Nat.le_of_ble_eq_true rfl, Nat.le_of_ble_eq_true rfl⟩ rfl rfl (cat_r (cat_i (cat_r cat_n))) (Nat.le_of_ble_eq_true rfl) dX7_init_100 (fun S_22 => ?_)
    refine J.aasts (pc := 103) C 13 3 (by decide) (fun _ => rfl) rfl rfl dX7_init_103 (fun S_23 => ?_)
    refine J.iinc (pc := 104) C (lv' := [(0, rv g a0), (1, .int (x1 + 1))]) dX7_init_104 rfl (Nat.le_of_ble_eq_true rfl) ki_1 rfl ?_
    refine J.goto (pc := 107) C (tgt := 82) dX7_init_107 rfl ?_
    exact (hk82 _ _)
def f_X7_init (S : St) (a0 : Nat) : Option St :=
  (chk (¬ a0 = 0)
  (chk (kd S.2.2 = 3 ∧ nok S.2.2 119 4957 S.2.2 10) (vlt (newS S) fun S_1 =>
  (chk (okc S_1 3 S.2.2) (chk (rok2 S.2.2 119 4957 19 876 S_1.2.2) (bnd (f_X3_init S_1 S.2.2) fun S_2 =>
  (chk (S_2.2.2 = S_1.2.2 + 19 ∧ slT S_2.2.2 = slT S_1.2.2 + 876)
  (chk (okc S_2 7 a0) (vlt (upR S_2 a0 0 S.2.2) fun S_3 =>
  (chk ((kd S_3.2.2 = 13 ∧ ln S_3.2.2 = 4) ∧ nok S.2.2 119 4957 S_3.2.2 4) (vlt (newS S_3) fun S_4 =>
  (chk (okc S_4 7 a0) (vlt (upR S_4 a0 1 S_3.2.2) fun S_5 =>
  (chk (okc S_5 7 a0) (vlt (upI S_5 a0 2 0) fun S_6 =>
  (chk (kd S_6.2.2 = 4 ∧ nok S.2.2 119 4957 S_6.2.2 10) (vlt (newS S_6) fun S_7 =>
  (chk (okc S_7 4 S_6.2.2) (chk (rok2 S.2.2 119 4957 3 90 S_7.2.2) (bnd (f_X4_init S_7 S_6.2.2) fun S_8 =>
  (chk (S_8.2.2 = S_7.2.2 + 3 ∧ slT S_8.2.2 = slT S_7.2.2 + 90)
  (chk (okc S_8 7 a0) (vlt (upR S_8 a0 3 S_6.2.2) fun S_9 =>
  (chk (kd S_9.2.2 = 6 ∧ nok S.2.2 119 4957 S_9.2.2 4) (vlt (newS S_9) fun S_10 =>
  (chk (okc S_10 6 S_9.2.2) (chk (rok2 S.2.2 119 4957 4 47 S_10.2.2) (bnd (f_X6_init S_10 S_9.2.2) fun S_11 =>
  (chk (S_11.2.2 = S_10.2.2 + 4 ∧ slT S_11.2.2 = slT S_10.2.2 + 47)
  (chk (okc S_11 7 a0) (vlt (upR S_11 a0 4 S_9.2.2) fun S_12 =>
  (chk (kd S_12.2.2 = 1 ∧ nok S.2.2 119 4957 S_12.2.2 11) (vlt (newS S_12) fun S_13 =>
  (chk (okc S_13 1 S_12.2.2) (chk (rok2 S.2.2 119 4957 5 182 S_13.2.2) (bnd (f_X1_init S_13 S_12.2.2) fun S_14 =>
  (chk (S_14.2.2 = S_13.2.2 + 5 ∧ slT S_14.2.2 = slT S_13.2.2 + 182)
  (chk (okc S_14 7 a0) (vlt (upR S_14 a0 5 S_12.2.2) fun S_15 =>
  (chk (kd S_15.2.2 = 0 ∧ nok S.2.2 119 4957 S_15.2.2 3) (vlt (newS S_15) fun S_16 =>
  (chk (okc S_16 0 S_15.2.2) (chk (rok2 S.2.2 119 4957 1 160 S_16.2.2) (bnd (f_X0_init S_16 S_15.2.2) fun S_17 =>
  (chk (S_17.2.2 = S_16.2.2 + 1 ∧ slT S_17.2.2 = slT S_16.2.2 + 160)
  (chk (okc S_17 7 a0) (vlt (upR S_17 a0 6 S_15.2.2) fun S_18 =>
  (chk ((kd S_18.2.2 = 10 ∧ ln S_18.2.2 = 16) ∧ nok S.2.2 119 4957 S_18.2.2 16) (vlt (newS S_18) fun S_19 =>
  (chk (okc S_19 7 a0) (vlt (upR S_19 a0 7 S_18.2.2) fun S_20 =>
  (wl2 (f_X7_init_B82 S.2.2 a0 (fun (S_24 : St) => (chk (rok S.2.2 119 4957 S_24.2.2) (some S_24)))) FU S_20 0))))))))))))))))))))))))))))))))))))))))))))))))))))
set_option maxRecDepth 100000 in
set_option maxHeartbeats 4000000 in
theorem c_X7_init (l : Launch) (g : GG) (S : St) (a0 : Nat) : Ct l yX7_init cX7_init 2 none rm_X7_init g aU pU [rv g a0] S (f_X7_init S a0) := by
  refine Ct.mk (cf := cfC S.2.2) (by decide +kernel) (cat_r cat_n) (Nat.le_of_ble_eq_true rfl) (cfC_0 _) ?_
  intro X hXl hin C
  show J X g _ _ 0 [(0, rv g a0)] [] S (f_X7_init S a0)
  have hin : X.2.2.2.2.2.2.2.2.1.name = "<init>" := hin
  unfold f_X7_init
  refine J.aload_n (pc := 0) C (x := a0) dX7_init_0 rfl rfl ?_
  refine J.objInit (pc := 1) C wm_RX7_3 w_oi w_oc cat_n ⟨Nat.le_of_ble_eq_true rfl, Nat.le_of_ble_eq_true rfl⟩ dX7_init_1 ?_
  refine J.aload_n (pc := 4) C (x := a0) dX7_init_4 rfl rfl ?_
  refine J.new (ci := 3) (N := 10) C rfl rfl wl_RX7_9 wi_X3 wz_RX3 dX7_init_5 (fun S_1 _ => ?_)
  refine J.dup (pc := 8) C dX7_init_8 (rv_cat g _) ?_
  refine J.ctor (pc := 9) C mi_X3_init wm_RX7_11 (fun l => c_X3_init l g S_1 S.2.2) ⟨Nat.le_of_ble_eq_true rfl, Nat.le_of_ble_eq_true rfl⟩ rfl rfl (cat_r (cat_r cat_n)) (Nat.le_of_ble_eq_true rfl) dX7_init_9 (fun S_2 => ?_)
  refine J.putRs (pc := 12) C fl_RX7_12 rfl (fun r h => by cases h; exact ⟨rfl, rfl⟩) hin nar_r fit_r dX7_init_12 (fun S_3 => ?_)
  refine J.aload_n (pc := 15) C (x := a0) dX7_init_15 rfl rfl ?_
  refine J.iconst (pc := 16) C dX7_init_16 ki_4 ?_
  refine J.newr (n := 4) (c := 13) (ce := 3) (N := 4) C rfl ⟨by decide, by decide, rfl, fun _ => rfl⟩ wl_RX7_9 (fun U hU => hU.2.2.2.2.2.1) (by decide) (by decide) (by decide) dX7_init_17 (fun S_4 _ => ?_)
  refine J.putRs (pc := 20) C fl_RX7_16 rfl (fun r h => by cases h; exact ⟨rfl, rfl⟩) hin nar_ra fit_ra dX7_init_20 (fun S_5 => ?_)
  refine J.aload_n (pc := 23) C (x := a0) dX7_init_23 rfl rfl ?_
  refine J.iconst (pc := 24) C dX7_init_24 ki_0 ?_
  refine J.putIs (pc := 25) C fl_RX7_20 rfl (fun r h => by cases h; rfl) rfl rfl dX7_init_25 (fun S_6 => ?_)
  refine J.aload_n (pc := 28) C (x := a0) dX7_init_28 rfl rfl ?_
  refine J.new (ci := 4) (N := 10) C rfl rfl wl_RX7_24 wi_X4 wz_RX4 dX7_init_29 (fun S_7 _ => ?_)
  refine J.dup (pc := 32) C dX7_init_32 (rv_cat g _) ?_
  refine J.ctorN (pc := 33) C mi_X4_init wn_RX7_26 (fun l => c_X4_init l g S_7 S_6.2.2) ⟨Nat.le_of_ble_eq_true rfl, Nat.le_of_ble_eq_true rfl⟩ rfl rfl (cat_r (cat_r cat_n)) (Nat.le_of_ble_eq_true rfl) dX7_init_33 (fun S_8 => ?_)
  refine J.putRs (pc := 36) C fl_RX7_27 rfl (fun r h => by cases h; exact ⟨rfl, rfl⟩) hin nar_r fit_r dX7_init_36 (fun S_9 => ?_)
  refine J.aload_n (pc := 39) C (x := a0) dX7_init_39 rfl rfl ?_
  refine J.new (ci := 6) (N := 4) C rfl rfl wl_RX7_31 wi_X6 wz_RX6 dX7_init_40 (fun S_10 _ => ?_)
  refine J.dup (pc := 43) C dX7_init_43 (rv_cat g _) ?_
  refine J.ctorN (pc := 44) C mi_X6_init wn_RX7_33 (fun l => c_X6_init l g S_10 S_9.2.2) ⟨Nat.le_of_ble_eq_true rfl, Nat.le_of_ble_eq_true rfl⟩ rfl rfl (cat_r (cat_r cat_n)) (Nat.le_of_ble_eq_true rfl) dX7_init_44 (fun S_11 => ?_)
  refine J.putRs (pc := 47) C fl_RX7_34 rfl (fun r h => by cases h; exact ⟨rfl, rfl⟩) hin nar_r fit_r dX7_init_47 (fun S_12 => ?_)
  refine J.aload_n (pc := 50) C (x := a0) dX7_init_50 rfl rfl ?_
  refine J.new (ci := 1) (N := 11) C rfl rfl wl_RX7_38 wi_X1 wz_RX1 dX7_init_51 (fun S_13 _ => ?_)
  refine J.dup (pc := 54) C dX7_init_54 (rv_cat g _) ?_
  refine J.ctorN (pc := 55) C mi_X1_init wn_RX7_40 (fun l => c_X1_init l g S_13 S_12.2.2) ⟨Nat.le_of_ble_eq_true rfl, Nat.le_of_ble_eq_true rfl⟩ rfl rfl (cat_r (cat_r cat_n)) (Nat.le_of_ble_eq_true rfl) dX7_init_55 (fun S_14 => ?_)
  refine J.putRs (pc := 58) C fl_RX7_41 rfl (fun r h => by cases h; exact ⟨rfl, rfl⟩) hin nar_r fit_r dX7_init_58 (fun S_15 => ?_)
  refine J.aload_n (pc := 61) C (x := a0) dX7_init_61 rfl rfl ?_
  refine J.new (ci := 0) (N := 3) C rfl rfl wl_RX7_45 wi_X0 wz_RX0 dX7_init_62 (fun S_16 _ => ?_)
  refine J.dup (pc := 65) C dX7_init_65 (rv_cat g _) ?_
  refine J.ctorN (pc := 66) C mi_X0_init wn_RX7_47 (fun l => c_X0_init l g S_16 S_15.2.2) ⟨Nat.le_of_ble_eq_true rfl, Nat.le_of_ble_eq_true rfl⟩ rfl rfl (cat_r (cat_r cat_n)) (Nat.le_of_ble_eq_true rfl) dX7_init_66 (fun S_17 => ?_)
  refine J.putRs (pc := 69) C fl_RX7_48 rfl (fun r h => by cases h; exact ⟨rfl, rfl⟩) hin nar_r fit_r dX7_init_69 (fun S_18 => ?_)
  refine J.aload_n (pc := 72) C (x := a0) dX7_init_72 rfl rfl ?_
  refine J.bipush (pc := 73) C dX7_init_73 kb_16 ?_
  refine J.newa (atype := .int) (ty := .int) (n := 16) (c := 10) (N := 16) C rfl ⟨by decide, by decide, rfl, fun _ => rfl, (fun D h => by cases h), rfl⟩ wa_int (by decide) (by decide) (by decide) dX7_init_75 (fun S_19 _ => ?_)
  refine J.putRs (pc := 77) C fl_RX7_52 rfl (fun r h => by cases h; exact ⟨rfl, rfl⟩) hin nar_ra fit_ra dX7_init_77 (fun S_20 => ?_)
  refine J.iconst (pc := 80) C dX7_init_80 ki_0 ?_
  refine J.istore_n (pc := 81) C (lv' := [(0, rv g a0), (1, .int 0)]) dX7_init_81 rfl (Nat.le_of_ble_eq_true rfl) rfl ?_
  refine w_X7_init_B82 _ hin C _ _ (fun S_24 => ?_) FU _ _
  refine J.ck (fun hr => ?_)
  exact J.vret (pc := 110) C rfl rfl (rok_le hr) dX7_init_110
abbrev rm_X3_judgeRows : Room := { frames := 1, cells := 0, slots := 0, locals := 21 }
def f_X3_judgeRows_B2 (a0 : Nat) (a1 : Int32) (a2 : Int32) (kx2 : St → Option St) (k2 : St → Int32 → Option St) (S : St) (x3 : Int32) : Option St :=
  (chk (okc S 3 a0)
  (chk (okc S 10 (S.2.1 a0 8))
  (if (Int32.ofNat (ln (S.2.1 a0 8))) ≤ x3 then
  (kx2 S)
  else (chk (okc S 3 a0)
  (chk (okc S 10 (S.2.1 a0 9))
  (if (Int32.ofNat (ln (S.2.1 a0 9))) ≤ x3 then
  (kx2 S)
  else (bnd (f_X7_holds a1 x3) fun r1 =>
  (if r1 = 0 then
  (bnd (f_X7_holds a2 x3) fun r2 =>
  (if r2 = 0 then
  (k2 S (x3 + 1))
  else (chk (okc S 3 a0)
  (chk (ina S 10 (S.2.1 a0 9) x3)
  (chk (inw S 10 (S.2.1 a0 9) x3) (vlt (upI S (S.2.1 a0 9) x3.toNatClampNeg ((S.1 (S.2.1 a0 9) x3.toNatClampNeg) + 1)) fun S_3 =>
  (k2 S_3 (x3 + 1))))))))
  else (chk (okc S 3 a0)
  (chk (ina S 10 (S.2.1 a0 8) x3)
  (chk (inw S 10 (S.2.1 a0 8) x3) (vlt (upI S (S.2.1 a0 8) x3.toNatClampNeg ((S.1 (S.2.1 a0 8) x3.toNatClampNeg) + 1)) fun S_4 =>
  (k2 S_4 (x3 + 1))))))))))))))
set_option maxRecDepth 100000 in
set_option maxHeartbeats 4000000 in
theorem w_X3_judgeRows_B2 {X : CT} {g : GG} (C : CX X g cX3_judgeRows RX3 none 4 rm_X3_judgeRows) (a0 : Nat) (a1 : Int32) (a2 : Int32) (kx2 : St → Option St) (hkx2 : ∀ (S : St), J X g (Qm X g aU pU) (cw (0, 0)) 65 [] [] S (kx2 S)) : ∀ (n : Nat) (S : St) (x3 : Int32), J X g (Qm X g aU pU) (cw (0, 0)) 2 [(0, rv g a0), (1, .int a1), (2, .int a2), (3, .int x3)] [] S (wl2 (f_X3_judgeRows_B2 a0 a1 a2 kx2) n S x3) := by
  refine J.loop2 (lvf := fun (S : St) (x3 : Int32) => [(0, rv g a0), (1, .int a1), (2, .int a2), (3, .int x3)]) (Sf := fun (S : St) (x3 : Int32) => S) ?_
  intro k2 hk2 S x3
  show J X g _ _ 2 [(0, rv g a0), (1, .int a1), (2, .int a2), (3, .int x3)] [] S (f_X3_judgeRows_B2 a0 a1 a2 kx2 k2 S x3)
  unfold f_X3_judgeRows_B2
  refine J.iload_n (pc := 2) C dX3_judgeRows_2 rfl rfl ?_
  refine J.aload_n (pc := 3) C (x := a0) dX3_judgeRows_3 rfl rfl ?_
  refine J.getR (pc := 4) C fl_RX3_27 rfl dX3_judgeRows_4 ?_
  refine J.alen (pc := 7) C 10 (by decide) dX3_judgeRows_7 ?_
  refine J.icmp_ge (pc := 8) C (tgt := 65) dX3_judgeRows_8 rfl ?_ ?_
  · exact J.pick [] rfl (hkx2 _)
  · refine J.iload_n (pc := 11) C dX3_judgeRows_11 rfl rfl ?_
    refine J.aload_n (pc := 12) C (x := a0) dX3_judgeRows_12 rfl rfl ?_
    refine J.getR (pc := 13) C fl_RX3_30 rfl dX3_judgeRows_13 ?_
    refine J.alen (pc := 16) C 10 (by decide) dX3_judgeRows_16 ?_
    refine J.icmp_ge (pc := 17) C (tgt := 65) dX3_judgeRows_17 rfl ?_ ?_
    · exact J.pick [] rfl (hkx2 _)
    · refine J.iload_n (pc := 20) C dX3_judgeRows_20 rfl rfl ?_
      refine J.iload_n (pc := 21) C dX3_judgeRows_21 rfl rfl ?_
      refine J.snI (pc := 22) C ms_X7_holds wn_RX3_112 (fun l => c_X7_holds l g S a1 x3) ⟨⟨Nat.zero_le _, Nat.zero_le _⟩, rfl, rfl⟩ rfl ⟨Nat.le_of_ble_eq_true rfl, Nat.le_of_ble_eq_true rfl⟩ rfl cat_n (Nat.le_of_ble_eq_true rfl) dX3_judgeRows_22 (fun r1 => ?_)
      refine J.if_eq (pc := 25) C (tgt := 41) dX3_judgeRows_25 rfl ?_ ?_
      · refine J.iload_n (pc := 41) C dX3_judgeRows_41 rfl rfl ?_
        refine J.iload_n (pc := 42) C dX3_judgeRows_42 rfl rfl ?_
        refine J.snI (pc := 43) C ms_X7_holds wn_RX3_112 (fun l => c_X7_holds l g S a2 x3) ⟨⟨Nat.zero_le _, Nat.zero_le _⟩, rfl, rfl⟩ rfl ⟨Nat.le_of_ble_eq_true rfl, Nat.le_of_ble_eq_true rfl⟩ rfl cat_n (Nat.le_of_ble_eq_true rfl) dX3_judgeRows_43 (fun r2 => ?_)
        refine J.if_eq (pc := 46) C (tgt := 59) dX3_judgeRows_46 rfl ?_ ?_
        · refine J.iinc (pc := 59) C (lv' := [(0, rv g a0), (1, .int a1), (2, .int a2), (3, .int (x3 + 1))]) dX3_judgeRows_59 rfl (Nat.le_of_ble_eq_true rfl) ki_1 rfl ?_
          refine J.goto (pc := 62) C (tgt := 2) dX3_judgeRows_62 rfl ?_
          exact (hk2 _ _)
        · refine J.aload_n (pc := 49) C (x := a0) dX3_judgeRows_49 rfl rfl ?_
          refine J.getR (pc := 50) C fl_RX3_30 rfl dX3_judgeRows_50 ?_
          refine J.iload_n (pc := 53) C dX3_judgeRows_53 rfl rfl ?_
          refine J.dup2 (pc := 54) C dX3_judgeRows_54 rfl (rv_cat g _) ?_
          refine J.iald (pc := 55) C dX3_judgeRows_55 ?_
          refine J.iconst (pc := 56) C dX3_judgeRows_56 ki_1 ?_
          refine J.iadd (pc := 57) C dX3_judgeRows_57 ?_
          refine J.iasts (pc := 58) C dX3_judgeRows_58 (fun S_3 => ?_)
          refine J.iinc (pc := 59) C (lv' := [(0, rv g a0), (1, .int a1), (2, .int a2), (3, .int (x3 + 1))]) dX3_judgeRows_59 rfl (Nat.le_of_ble_eq_true rfl) ki_1 rfl ?_
          refine J.goto (pc := 62) C (tgt := 2) dX3_judgeRows_62 rfl ?_
          exact (hk2 _ _)
      · refine J.aload_n (pc := 28) C (x := a0) dX3_judgeRows_28 rfl rfl ?_
        refine J.getR (pc := 29) C fl_RX3_27 rfl dX3_judgeRows_29 ?_
        refine J.iload_n (pc := 32) C dX3_judgeRows_32 rfl rfl ?_
        refine J.dup2 (pc := 33) C dX3_judgeRows_33 rfl (rv_cat g _) ?_
        refine J.iald (pc := 34) C dX3_judgeRows_34 ?_
        refine J.iconst (pc := 35) C dX3_judgeRows_35 ki_1 ?_
        refine J.iadd (pc := 36) C dX3_judgeRows_36 ?_
        refine J.iasts (pc := 37) C dX3_judgeRows_37 (fun S_4 => ?_)
        refine J.goto (pc := 38) C (tgt := 59) dX3_judgeRows_38 rfl ?_
        refine J.iinc (pc := 59) C (lv' := [(0, rv g a0), (1, .int a1), (2, .int a2), (3, .int (x3 + 1))]) dX3_judgeRows_59 rfl (Nat.le_of_ble_eq_true rfl) ki_1 rfl ?_
        refine J.goto (pc := 62) C (tgt := 2) dX3_judgeRows_62 rfl ?_
        exact (hk2 _ _)
def f_X3_judgeRows (S : St) (a0 : Nat) (a1 : Int32) (a2 : Int32) : Option St :=
  (wl2 (f_X3_judgeRows_B2 a0 a1 a2 (fun (S_5 : St) => (some S_5))) FU S 0)
set_option maxRecDepth 100000 in
set_option maxHeartbeats 4000000 in
theorem c_X3_judgeRows (l : Launch) (g : GG) (S : St) (a0 : Nat) (a1 : Int32) (a2 : Int32) : Ct l yX3_judgeRows cX3_judgeRows 4 none rm_X3_judgeRows g aU pU [rv g a0, .int a1, .int a2] S (f_X3_judgeRows S a0 a1 a2) := by
  refine Ct.mk (cf := cw (0, 0)) (by decide +kernel) (cat_r (cat_i (cat_i cat_n))) (Nat.le_of_ble_eq_true rfl) rfl ?_
  intro X hXl hin C
  show J X g _ _ 0 [(0, rv g a0), (1, .int a1), (2, .int a2)] [] S (f_X3_judgeRows S a0 a1 a2)
  unfold f_X3_judgeRows
  refine J.iconst (pc := 0) C dX3_judgeRows_0 ki_0 ?_
  refine J.istore_n (pc := 1) C (lv' := [(0, rv g a0), (1, .int a1), (2, .int a2), (3, .int 0)]) dX3_judgeRows_1 rfl (Nat.le_of_ble_eq_true rfl) rfl ?_
  refine w_X3_judgeRows_B2 C _ _ _ _ (fun S_5 => ?_) FU _ _
  exact J.vret (pc := 65) C rfl rfl ⟨Nat.le_refl _, Nat.le_refl _⟩ dX3_judgeRows_65
abbrev rm_X7_judge : Room := { frames := 6, cells := 0, slots := 0, locals := 138 }
def f_X7_judge (S : St) (a0 : Nat) (a1 : Int32) (a2 : Int32) : Option (Int32 × St) :=
  (chk (okc S 7 a0) (bnd (f_X7_isPair S a0 a1 a2) fun r1 =>
  (if r1 = 0 then
  (some ((-10000001), S))
  else (chk (okc S 7 a0) (bnd (f_X7_voteOn S a0 a1 a2) fun S_2 =>
  (chk (okc S_2 7 a0)
  (chk (okc S_2 6 (S_2.2.1 a0 4)) (bnd (f_X6_told S_2 (S_2.2.1 a0 4)) fun r3 =>
  (if r3 = (-10000004) then
  (some ((-10000004), S_2))
  else (chk (okc S_2 7 a0) (bnd (f_X7_recordState S_2 a0) fun S_4 =>
  (chk (okc S_4 7 a0)
  (chk (okc S_4 7 a0)
  (chk (okc S_4 6 (S_4.2.1 a0 4)) (bnd (f_X6_votersFor S_4 (S_4.2.1 a0 4) r3) fun r5 =>
  (chk (okc S_4 7 a0)
  (chk (okc S_4 6 (S_4.2.1 a0 4)) (bnd (f_X6_votersAtAll S_4 (S_4.2.1 a0 4)) fun r6 =>
  (chk (okc S_4 3 (S_4.2.1 a0 0)) (bnd (f_X3_judgeRows S_4 (S_4.2.1 a0 0) r5 r6) fun S_7 =>
  (chk (okc S_7 7 a0)
  (chk (okc S_7 6 (S_7.2.1 a0 4)) (bnd (f_X6_votersAtAll S_7 (S_7.2.1 a0 4)) fun r8 =>
  (bnd (f_J6_bitCount_0f7a4 r8) fun r9 =>
  (some (r9, S_7))))))))))))))))))))))))))
set_option maxRecDepth 100000 in
set_option maxHeartbeats 4000000 in
theorem c_X7_judge (l : Launch) (g : GG) (S : St) (a0 : Nat) (a1 : Int32) (a2 : Int32) : Ct l yX7_judge cX7_judge 4 (some .int) rm_X7_judge g aW pW [rv g a0, .int a1, .int a2] S (f_X7_judge S a0 a1 a2) := by
  refine Ct.mk (cf := cw (0, 0)) (by decide +kernel) (cat_r (cat_i (cat_i cat_n))) (Nat.le_of_ble_eq_true rfl) rfl ?_
  intro X hXl hin C
  show J X g _ _ 0 [(0, rv g a0), (1, .int a1), (2, .int a2)] [] S (f_X7_judge S a0 a1 a2)
  unfold f_X7_judge
  refine J.aload_n (pc := 0) C (x := a0) dX7_judge_0 rfl rfl ?_
  refine J.iload_n (pc := 1) C dX7_judge_1 rfl rfl ?_
  refine J.iload_n (pc := 2) C dX7_judge_2 rfl rfl ?_
  refine J.vI (pc := 3) C mv_X7_isPair wm_RX7_171 (fun l => c_X7_isPair l g S a0 a1 a2) ⟨⟨Nat.zero_le _, Nat.zero_le _⟩, rfl, rfl⟩ rfl ⟨Nat.le_of_ble_eq_true rfl, Nat.le_of_ble_eq_true rfl⟩ rfl cat_n (Nat.le_of_ble_eq_true rfl) dX7_judge_3 (fun r1 => ?_)
  refine J.if_ne (pc := 6) C (tgt := 12) dX7_judge_6 rfl ?_ ?_
  · refine J.aload_n (pc := 12) C (x := a0) dX7_judge_12 rfl rfl ?_
    refine J.iload_n (pc := 13) C dX7_judge_13 rfl rfl ?_
    refine J.iload_n (pc := 14) C dX7_judge_14 rfl rfl ?_
    refine J.vU (pc := 15) C mv_X7_voteOn wm_RX7_174 (fun l => c_X7_voteOn l g S a0 a1 a2) ⟨⟨Nat.zero_le _, Nat.zero_le _⟩, rfl, rfl⟩ rfl ⟨Nat.le_of_ble_eq_true rfl, Nat.le_of_ble_eq_true rfl⟩ rfl cat_n (Nat.le_of_ble_eq_true rfl) dX7_judge_15 (fun S_2 => ?_)
    refine J.aload_n (pc := 18) C (x := a0) dX7_judge_18 rfl rfl ?_
    refine J.getR (pc := 19) C fl_RX7_34 rfl dX7_judge_19 ?_
    refine J.vI (pc := 22) C mv_X6_told wm_RX7_180 (fun l => c_X6_told l g S_2 (S_2.2.1 a0 4)) ⟨⟨Nat.zero_le _, Nat.zero_le _⟩, rfl, rfl⟩ rfl ⟨Nat.le_of_ble_eq_true rfl, Nat.le_of_ble_eq_true rfl⟩ rfl cat_n (Nat.le_of_ble_eq_true rfl) dX7_judge_22 (fun r3 => ?_)
    refine J.istore_n (pc := 25) C (lv' := [(0, rv g a0), (1, .int a1), (2, .int a2), (3, .int r3)]) dX7_judge_25 rfl (Nat.le_of_ble_eq_true rfl) rfl ?_
    refine J.iload_n (pc := 26) C dX7_judge_26 rfl rfl ?_
    refine J.ldc (pc := 27) C wc_RX7_163 dX7_judge_27 ?_
    refine J.icmp_ne (pc := 29) C (tgt := 35) dX7_judge_29 rfl ?_ ?_
    · refine J.aload_n (pc := 35) C (x := a0) dX7_judge_35 rfl rfl ?_
      refine J.vU (pc := 36) C mv_X7_recordState wm_RX7_75 (fun l => c_X7_recordState l g S_2 a0) ⟨⟨Nat.zero_le _, Nat.zero_le _⟩, rfl, rfl⟩ rfl ⟨Nat.le_of_ble_eq_true rfl, Nat.le_of_ble_eq_true rfl⟩ rfl cat_n (Nat.le_of_ble_eq_true rfl) dX7_judge_36 (fun S_4 => ?_)
      refine J.aload_n (pc := 39) C (x := a0) dX7_judge_39 rfl rfl ?_
      refine J.getR (pc := 40) C fl_RX7_12 rfl dX7_judge_40 ?_
      refine J.aload_n (pc := 43) C (x := a0) dX7_judge_43 rfl rfl ?_
      refine J.getR (pc := 44) C fl_RX7_34 rfl dX7_judge_44 ?_
      refine J.iload_n (pc := 47) C dX7_judge_47 rfl rfl ?_
      refine J.vI (pc := 48) C mv_X6_votersFor wm_RX7_184 (fun l => c_X6_votersFor l g S_4 (S_4.2.1 a0 4) r3) ⟨⟨Nat.zero_le _, Nat.zero_le _⟩, rfl, rfl⟩ rfl ⟨Nat.le_of_ble_eq_true rfl, Nat.le_of_ble_eq_true rfl⟩ rfl (cat_r cat_n) (Nat.le_of_ble_eq_true rfl) dX7_judge_48 (fun r5 => ?_)
      refine J.aload_n (pc := 51) C (x := a0) dX7_judge_51 rfl rfl ?_
      refine J.getR (pc := 52) C fl_RX7_34 rfl dX7_judge_52 ?_
      refine J.vI (pc := 55) C mv_X6_votersAtAll wm_RX7_187 (fun l => c_X6_votersAtAll l g S_4 (S_4.2.1 a0 4)) ⟨⟨Nat.zero_le _, Nat.zero_le _⟩, rfl, rfl⟩ rfl ⟨Nat.le_of_ble_eq_true rfl, Nat.le_of_ble_eq_true rfl⟩ rfl (cat_i (cat_r cat_n)) (Nat.le_of_ble_eq_true rfl) dX7_judge_55 (fun r6 => ?_)
      refine J.vU (pc := 58) C mv_X3_judgeRows wm_RX7_198 (fun l => c_X3_judgeRows l g S_4 (S_4.2.1 a0 0) r5 r6) ⟨⟨Nat.zero_le _, Nat.zero_le _⟩, rfl, rfl⟩ rfl ⟨Nat.le_of_ble_eq_true rfl, Nat.le_of_ble_eq_true rfl⟩ rfl cat_n (Nat.le_of_ble_eq_true rfl) dX7_judge_58 (fun S_7 => ?_)
      refine J.aload_n (pc := 61) C (x := a0) dX7_judge_61 rfl rfl ?_
      refine J.getR (pc := 62) C fl_RX7_34 rfl dX7_judge_62 ?_
      refine J.vI (pc := 65) C mv_X6_votersAtAll wm_RX7_187 (fun l => c_X6_votersAtAll l g S_7 (S_7.2.1 a0 4)) ⟨⟨Nat.zero_le _, Nat.zero_le _⟩, rfl, rfl⟩ rfl ⟨Nat.le_of_ble_eq_true rfl, Nat.le_of_ble_eq_true rfl⟩ rfl cat_n (Nat.le_of_ble_eq_true rfl) dX7_judge_65 (fun r8 => ?_)
      refine J.sI (pc := 68) C ms_J6_bitCount_0f7a4 wm_RX7_126 (fun l => c_J6_bitCount_0f7a4 l g S_7 r8) ⟨⟨Nat.zero_le _, Nat.zero_le _⟩, rfl, rfl⟩ rfl ⟨Nat.le_of_ble_eq_true rfl, Nat.le_of_ble_eq_true rfl⟩ rfl cat_n (Nat.le_of_ble_eq_true rfl) dX7_judge_68 (fun r9 => ?_)
      exact J.iret (pc := 71) C rfl rfl ⟨Nat.le_refl _, Nat.le_refl _⟩ dX7_judge_71
    · refine J.ldc (pc := 32) C wc_RX7_163 dX7_judge_32 ?_
      exact J.iret (pc := 34) C rfl rfl ⟨Nat.le_refl _, Nat.le_refl _⟩ dX7_judge_34
  · refine J.ldc (pc := 9) C wc_RX7_60 dX7_judge_9 ?_
    exact J.iret (pc := 11) C rfl rfl ⟨Nat.le_refl _, Nat.le_refl _⟩ dX7_judge_11
abbrev rm_X1_answer : Room := { frames := 0, cells := 0, slots := 0, locals := 0 }
def f_X1_answer (S : St) (a0 : Nat) (a1 : Int32) : Option Int32 :=
  (if a1 = 0 then
  (chk (okc S 1 a0)
  (some (S.1 a0 6)))
  else (if a1 = 1 then
  (chk (okc S 1 a0)
  (some (S.1 a0 7)))
  else (if a1 = 2 then
  (chk (okc S 1 a0)
  (some (S.1 a0 8)))
  else (if a1 = 3 then
  (chk (okc S 1 a0)
  (some (S.1 a0 9)))
  else (chk (okc S 1 a0)
  (some (S.1 a0 10)))))))
set_option maxRecDepth 100000 in
set_option maxHeartbeats 4000000 in
theorem c_X1_answer (l : Launch) (g : GG) (S : St) (a0 : Nat) (a1 : Int32) : Ct l yX1_answer cX1_answer 2 (some .int) rm_X1_answer g aI (pK S) [rv g a0, .int a1] S (f_X1_answer S a0 a1) := by
  refine Ct.mk (cf := cw (0, 0)) (by decide +kernel) (cat_r (cat_i cat_n)) (Nat.le_of_ble_eq_true rfl) rfl ?_
  intro X hXl hin C
  show J X g _ _ 0 [(0, rv g a0), (1, .int a1)] [] S (f_X1_answer S a0 a1)
  unfold f_X1_answer
  refine J.iload_n (pc := 0) C dX1_answer_0 rfl rfl ?_
  refine J.ite (fun h0 => ?_) (fun h0 => ?_)
  · refine J.tswIn (pc := 1) C (tgt := 32) 0 dX1_answer_1 h0 (by decide) (by decide) rfl rfl ?_
    refine J.aload_n (pc := 32) C (x := a0) dX1_answer_32 rfl rfl ?_
    refine J.getI (pc := 33) C fl_RX1_33 rfl dX1_answer_33 ?_
    exact J.iret (pc := 36) C rfl rfl ⟨Nat.le_refl _, Nat.le_refl _⟩ dX1_answer_36
  · refine J.ite (fun h1 => ?_) (fun h1 => ?_)
    · refine J.tswIn (pc := 1) C (tgt := 37) 1 dX1_answer_1 h1 (by decide) (by decide) rfl rfl ?_
      refine J.aload_n (pc := 37) C (x := a0) dX1_answer_37 rfl rfl ?_
      refine J.getI (pc := 38) C fl_RX1_54 rfl dX1_answer_38 ?_
      exact J.iret (pc := 41) C rfl rfl ⟨Nat.le_refl _, Nat.le_refl _⟩ dX1_answer_41
    · refine J.ite (fun h2 => ?_) (fun h2 => ?_)
      · refine J.tswIn (pc := 1) C (tgt := 42) 2 dX1_answer_1 h2 (by decide) (by decide) rfl rfl ?_
        refine J.aload_n (pc := 42) C (x := a0) dX1_answer_42 rfl rfl ?_
        refine J.getI (pc := 43) C fl_RX1_57 rfl dX1_answer_43 ?_
        exact J.iret (pc := 46) C rfl rfl ⟨Nat.le_refl _, Nat.le_refl _⟩ dX1_answer_46
      · refine J.ite (fun h3 => ?_) (fun h3 => ?_)
        · refine J.tswIn (pc := 1) C (tgt := 47) 3 dX1_answer_1 h3 (by decide) (by decide) rfl rfl ?_
          refine J.aload_n (pc := 47) C (x := a0) dX1_answer_47 rfl rfl ?_
          refine J.getI (pc := 48) C fl_RX1_60 rfl dX1_answer_48 ?_
          exact J.iret (pc := 51) C rfl rfl ⟨Nat.le_refl _, Nat.le_refl _⟩ dX1_answer_51
        · refine J.tswOut (pc := 1) C (tgt := 52) dX1_answer_1 (by have e0 := lv_neT h0 (a := 0) rfl; have e1 := lv_neT h1 (a := 1) rfl; have e2 := lv_neT h2 (a := 2) rfl; have e3 := lv_neT h3 (a := 3) rfl; omega) rfl ?_
          refine J.aload_n (pc := 52) C (x := a0) dX1_answer_52 rfl rfl ?_
          refine J.getI (pc := 53) C fl_RX1_63 rfl dX1_answer_53 ?_
          exact J.iret (pc := 56) C rfl rfl ⟨Nat.le_refl _, Nat.le_refl _⟩ dX1_answer_56
abbrev rm_X1_isVain : Room := { frames := 0, cells := 0, slots := 0, locals := 0 }
def f_X1_isVain (S : St) (a0 : Nat) : Option Int32 :=
  (chk (okc S 1 a0)
  (if (S.1 a0 6) = 0 then
  (some 1)
  else (some 0)))
set_option maxRecDepth 100000 in
set_option maxHeartbeats 4000000 in
theorem c_X1_isVain (l : Launch) (g : GG) (S : St) (a0 : Nat) : Ct l yX1_isVain cX1_isVain 1 (some .boolean) rm_X1_isVain g aI (pK S) [rv g a0] S (f_X1_isVain S a0) := by
  refine Ct.mk (cf := cw (0, 0)) (by decide +kernel) (cat_r cat_n) (Nat.le_of_ble_eq_true rfl) rfl ?_
  intro X hXl hin C
  show J X g _ _ 0 [(0, rv g a0)] [] S (f_X1_isVain S a0)
  unfold f_X1_isVain
  refine J.aload_n (pc := 0) C (x := a0) dX1_isVain_0 rfl rfl ?_
  refine J.getI (pc := 1) C fl_RX1_33 rfl dX1_isVain_1 ?_
  refine J.if_ne (pc := 4) C (tgt := 11) dX1_isVain_4 rfl ?_ ?_
  · refine J.iconst (pc := 11) C dX1_isVain_11 ki_0 ?_
    exact J.zret (pc := 12) C rfl rfl rfl ⟨Nat.le_refl _, Nat.le_refl _⟩ dX1_isVain_12
  · refine J.iconst (pc := 7) C dX1_isVain_7 ki_1 ?_
    refine J.goto (pc := 8) C (tgt := 12) dX1_isVain_8 rfl ?_
    exact J.zret (pc := 12) C rfl rfl rfl ⟨Nat.le_refl _, Nat.le_refl _⟩ dX1_isVain_12
abbrev rm_X1_addDemand : Room := { frames := 3, cells := 0, slots := 0, locals := 74 }
def f_X1_addDemand_J103 (S : St) (a0 : Nat) (a1 : Nat) (a3 : Nat) (a4 : Int32) (a5 : Int32) (a6 : Int32) (kx55 : Int32 → Int32 → Option St) (k55 : Int32 → Int32 → Int32 → Option St) (x7 : Int32) (x8 : Int32) (x9 : Int32) (x10 : Int32) : Option St :=
  (chk (okc S 1 a0)
  (bnd (f_X7_numberIn S (S.2.1 a0 5) x9) fun r9 =>
  (bnd (f_X7_dimmed r9 a6) fun r10 =>
  (if r10 = x10 then
  (k55 x7 x8 (x9 + 1))
  else (k55 x7 (x8 ||| (1 <<< (x9 &&& 31))) (x9 + 1))))))
set_option maxRecDepth 100000 in
set_option maxHeartbeats 4000000 in
theorem w_X1_addDemand_J103 {X : CT} {g : GG} (C : CX X g cX1_addDemand RX1 none 11 rm_X1_addDemand) (S : St) (a0 : Nat) (a1 : Nat) (a3 : Nat) (a4 : Int32) (a5 : Int32) (a6 : Int32) (kx55 : Int32 → Int32 → Option St) (k55 : Int32 → Int32 → Int32 → Option St) (x7 : Int32) (x8 : Int32) (x9 : Int32) (x10 : Int32) (hkx55 : ∀ (x7 : Int32) (x8 : Int32), J X g (Qm X g aU pU) (cw (0, 0)) 137 [(0, rv g a0), (5, .int a5), (7, .int x7), (8, .int x8)] [] S (kx55 x7 x8)) (hk55 : ∀ (x7 : Int32) (x8 : Int32) (x9 : Int32), J X g (Qm X g aU pU) (cw (0, 0)) 55 [(0, rv g a0), (1, rv g a1), (3, rv g a3), (4, .int a4), (5, .int a5), (6, .int a6), (7, .int x7), (8, .int x8), (9, .int x9)] [] S (k55 x7 x8 x9)) : J X g (Qm X g aU pU) (cw (0, 0)) 103 [(0, rv g a0), (1, rv g a1), (3, rv g a3), (4, .int a4), (5, .int a5), (6, .int a6), (7, .int x7), (8, .int x8), (9, .int x9), (10, .int x10)] [] S (f_X1_addDemand_J103 S a0 a1 a3 a4 a5 a6 kx55 k55 x7 x8 x9 x10) := by
  unfold f_X1_addDemand_J103
  refine J.aload_n (pc := 103) C (x := a0) dX1_addDemand_103 rfl rfl ?_
  refine J.getR (pc := 104) C fl_RX1_24 rfl dX1_addDemand_104 ?_
  refine J.iload (pc := 107) C dX1_addDemand_107 rfl ?_
  refine J.snI (pc := 109) C ms_X7_numberIn wn_RX1_109 (fun l => c_X7_numberIn l g S (S.2.1 a0 5) x9) ⟨⟨Nat.zero_le _, Nat.zero_le _⟩, rfl, rfl⟩ rfl ⟨Nat.le_of_ble_eq_true rfl, Nat.le_of_ble_eq_true rfl⟩ rfl cat_n (Nat.le_of_ble_eq_true rfl) dX1_addDemand_109 (fun r9 => ?_)
  refine J.iload (pc := 112) C dX1_addDemand_112 rfl ?_
  refine J.snI (pc := 114) C ms_X7_dimmed wn_RX1_113 (fun l => c_X7_dimmed l g S r9 a6) ⟨⟨Nat.zero_le _, Nat.zero_le _⟩, rfl, rfl⟩ rfl ⟨Nat.le_of_ble_eq_true rfl, Nat.le_of_ble_eq_true rfl⟩ rfl cat_n (Nat.le_of_ble_eq_true rfl) dX1_addDemand_114 (fun r10 => ?_)
  refine J.iload (pc := 117) C dX1_addDemand_117 rfl ?_
  refine J.icmp_eq (pc := 119) C (tgt := 131) dX1_addDemand_119 rfl ?_ ?_
  · refine J.iinc (pc := 131) C (lv' := [(0, rv g a0), (1, rv g a1), (3, rv g a3), (4, .int a4), (5, .int a5), (6, .int a6), (7, .int x7), (8, .int x8), (9, .int (x9 + 1)), (10, .int x10)]) dX1_addDemand_131 rfl (Nat.le_of_ble_eq_true rfl) ki_1 rfl ?_
    refine J.goto (pc := 134) C (tgt := 55) dX1_addDemand_134 rfl ?_
    exact J.pick [0, 1, 2, 3, 4, 5, 6, 7, 8] rfl (hk55 _ _ _)
  · refine J.iload (pc := 122) C dX1_addDemand_122 rfl ?_
    refine J.iconst (pc := 124) C dX1_addDemand_124 ki_1 ?_
    refine J.iload (pc := 125) C dX1_addDemand_125 rfl ?_
    refine J.ishl (pc := 127) C dX1_addDemand_127 ?_
    refine J.ior (pc := 128) C dX1_addDemand_128 ?_
    refine J.istore (pc := 129) C (lv' := [(0, rv g a0), (1, rv g a1), (3, rv g a3), (4, .int a4), (5, .int a5), (6, .int a6), (7, .int x7), (8, .int (x8 ||| (1 <<< (x9 &&& 31)))), (9, .int x9), (10, .int x10)]) dX1_addDemand_129 (Nat.le_of_ble_eq_true rfl) rfl ?_
    refine J.iinc (pc := 131) C (lv' := [(0, rv g a0), (1, rv g a1), (3, rv g a3), (4, .int a4), (5, .int a5), (6, .int a6), (7, .int x7), (8, .int (x8 ||| (1 <<< (x9 &&& 31)))), (9, .int (x9 + 1)), (10, .int x10)]) dX1_addDemand_131 rfl (Nat.le_of_ble_eq_true rfl) ki_1 rfl ?_
    refine J.goto (pc := 134) C (tgt := 55) dX1_addDemand_134 rfl ?_
    exact J.pick [0, 1, 2, 3, 4, 5, 6, 7, 8] rfl (hk55 _ _ _)
def f_X1_addDemand_B55 (S : St) (a0 : Nat) (a1 : Nat) (a3 : Nat) (a4 : Int32) (a5 : Int32) (a6 : Int32) (kx55 : Int32 → Int32 → Option St) (k55 : Int32 → Int32 → Int32 → Option St) (x7 : Int32) (x8 : Int32) (x9 : Int32) : Option St :=
  (chk (okc S 3 a1) (bnd (f_X3_setting S a1 1) fun r5 =>
  (if r5 ≤ x9 then
  (kx55 x7 x8)
  else (chk (okc S 0 a3) (bnd (f_X0_pixelAt S a3 a4 x9) fun r6 =>
  (chk (okc S 1 a0)
  (bnd (f_X7_numberIn S (S.2.1 a0 4) x9) fun r7 =>
  (bnd (f_X7_dimmed r7 a6) fun r8 =>
  (if r8 = r6 then
  (f_X1_addDemand_J103 S a0 a1 a3 a4 a5 a6 kx55 k55 x7 x8 x9 r6)
  else (f_X1_addDemand_J103 S a0 a1 a3 a4 a5 a6 kx55 k55 (x7 ||| (1 <<< (x9 &&& 31))) x8 x9 r6))))))))))
set_option maxRecDepth 100000 in
set_option maxHeartbeats 4000000 in
theorem w_X1_addDemand_B55 {X : CT} {g : GG} (C : CX X g cX1_addDemand RX1 none 11 rm_X1_addDemand) (S : St) (a0 : Nat) (a1 : Nat) (a3 : Nat) (a4 : Int32) (a5 : Int32) (a6 : Int32) (kx55 : Int32 → Int32 → Option St) (hkx55 : ∀ (x7 : Int32) (x8 : Int32), J X g (Qm X g aU pU) (cw (0, 0)) 137 [(0, rv g a0), (5, .int a5), (7, .int x7), (8, .int x8)] [] S (kx55 x7 x8)) : ∀ (n : Nat) (x7 : Int32) (x8 : Int32) (x9 : Int32), J X g (Qm X g aU pU) (cw (0, 0)) 55 [(0, rv g a0), (1, rv g a1), (3, rv g a3), (4, .int a4), (5, .int a5), (6, .int a6), (7, .int x7), (8, .int x8), (9, .int x9)] [] S (wl3 (f_X1_addDemand_B55 S a0 a1 a3 a4 a5 a6 kx55) n x7 x8 x9) := by
  refine J.loop3 (lvf := fun (x7 : Int32) (x8 : Int32) (x9 : Int32) => [(0, rv g a0), (1, rv g a1), (3, rv g a3), (4, .int a4), (5, .int a5), (6, .int a6), (7, .int x7), (8, .int x8), (9, .int x9)]) (Sf := fun (x7 : Int32) (x8 : Int32) (x9 : Int32) => S) ?_
  intro k55 hk55 x7 x8 x9
  show J X g _ _ 55 [(0, rv g a0), (1, rv g a1), (3, rv g a3), (4, .int a4), (5, .int a5), (6, .int a6), (7, .int x7), (8, .int x8), (9, .int x9)] [] S (f_X1_addDemand_B55 S a0 a1 a3 a4 a5 a6 kx55 k55 x7 x8 x9)
  unfold f_X1_addDemand_B55
  refine J.iload (pc := 55) C dX1_addDemand_55 rfl ?_
  refine J.aload_n (pc := 57) C (x := a1) dX1_addDemand_57 rfl rfl ?_
  refine J.iconst (pc := 58) C dX1_addDemand_58 ki_1 ?_
  refine J.vI (pc := 59) C mv_X3_setting wm_RX1_76 (fun l => c_X3_setting l g S a1 1) ⟨⟨Nat.zero_le _, Nat.zero_le _⟩, rfl, rfl⟩ rfl ⟨Nat.le_of_ble_eq_true rfl, Nat.le_of_ble_eq_true rfl⟩ rfl (cat_i cat_n) (Nat.le_of_ble_eq_true rfl) dX1_addDemand_59 (fun r5 => ?_)
  refine J.icmp_ge (pc := 62) C (tgt := 137) dX1_addDemand_62 rfl ?_ ?_
  · exact J.pick [0, 4, 6, 7] rfl (hkx55 _ _)
  · refine J.aload_n (pc := 65) C (x := a3) dX1_addDemand_65 rfl rfl ?_
    refine J.iload (pc := 66) C dX1_addDemand_66 rfl ?_
    refine J.iload (pc := 68) C dX1_addDemand_68 rfl ?_
    refine J.vI (pc := 70) C mv_X0_pixelAt wm_RX1_105 (fun l => c_X0_pixelAt l g S a3 a4 x9) ⟨⟨Nat.zero_le _, Nat.zero_le _⟩, rfl, rfl⟩ rfl ⟨Nat.le_of_ble_eq_true rfl, Nat.le_of_ble_eq_true rfl⟩ rfl cat_n (Nat.le_of_ble_eq_true rfl) dX1_addDemand_70 (fun r6 => ?_)
    refine J.istore (pc := 73) C (lv' := [(0, rv g a0), (1, rv g a1), (3, rv g a3), (4, .int a4), (5, .int a5), (6, .int a6), (7, .int x7), (8, .int x8), (9, .int x9), (10, .int r6)]) dX1_addDemand_73 (Nat.le_of_ble_eq_true rfl) rfl ?_
    refine J.aload_n (pc := 75) C (x := a0) dX1_addDemand_75 rfl rfl ?_
    refine J.getR (pc := 76) C fl_RX1_21 rfl dX1_addDemand_76 ?_
    refine J.iload (pc := 79) C dX1_addDemand_79 rfl ?_
    refine J.snI (pc := 81) C ms_X7_numberIn wn_RX1_109 (fun l => c_X7_numberIn l g S (S.2.1 a0 4) x9) ⟨⟨Nat.zero_le _, Nat.zero_le _⟩, rfl, rfl⟩ rfl ⟨Nat.le_of_ble_eq_true rfl, Nat.le_of_ble_eq_true rfl⟩ rfl cat_n (Nat.le_of_ble_eq_true rfl) dX1_addDemand_81 (fun r7 => ?_)
    refine J.iload (pc := 84) C dX1_addDemand_84 rfl ?_
    refine J.snI (pc := 86) C ms_X7_dimmed wn_RX1_113 (fun l => c_X7_dimmed l g S r7 a6) ⟨⟨Nat.zero_le _, Nat.zero_le _⟩, rfl, rfl⟩ rfl ⟨Nat.le_of_ble_eq_true rfl, Nat.le_of_ble_eq_true rfl⟩ rfl cat_n (Nat.le_of_ble_eq_true rfl) dX1_addDemand_86 (fun r8 => ?_)
    refine J.iload (pc := 89) C dX1_addDemand_89 rfl ?_
    refine J.icmp_eq (pc := 91) C (tgt := 103) dX1_addDemand_91 rfl ?_ ?_
    · exact (w_X1_addDemand_J103 C _ _ _ _ _ _ _ _ _ _ _ _ _ hkx55 hk55)
    · refine J.iload (pc := 94) C dX1_addDemand_94 rfl ?_
      refine J.iconst (pc := 96) C dX1_addDemand_96 ki_1 ?_
      refine J.iload (pc := 97) C dX1_addDemand_97 rfl ?_
      refine J.ishl (pc := 99) C dX1_addDemand_99 ?_
      refine J.ior (pc := 100) C dX1_addDemand_100 ?_
      refine J.istore (pc := 101) C (lv' := [(0, rv g a0), (1, rv g a1), (3, rv g a3), (4, .int a4), (5, .int a5), (6, .int a6), (7, .int (x7 ||| (1 <<< (x9 &&& 31)))), (8, .int x8), (9, .int x9), (10, .int r6)]) dX1_addDemand_101 (Nat.le_of_ble_eq_true rfl) rfl ?_
      exact (w_X1_addDemand_J103 C _ _ _ _ _ _ _ _ _ _ _ _ _ hkx55 hk55)
def f_X1_addDemand (S : St) (a0 : Nat) (a1 : Nat) (a2 : Int32) (a3 : Nat) (a4 : Int32) : Option St :=
  (chk (okc S 3 a1) (bnd (f_X3_timeOfRow S a1 a3 a4) fun r1 =>
  (chk (okc S 3 a1) (bnd (f_X3_percentAt S a1 r1) fun r2 =>
  (chk (okc S 1 a0)
  (chk (okc S 3 a1) (bnd (f_X3_paint S a1 a4 r1 a2 0 (S.2.1 a0 4)) fun S_3 =>
  (chk (okc S_3 1 a0)
  (chk (okc S_3 3 a1) (bnd (f_X3_paint S_3 a1 a4 r1 a2 65535 (S_3.2.1 a0 5)) fun S_4 =>
  (wl3 (f_X1_addDemand_B55 S_4 a0 a1 a3 a4 r1 r2 (fun (y7_11 : Int32) (y8_12 : Int32) => (chk (okc S_4 1 a0)
  (chk (okc S_4 1 a0)
  (chk (okc S_4 10 (S_4.2.1 a0 0))
  (if (Int32.ofNat (ln (S_4.2.1 a0 0))) ≤ (S_4.1 a0 3) then
  (some S_4)
  else (chk (okc S_4 1 a0)
  (chk (okc S_4 1 a0)
  (chk (okc S_4 10 (S_4.2.1 a0 1))
  (if (Int32.ofNat (ln (S_4.2.1 a0 1))) ≤ (S_4.1 a0 3) then
  (some S_4)
  else (chk (okc S_4 1 a0)
  (chk (okc S_4 1 a0)
  (chk (okc S_4 10 (S_4.2.1 a0 2))
  (if (Int32.ofNat (ln (S_4.2.1 a0 2))) ≤ (S_4.1 a0 3) then
  (some S_4)
  else (chk (okc S_4 1 a0)
  (chk (okc S_4 1 a0)
  (chk (inw S_4 10 (S_4.2.1 a0 0) (S_4.1 a0 3)) (vlt (upI S_4 (S_4.2.1 a0 0) (S_4.1 a0 3).toNatClampNeg r1) fun S_13 =>
  (chk (okc S_13 1 a0)
  (chk (okc S_13 1 a0)
  (chk (inw S_13 10 (S_13.2.1 a0 1) (S_13.1 a0 3)) (vlt (upI S_13 (S_13.2.1 a0 1) (S_13.1 a0 3).toNatClampNeg y7_11) fun S_14 =>
  (chk (okc S_14 1 a0)
  (chk (okc S_14 1 a0)
  (chk (inw S_14 10 (S_14.2.1 a0 2) (S_14.1 a0 3)) (vlt (upI S_14 (S_14.2.1 a0 2) (S_14.1 a0 3).toNatClampNeg y8_12) fun S_15 =>
  (chk (okc S_15 1 a0)
  (chk (okc S_15 1 a0) (vlt (upI S_15 a0 3 ((S_15.1 a0 3) + 1)) fun S_16 =>
  (some S_16)))))))))))))))))))))))))))))) FU 0 0 0)))))))))))
set_option maxRecDepth 100000 in
set_option maxHeartbeats 4000000 in
theorem c_X1_addDemand (l : Launch) (g : GG) (S : St) (a0 : Nat) (a1 : Nat) (a2 : Int32) (a3 : Nat) (a4 : Int32) : Ct l yX1_addDemand cX1_addDemand 11 none rm_X1_addDemand g aU pU [rv g a0, rv g a1, .int a2, rv g a3, .int a4] S (f_X1_addDemand S a0 a1 a2 a3 a4) := by
  refine Ct.mk (cf := cw (0, 0)) (by decide +kernel) (cat_r (cat_r (cat_i (cat_r (cat_i cat_n))))) (Nat.le_of_ble_eq_true rfl) rfl ?_
  intro X hXl hin C
  show J X g _ _ 0 [(0, rv g a0), (1, rv g a1), (2, .int a2), (3, rv g a3), (4, .int a4)] [] S (f_X1_addDemand S a0 a1 a2 a3 a4)
  unfold f_X1_addDemand
  refine J.aload_n (pc := 0) C (x := a1) dX1_addDemand_0 rfl rfl ?_
  refine J.aload_n (pc := 1) C (x := a3) dX1_addDemand_1 rfl rfl ?_
  refine J.iload (pc := 2) C dX1_addDemand_2 rfl ?_
  refine J.vI (pc := 4) C mv_X3_timeOfRow wm_RX1_93 (fun l => c_X3_timeOfRow l g S a1 a3 a4) ⟨⟨Nat.zero_le _, Nat.zero_le _⟩, rfl, rfl⟩ rfl ⟨Nat.le_of_ble_eq_true rfl, Nat.le_of_ble_eq_true rfl⟩ rfl cat_n (Nat.le_of_ble_eq_true rfl) dX1_addDemand_4 (fun r1 => ?_)
  refine J.istore (pc := 7) C (lv' := [(0, rv g a0), (1, rv g a1), (2, .int a2), (3, rv g a3), (4, .int a4), (5, .int r1)]) dX1_addDemand_7 (Nat.le_of_ble_eq_true rfl) rfl ?_
  refine J.aload_n (pc := 9) C (x := a1) dX1_addDemand_9 rfl rfl ?_
  refine J.iload (pc := 10) C dX1_addDemand_10 rfl ?_
  refine J.vI (pc := 12) C mv_X3_percentAt wm_RX1_97 (fun l => c_X3_percentAt l g S a1 r1) ⟨⟨Nat.zero_le _, Nat.zero_le _⟩, rfl, rfl⟩ rfl ⟨Nat.le_of_ble_eq_true rfl, Nat.le_of_ble_eq_true rfl⟩ rfl cat_n (Nat.le_of_ble_eq_true rfl) dX1_addDemand_12 (fun r2 => ?_)
  refine J.istore (pc := 15) C (lv' := [(0, rv g a0), (1, rv g a1), (2, .int a2), (3, rv g a3), (4, .int a4), (5, .int r1), (6, .int r2)]) dX1_addDemand_15 (Nat.le_of_ble_eq_true rfl) rfl ?_
  refine J.iconst (pc := 17) C dX1_addDemand_17 ki_0 ?_
  refine J.istore (pc := 18) C (lv' := [(0, rv g a0), (1, rv g a1), (2, .int a2), (3, rv g a3), (4, .int a4), (5, .int r1), (6, .int r2), (7, .int 0)]) dX1_addDemand_18 (Nat.le_of_ble_eq_true rfl) rfl ?_
  refine J.iconst (pc := 20) C dX1_addDemand_20 ki_0 ?_
  refine J.istore (pc := 21) C (lv' := [(0, rv g a0), (1, rv g a1), (2, .int a2), (3, rv g a3), (4, .int a4), (5, .int r1), (6, .int r2), (7, .int 0), (8, .int 0)]) dX1_addDemand_21 (Nat.le_of_ble_eq_true rfl) rfl ?_
  refine J.aload_n (pc := 23) C (x := a1) dX1_addDemand_23 rfl rfl ?_
  refine J.iload (pc := 24) C dX1_addDemand_24 rfl ?_
  refine J.iload (pc := 26) C dX1_addDemand_26 rfl ?_
  refine J.iload_n (pc := 28) C dX1_addDemand_28 rfl rfl ?_
  refine J.iconst (pc := 29) C dX1_addDemand_29 ki_0 ?_
  refine J.aload_n (pc := 30) C (x := a0) dX1_addDemand_30 rfl rfl ?_
  refine J.getR (pc := 31) C fl_RX1_21 rfl dX1_addDemand_31 ?_
  refine J.vU (pc := 34) C mv_X3_paint wm_RX1_100 (fun l => c_X3_paint l g S a1 a4 r1 a2 0 (S.2.1 a0 4)) ⟨⟨Nat.zero_le _, Nat.zero_le _⟩, rfl, rfl⟩ rfl ⟨Nat.le_of_ble_eq_true rfl, Nat.le_of_ble_eq_true rfl⟩ rfl cat_n (Nat.le_of_ble_eq_true rfl) dX1_addDemand_34 (fun S_3 => ?_)
  refine J.aload_n (pc := 37) C (x := a1) dX1_addDemand_37 rfl rfl ?_
  refine J.iload (pc := 38) C dX1_addDemand_38 rfl ?_
  refine J.iload (pc := 40) C dX1_addDemand_40 rfl ?_
  refine J.iload_n (pc := 42) C dX1_addDemand_42 rfl rfl ?_
  refine J.ldc (pc := 43) C wc_RX1_104 dX1_addDemand_43 ?_
  refine J.aload_n (pc := 45) C (x := a0) dX1_addDemand_45 rfl rfl ?_
  refine J.getR (pc := 46) C fl_RX1_24 rfl dX1_addDemand_46 ?_
  refine J.vU (pc := 49) C mv_X3_paint wm_RX1_100 (fun l => c_X3_paint l g S_3 a1 a4 r1 a2 65535 (S_3.2.1 a0 5)) ⟨⟨Nat.zero_le _, Nat.zero_le _⟩, rfl, rfl⟩ rfl ⟨Nat.le_of_ble_eq_true rfl, Nat.le_of_ble_eq_true rfl⟩ rfl cat_n (Nat.le_of_ble_eq_true rfl) dX1_addDemand_49 (fun S_4 => ?_)
  refine J.iconst (pc := 52) C dX1_addDemand_52 ki_0 ?_
  refine J.istore (pc := 53) C (lv' := [(0, rv g a0), (1, rv g a1), (2, .int a2), (3, rv g a3), (4, .int a4), (5, .int r1), (6, .int r2), (7, .int 0), (8, .int 0), (9, .int 0)]) dX1_addDemand_53 (Nat.le_of_ble_eq_true rfl) rfl ?_
  refine J.pick [0, 1, 3, 4, 5, 6, 7, 8, 9] rfl ?_
  refine w_X1_addDemand_B55 C _ _ _ _ _ _ _ _ (fun y7_11 y8_12 => ?_) FU _ _ _
  refine J.aload_n (pc := 137) C (x := a0) dX1_addDemand_137 rfl rfl ?_
  refine J.getI (pc := 138) C fl_RX1_66 rfl dX1_addDemand_138 ?_
  refine J.aload_n (pc := 141) C (x := a0) dX1_addDemand_141 rfl rfl ?_
  refine J.getR (pc := 142) C fl_RX1_9 rfl dX1_addDemand_142 ?_
  refine J.alen (pc := 145) C 10 (by decide) dX1_addDemand_145 ?_
  refine J.icmp_ge (pc := 146) C (tgt := 216) dX1_addDemand_146 rfl ?_ ?_
  · exact J.vret (pc := 216) C rfl rfl ⟨Nat.le_refl _, Nat.le_refl _⟩ dX1_addDemand_216
  · refine J.aload_n (pc := 149) C (x := a0) dX1_addDemand_149 rfl rfl ?_
    refine J.getI (pc := 150) C fl_RX1_66 rfl dX1_addDemand_150 ?_
    refine J.aload_n (pc := 153) C (x := a0) dX1_addDemand_153 rfl rfl ?_
    refine J.getR (pc := 154) C fl_RX1_15 rfl dX1_addDemand_154 ?_
    refine J.alen (pc := 157) C 10 (by decide) dX1_addDemand_157 ?_
    refine J.icmp_ge (pc := 158) C (tgt := 216) dX1_addDemand_158 rfl ?_ ?_
    · exact J.vret (pc := 216) C rfl rfl ⟨Nat.le_refl _, Nat.le_refl _⟩ dX1_addDemand_216
    · refine J.aload_n (pc := 161) C (x := a0) dX1_addDemand_161 rfl rfl ?_
      refine J.getI (pc := 162) C fl_RX1_66 rfl dX1_addDemand_162 ?_
      refine J.aload_n (pc := 165) C (x := a0) dX1_addDemand_165 rfl rfl ?_
      refine J.getR (pc := 166) C fl_RX1_18 rfl dX1_addDemand_166 ?_
      refine J.alen (pc := 169) C 10 (by decide) dX1_addDemand_169 ?_
      refine J.icmp_ge (pc := 170) C (tgt := 216) dX1_addDemand_170 rfl ?_ ?_
      · exact J.vret (pc := 216) C rfl rfl ⟨Nat.le_refl _, Nat.le_refl _⟩ dX1_addDemand_216
      · refine J.aload_n (pc := 173) C (x := a0) dX1_addDemand_173 rfl rfl ?_
        refine J.getR (pc := 174) C fl_RX1_9 rfl dX1_addDemand_174 ?_
        refine J.aload_n (pc := 177) C (x := a0) dX1_addDemand_177 rfl rfl ?_
        refine J.getI (pc := 178) C fl_RX1_66 rfl dX1_addDemand_178 ?_
        refine J.iload (pc := 181) C dX1_addDemand_181 rfl ?_
        refine J.iasts (pc := 183) C dX1_addDemand_183 (fun S_13 => ?_)
        refine J.aload_n (pc := 184) C (x := a0) dX1_addDemand_184 rfl rfl ?_
        refine J.getR (pc := 185) C fl_RX1_15 rfl dX1_addDemand_185 ?_
        refine J.aload_n (pc := 188) C (x := a0) dX1_addDemand_188 rfl rfl ?_
        refine J.getI (pc := 189) C fl_RX1_66 rfl dX1_addDemand_189 ?_
        refine J.iload (pc := 192) C dX1_addDemand_192 rfl ?_
        refine J.iasts (pc := 194) C dX1_addDemand_194 (fun S_14 => ?_)
        refine J.aload_n (pc := 195) C (x := a0) dX1_addDemand_195 rfl rfl ?_
        refine J.getR (pc := 196) C fl_RX1_18 rfl dX1_addDemand_196 ?_
        refine J.aload_n (pc := 199) C (x := a0) dX1_addDemand_199 rfl rfl ?_
        refine J.getI (pc := 200) C fl_RX1_66 rfl dX1_addDemand_200 ?_
        refine J.iload (pc := 203) C dX1_addDemand_203 rfl ?_
        refine J.iasts (pc := 205) C dX1_addDemand_205 (fun S_15 => ?_)
        refine J.aload_n (pc := 206) C (x := a0) dX1_addDemand_206 rfl rfl ?_
        refine J.dup (pc := 207) C dX1_addDemand_207 (rv_cat g _) ?_
        refine J.getI (pc := 208) C fl_RX1_66 rfl dX1_addDemand_208 ?_
        refine J.iconst (pc := 211) C dX1_addDemand_211 ki_1 ?_
        refine J.iadd (pc := 212) C dX1_addDemand_212 ?_
        refine J.putIs (pc := 213) C fl_RX1_66 rfl (fun r h => by cases h; rfl) rfl rfl dX1_addDemand_213 (fun S_16 => ?_)
        exact J.vret (pc := 216) C rfl rfl ⟨Nat.le_refl _, Nat.le_refl _⟩ dX1_addDemand_216
