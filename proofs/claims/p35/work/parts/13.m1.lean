abbrev rm_L_camera : Room := { frames := 5, cells := 0, slots := 0, locals := 114 }
def f_L_camera_B63 (g : GG) (a0 : Nat) (kx63 : St → Option St) (k63 : St → Int32 → Option St) (S : St) (x2 : Int32) : Option St :=
  (if (3 : Int32) ≤ x2 then
  (kx63 S)
  else (bnd (f_L_cell g S (4 + x2)) fun r13 =>
  (chk (¬ (5 : Int32) = 0)
  (chk (¬ (8 : Int32) = 0)
  (chk (¬ (5 : Int32) = 0)
  (chk (¬ (64 : Int32) = 0)
  (chk (¬ (16 : Int32) = 0)
  (chk (¬ (1024 : Int32) = 0)
  (chk (¬ (21 : Int32) = 0)
  (chk (¬ (32768 : Int32) = 0)
  (chk (¬ (12 : Int32) = 0)
  (chk (¬ (524288 : Int32) = 0)
  (chk (¬ (256 : Int32) = 0)
  (chk (okc S 7 a0) (bnd2 (f_X7_thing S a0 (r13 - r13 / 5 * 5) ((r13 - r13 / 5 * 5) + ((r13 / 8) - (r13 / 8) / 5 * 5)) (100 * (((r13 / 64) - (r13 / 64) / 16 * 16) - 3)) (10 * (((r13 / 1024) - (r13 / 1024) / 21 * 21) - 10)) (50 + (50 * ((r13 / 32768) - (r13 / 32768) / 12 * 12))) ((r13 / 524288) - (r13 / 524288) / 256 * 256)) fun r14 S_15 =>
  (k63 S_15 (x2 + 1)))))))))))))))))
set_option maxRecDepth 100000 in
set_option maxHeartbeats 4000000 in
theorem w_L_camera_B63 {X : CT} {g : GG} (C : CX X g cL_camera RL none 5 rm_L_camera) (a0 : Nat) (kx63 : St → Option St) (hkx63 : ∀ (S : St), J X g (Qm X g aU pU) (cw (0, 0)) 150 [] [] S (kx63 S)) : ∀ (n : Nat) (S : St) (x2 : Int32), J X g (Qm X g aU pU) (cw (0, 0)) 63 [(0, rv g a0), (1, sv g), (2, .int x2)] [] S (wl2 (f_L_camera_B63 g a0 kx63) n S x2) := by
  refine J.loop2 (lvf := fun (S : St) (x2 : Int32) => [(0, rv g a0), (1, sv g), (2, .int x2)]) (Sf := fun (S : St) (x2 : Int32) => S) ?_
  intro k63 hk63 S x2
  show J X g _ _ 63 [(0, rv g a0), (1, sv g), (2, .int x2)] [] S (f_L_camera_B63 g a0 kx63 k63 S x2)
  unfold f_L_camera_B63
  refine J.iload_n (pc := 63) C dL_camera_63 rfl rfl ?_
  refine J.iconst (pc := 64) C dL_camera_64 ki_3 ?_
  refine J.icmp_ge (pc := 65) C (tgt := 150) dL_camera_65 rfl ?_ ?_
  · exact J.pick [] rfl (hkx63 _)
  · refine J.sload_n (pc := 68) C dL_camera_68 rfl rfl ?_
    refine J.iconst (pc := 69) C dL_camera_69 ki_4 ?_
    refine J.iload_n (pc := 70) C dL_camera_70 rfl rfl ?_
    refine J.iadd (pc := 71) C dL_camera_71 ?_
    refine J.sI (pc := 72) C ms_L_cell wm_RL_14 (fun l => c_L_cell l g S (4 + x2)) ⟨⟨Nat.zero_le _, Nat.zero_le _⟩, rfl, rfl⟩ rfl ⟨Nat.le_of_ble_eq_true rfl, Nat.le_of_ble_eq_true rfl⟩ rfl ct_n (Nat.le_of_ble_eq_true rfl) dL_camera_72 (fun r13 => ?_)
    refine J.istore_n (pc := 75) C (lv' := [(0, rv g a0), (1, sv g), (2, .int x2), (3, .int r13)]) dL_camera_75 rfl (Nat.le_of_ble_eq_true rfl) (lsf_r (lsf_s (lsf_i lsf_n))) rfl ?_
    refine J.iload_n (pc := 76) C dL_camera_76 rfl rfl ?_
    refine J.iconst (pc := 77) C dL_camera_77 ki_5 ?_
    refine J.irem (pc := 78) C dL_camera_78 ?_
    refine J.istore (pc := 79) C (lv' := [(0, rv g a0), (1, sv g), (2, .int x2), (3, .int r13), (4, .int (r13 - r13 / 5 * 5))]) dL_camera_79 (Nat.le_of_ble_eq_true rfl) (lsf_r (lsf_s (lsf_i (lsf_i lsf_n)))) rfl ?_
    refine J.aload_n (pc := 81) C (x := a0) dL_camera_81 rfl rfl ?_
    refine J.iload (pc := 82) C dL_camera_82 rfl ?_
    refine J.iload (pc := 84) C dL_camera_84 rfl ?_
    refine J.iload_n (pc := 86) C dL_camera_86 rfl rfl ?_
    refine J.bipush (pc := 87) C dL_camera_87 kb_8 ?_
    refine J.idiv (pc := 89) C dL_camera_89 ?_
    refine J.iconst (pc := 90) C dL_camera_90 ki_5 ?_
    refine J.irem (pc := 91) C dL_camera_91 ?_
    refine J.iadd (pc := 92) C dL_camera_92 ?_
    refine J.bipush (pc := 93) C dL_camera_93 kb_100 ?_
    refine J.iload_n (pc := 95) C dL_camera_95 rfl rfl ?_
    refine J.bipush (pc := 96) C dL_camera_96 kb_64 ?_
    refine J.idiv (pc := 98) C dL_camera_98 ?_
    refine J.bipush (pc := 99) C dL_camera_99 kb_16 ?_
    refine J.irem (pc := 101) C dL_camera_101 ?_
    refine J.iconst (pc := 102) C dL_camera_102 ki_3 ?_
    refine J.isub (pc := 103) C dL_camera_103 ?_
    refine J.imul (pc := 104) C dL_camera_104 ?_
    refine J.bipush (pc := 105) C dL_camera_105 kb_10 ?_
    refine J.iload_n (pc := 107) C dL_camera_107 rfl rfl ?_
    refine J.sipush (pc := 108) C dL_camera_108 ks_1024 ?_
    refine J.idiv (pc := 111) C dL_camera_111 ?_
    refine J.bipush (pc := 112) C dL_camera_112 kb_21 ?_
    refine J.irem (pc := 114) C dL_camera_114 ?_
    refine J.bipush (pc := 115) C dL_camera_115 kb_10 ?_
    refine J.isub (pc := 117) C dL_camera_117 ?_
    refine J.imul (pc := 118) C dL_camera_118 ?_
    refine J.bipush (pc := 119) C dL_camera_119 kb_50 ?_
    refine J.bipush (pc := 121) C dL_camera_121 kb_50 ?_
    refine J.iload_n (pc := 123) C dL_camera_123 rfl rfl ?_
    refine J.ldc (pc := 124) C wc_RL_23 dL_camera_124 ?_
    refine J.idiv (pc := 126) C dL_camera_126 ?_
    refine J.bipush (pc := 127) C dL_camera_127 kb_12 ?_
    refine J.irem (pc := 129) C dL_camera_129 ?_
    refine J.imul (pc := 130) C dL_camera_130 ?_
    refine J.iadd (pc := 131) C dL_camera_131 ?_
    refine J.iload_n (pc := 132) C dL_camera_132 rfl rfl ?_
    refine J.ldc (pc := 133) C wc_RL_24 dL_camera_133 ?_
    refine J.idiv (pc := 135) C dL_camera_135 ?_
    refine J.sipush (pc := 136) C dL_camera_136 ks_256 ?_
    refine J.irem (pc := 139) C dL_camera_139 ?_
    refine J.vW (pc := 140) C mv_X7_thing wm_RL_25 (fun l => c_X7_thing l g S a0 (r13 - r13 / 5 * 5) ((r13 - r13 / 5 * 5) + ((r13 / 8) - (r13 / 8) / 5 * 5)) (100 * (((r13 / 64) - (r13 / 64) / 16 * 16) - 3)) (10 * (((r13 / 1024) - (r13 / 1024) / 21 * 21) - 10)) (50 + (50 * ((r13 / 32768) - (r13 / 32768) / 12 * 12))) ((r13 / 524288) - (r13 / 524288) / 256 * 256)) ⟨⟨Nat.zero_le _, Nat.zero_le _⟩, rfl, rfl⟩ rfl ⟨Nat.le_of_ble_eq_true rfl, Nat.le_of_ble_eq_true rfl⟩ rfl ct_n (Nat.le_of_ble_eq_true rfl) dL_camera_140 (fun r14 S_15 => ?_)
    refine J.pop (pc := 143) C dL_camera_143 rfl ?_
    refine J.iinc (pc := 144) C (lv' := [(0, rv g a0), (1, sv g), (2, .int (x2 + 1)), (3, .int r13), (4, .int (r13 - r13 / 5 * 5))]) dL_camera_144 rfl (Nat.le_of_ble_eq_true rfl) (lsf_r (lsf_s (lsf_i (lsf_i (lsf_i lsf_n))))) ki_1 rfl ?_
    refine J.goto (pc := 147) C (tgt := 63) dL_camera_147 rfl ?_
    exact J.pick [0, 1, 2] rfl (hk63 _ _)
def f_L_camera (g : GG) (S : St) (a0 : Nat) : Option St :=
  (bnd (f_L_cell g S 0) fun r1 =>
  (chk (¬ (10 : Int32) = 0)
  (chk (okc S 7 a0) (bnd2 (f_X7_set S a0 0 (1 + (r1 - r1 / 10 * 10))) fun r2 S_3 =>
  (bnd (f_L_cell g S_3 1) fun r4 =>
  (chk (¬ (13 : Int32) = 0)
  (chk (okc S_3 7 a0) (bnd2 (f_X7_set S_3 a0 1 (4 + (r4 - r4 / 13 * 13))) fun r5 S_6 =>
  (bnd (f_L_cell g S_6 2) fun r7 =>
  (chk (¬ (4 : Int32) = 0)
  (chk (okc S_6 7 a0) (bnd2 (f_X7_set S_6 a0 2 (r7 - r7 / 4 * 4)) fun r8 S_9 =>
  (bnd (f_L_cell g S_9 3) fun r10 =>
  (chk (¬ (60 : Int32) = 0)
  (chk (okc S_9 7 a0) (bnd2 (f_X7_set S_9 a0 3 (1 + (r10 - r10 / 60 * 60))) fun r11 S_12 =>
  (wl2 (f_L_camera_B63 g a0 (fun (S_16 : St) => (some S_16))) FU S_12 0)))))))))))))))))
set_option maxRecDepth 100000 in
set_option maxHeartbeats 4000000 in
theorem c_L_camera (l : Launch) (g : GG) (S : St) (a0 : Nat) : Ct l yL_camera cL_camera 5 none rm_L_camera g aU pU [rv g a0, sv g] S (f_L_camera g S a0) := by
  refine Ct.mk (cf := cw (0, 0)) (by decide +kernel) (cat_r (cat_s cat_n)) (Nat.le_of_ble_eq_true rfl) rfl ?_
  intro X hXl hin C
  show J X g _ _ 0 [(0, rv g a0), (1, sv g)] [] S (f_L_camera g S a0)
  unfold f_L_camera
  refine J.aload_n (pc := 0) C (x := a0) dL_camera_0 rfl rfl ?_
  refine J.iconst (pc := 1) C dL_camera_1 ki_0 ?_
  refine J.iconst (pc := 2) C dL_camera_2 ki_1 ?_
  refine J.sload_n (pc := 3) C dL_camera_3 rfl rfl ?_
  refine J.iconst (pc := 4) C dL_camera_4 ki_0 ?_
  refine J.sI (pc := 5) C ms_L_cell wm_RL_14 (fun l => c_L_cell l g S 0) ⟨⟨Nat.zero_le _, Nat.zero_le _⟩, rfl, rfl⟩ rfl ⟨Nat.le_of_ble_eq_true rfl, Nat.le_of_ble_eq_true rfl⟩ rfl (ct_i (ct_i (ct_r ct_n))) (Nat.le_of_ble_eq_true rfl) dL_camera_5 (fun r1 => ?_)
  refine J.bipush (pc := 8) C dL_camera_8 kb_10 ?_
  refine J.irem (pc := 10) C dL_camera_10 ?_
  refine J.iadd (pc := 11) C dL_camera_11 ?_
  refine J.vW (pc := 12) C mv_X7_set wm_RL_20 (fun l => c_X7_set l g S a0 0 (1 + (r1 - r1 / 10 * 10))) ⟨⟨Nat.zero_le _, Nat.zero_le _⟩, rfl, rfl⟩ rfl ⟨Nat.le_of_ble_eq_true rfl, Nat.le_of_ble_eq_true rfl⟩ rfl ct_n (Nat.le_of_ble_eq_true rfl) dL_camera_12 (fun r2 S_3 => ?_)
  refine J.pop (pc := 15) C dL_camera_15 rfl ?_
  refine J.aload_n (pc := 16) C (x := a0) dL_camera_16 rfl rfl ?_
  refine J.iconst (pc := 17) C dL_camera_17 ki_1 ?_
  refine J.iconst (pc := 18) C dL_camera_18 ki_4 ?_
  refine J.sload_n (pc := 19) C dL_camera_19 rfl rfl ?_
  refine J.iconst (pc := 20) C dL_camera_20 ki_1 ?_
  refine J.sI (pc := 21) C ms_L_cell wm_RL_14 (fun l => c_L_cell l g S_3 1) ⟨⟨Nat.zero_le _, Nat.zero_le _⟩, rfl, rfl⟩ rfl ⟨Nat.le_of_ble_eq_true rfl, Nat.le_of_ble_eq_true rfl⟩ rfl (ct_i (ct_i (ct_r ct_n))) (Nat.le_of_ble_eq_true rfl) dL_camera_21 (fun r4 => ?_)
  refine J.bipush (pc := 24) C dL_camera_24 kb_13 ?_
  refine J.irem (pc := 26) C dL_camera_26 ?_
  refine J.iadd (pc := 27) C dL_camera_27 ?_
  refine J.vW (pc := 28) C mv_X7_set wm_RL_20 (fun l => c_X7_set l g S_3 a0 1 (4 + (r4 - r4 / 13 * 13))) ⟨⟨Nat.zero_le _, Nat.zero_le _⟩, rfl, rfl⟩ rfl ⟨Nat.le_of_ble_eq_true rfl, Nat.le_of_ble_eq_true rfl⟩ rfl ct_n (Nat.le_of_ble_eq_true rfl) dL_camera_28 (fun r5 S_6 => ?_)
  refine J.pop (pc := 31) C dL_camera_31 rfl ?_
  refine J.aload_n (pc := 32) C (x := a0) dL_camera_32 rfl rfl ?_
  refine J.iconst (pc := 33) C dL_camera_33 ki_2 ?_
  refine J.sload_n (pc := 34) C dL_camera_34 rfl rfl ?_
  refine J.iconst (pc := 35) C dL_camera_35 ki_2 ?_
  refine J.sI (pc := 36) C ms_L_cell wm_RL_14 (fun l => c_L_cell l g S_6 2) ⟨⟨Nat.zero_le _, Nat.zero_le _⟩, rfl, rfl⟩ rfl ⟨Nat.le_of_ble_eq_true rfl, Nat.le_of_ble_eq_true rfl⟩ rfl (ct_i (ct_r ct_n)) (Nat.le_of_ble_eq_true rfl) dL_camera_36 (fun r7 => ?_)
  refine J.iconst (pc := 39) C dL_camera_39 ki_4 ?_
  refine J.irem (pc := 40) C dL_camera_40 ?_
  refine J.vW (pc := 41) C mv_X7_set wm_RL_20 (fun l => c_X7_set l g S_6 a0 2 (r7 - r7 / 4 * 4)) ⟨⟨Nat.zero_le _, Nat.zero_le _⟩, rfl, rfl⟩ rfl ⟨Nat.le_of_ble_eq_true rfl, Nat.le_of_ble_eq_true rfl⟩ rfl ct_n (Nat.le_of_ble_eq_true rfl) dL_camera_41 (fun r8 S_9 => ?_)
  refine J.pop (pc := 44) C dL_camera_44 rfl ?_
  refine J.aload_n (pc := 45) C (x := a0) dL_camera_45 rfl rfl ?_
  refine J.iconst (pc := 46) C dL_camera_46 ki_3 ?_
  refine J.iconst (pc := 47) C dL_camera_47 ki_1 ?_
  refine J.sload_n (pc := 48) C dL_camera_48 rfl rfl ?_
  refine J.iconst (pc := 49) C dL_camera_49 ki_3 ?_
  refine J.sI (pc := 50) C ms_L_cell wm_RL_14 (fun l => c_L_cell l g S_9 3) ⟨⟨Nat.zero_le _, Nat.zero_le _⟩, rfl, rfl⟩ rfl ⟨Nat.le_of_ble_eq_true rfl, Nat.le_of_ble_eq_true rfl⟩ rfl (ct_i (ct_i (ct_r ct_n))) (Nat.le_of_ble_eq_true rfl) dL_camera_50 (fun r10 => ?_)
  refine J.bipush (pc := 53) C dL_camera_53 kb_60 ?_
  refine J.irem (pc := 55) C dL_camera_55 ?_
  refine J.iadd (pc := 56) C dL_camera_56 ?_
  refine J.vW (pc := 57) C mv_X7_set wm_RL_20 (fun l => c_X7_set l g S_9 a0 3 (1 + (r10 - r10 / 60 * 60))) ⟨⟨Nat.zero_le _, Nat.zero_le _⟩, rfl, rfl⟩ rfl ⟨Nat.le_of_ble_eq_true rfl, Nat.le_of_ble_eq_true rfl⟩ rfl ct_n (Nat.le_of_ble_eq_true rfl) dL_camera_57 (fun r11 S_12 => ?_)
  refine J.pop (pc := 60) C dL_camera_60 rfl ?_
  refine J.iconst (pc := 61) C dL_camera_61 ki_0 ?_
  refine J.istore_n (pc := 62) C (lv' := [(0, rv g a0), (1, sv g), (2, .int 0)]) dL_camera_62 rfl (Nat.le_of_ble_eq_true rfl) (lsf_r (lsf_s lsf_n)) rfl ?_
  refine w_L_camera_B63 C _ _ (fun S_16 => ?_) FU _ _
  exact J.vret (pc := 150) C rfl rfl ⟨Nat.le_refl _, Nat.le_refl _⟩ dL_camera_150
abbrev rm_L_has : Room := { frames := 0, cells := 0, slots := 0, locals := 0 }
def f_L_has (a0 : Int32) (a1 : Int32) : Option Int32 :=
  (if ((a0 >>> (a1 &&& 31)) &&& 1) = 1 then
  (some 1)
  else (some 0))
set_option maxRecDepth 100000 in
set_option maxHeartbeats 4000000 in
theorem c_L_has (l : Launch) (g : GG) (S : St) (a0 : Int32) (a1 : Int32) : Ct l yL_has cL_has 2 (some .boolean) rm_L_has g aI (pK S) [.int a0, .int a1] S (f_L_has a0 a1) := by
  refine Ct.mk (cf := cw (0, 0)) (by decide +kernel) (cat_i (cat_i cat_n)) (Nat.le_of_ble_eq_true rfl) rfl ?_
  intro X hXl hin C
  show J X g _ _ 0 [(0, .int a0), (1, .int a1)] [] S (f_L_has a0 a1)
  unfold f_L_has
  refine J.iload_n (pc := 0) C dL_has_0 rfl rfl ?_
  refine J.iload_n (pc := 1) C dL_has_1 rfl rfl ?_
  refine J.ishr (pc := 2) C dL_has_2 ?_
  refine J.iconst (pc := 3) C dL_has_3 ki_1 ?_
  refine J.iand (pc := 4) C dL_has_4 ?_
  refine J.iconst (pc := 5) C dL_has_5 ki_1 ?_
  refine J.icmp_ne (pc := 6) C (tgt := 13) dL_has_6 rfl ?_ ?_
  · refine J.iconst (pc := 13) C dL_has_13 ki_0 ?_
    exact J.zret (pc := 14) C rfl rfl rfl ⟨Nat.le_refl _, Nat.le_refl _⟩ dL_has_14
  · refine J.iconst (pc := 9) C dL_has_9 ki_1 ?_
    refine J.goto (pc := 10) C (tgt := 14) dL_has_10 rfl ?_
    exact J.zret (pc := 14) C rfl rfl rfl ⟨Nat.le_refl _, Nat.le_refl _⟩ dL_has_14
abbrev rm_X3_percentAt : Room := { frames := 2, cells := 0, slots := 0, locals := 42 }
def f_X3_percentAt (S : St) (a0 : Nat) (a1 : Int32) : Option Int32 :=
  (chk (okc S 3 a0) (bnd (f_X3_setting S a0 5) fun r1 =>
  (chk (okc S 3 a0) (bnd (f_X3_setting S a0 6) fun r2 =>
  (bnd (f_X7_isDark a1 r1 r2) fun r3 =>
  (if r3 = 0 then
  (some 100)
  else (chk (okc S 3 a0) (bnd (f_X3_setting S a0 7) fun r4 =>
  (some r4)))))))))
set_option maxRecDepth 100000 in
set_option maxHeartbeats 4000000 in
theorem c_X3_percentAt (l : Launch) (g : GG) (S : St) (a0 : Nat) (a1 : Int32) : Ct l yX3_percentAt cX3_percentAt 2 (some .int) rm_X3_percentAt g aI (pK S) [rv g a0, .int a1] S (f_X3_percentAt S a0 a1) := by
  refine Ct.mk (cf := cw (0, 0)) (by decide +kernel) (cat_r (cat_i cat_n)) (Nat.le_of_ble_eq_true rfl) rfl ?_
  intro X hXl hin C
  show J X g _ _ 0 [(0, rv g a0), (1, .int a1)] [] S (f_X3_percentAt S a0 a1)
  unfold f_X3_percentAt
  refine J.iload_n (pc := 0) C dX3_percentAt_0 rfl rfl ?_
  refine J.aload_n (pc := 1) C (x := a0) dX3_percentAt_1 rfl rfl ?_
  refine J.iconst (pc := 2) C dX3_percentAt_2 ki_5 ?_
  refine J.vI (pc := 3) C mv_X3_setting wm_RX3_106 (fun l => c_X3_setting l g S a0 5) ⟨⟨Nat.zero_le _, Nat.zero_le _⟩, rfl, rfl⟩ rfl ⟨Nat.le_of_ble_eq_true rfl, Nat.le_of_ble_eq_true rfl⟩ rfl (ct_i ct_n) (Nat.le_of_ble_eq_true rfl) dX3_percentAt_3 (fun r1 => ?_)
  refine J.aload_n (pc := 6) C (x := a0) dX3_percentAt_6 rfl rfl ?_
  refine J.bipush (pc := 7) C dX3_percentAt_7 kb_6 ?_
  refine J.vI (pc := 9) C mv_X3_setting wm_RX3_106 (fun l => c_X3_setting l g S a0 6) ⟨⟨Nat.zero_le _, Nat.zero_le _⟩, rfl, rfl⟩ rfl ⟨Nat.le_of_ble_eq_true rfl, Nat.le_of_ble_eq_true rfl⟩ rfl (ct_i (ct_i ct_n)) (Nat.le_of_ble_eq_true rfl) dX3_percentAt_9 (fun r2 => ?_)
  refine J.snI (pc := 12) C ms_X7_isDark wn_RX3_131 (fun l => c_X7_isDark l g S a1 r1 r2) ⟨⟨Nat.zero_le _, Nat.zero_le _⟩, rfl, rfl⟩ rfl ⟨Nat.le_of_ble_eq_true rfl, Nat.le_of_ble_eq_true rfl⟩ rfl ct_n (Nat.le_of_ble_eq_true rfl) dX3_percentAt_12 (fun r3 => ?_)
  refine J.if_eq (pc := 15) C (tgt := 27) dX3_percentAt_15 rfl ?_ ?_
  · refine J.bipush (pc := 27) C dX3_percentAt_27 kb_100 ?_
    exact J.iret (pc := 29) C rfl rfl ⟨Nat.le_refl _, Nat.le_refl _⟩ dX3_percentAt_29
  · refine J.aload_n (pc := 18) C (x := a0) dX3_percentAt_18 rfl rfl ?_
    refine J.bipush (pc := 19) C dX3_percentAt_19 kb_7 ?_
    refine J.vI (pc := 21) C mv_X3_setting wm_RX3_106 (fun l => c_X3_setting l g S a0 7) ⟨⟨Nat.zero_le _, Nat.zero_le _⟩, rfl, rfl⟩ rfl ⟨Nat.le_of_ble_eq_true rfl, Nat.le_of_ble_eq_true rfl⟩ rfl ct_n (Nat.le_of_ble_eq_true rfl) dX3_percentAt_21 (fun r4 => ?_)
    refine J.goto (pc := 24) C (tgt := 29) dX3_percentAt_24 rfl ?_
    exact J.iret (pc := 29) C rfl rfl ⟨Nat.le_refl _, Nat.le_refl _⟩ dX3_percentAt_29
abbrev rm_X3_timeOfRow : Room := { frames := 2, cells := 0, slots := 0, locals := 42 }
def f_X3_timeOfRow (S : St) (a0 : Nat) (a1 : Nat) (a2 : Int32) : Option Int32 :=
  (chk (okc S 0 a1)
  (chk (okc S 3 a0) (bnd (f_X3_setting S a0 2) fun r1 =>
  (some ((S.1 a1 0) + (a2 * r1))))))
set_option maxRecDepth 100000 in
set_option maxHeartbeats 4000000 in
theorem c_X3_timeOfRow (l : Launch) (g : GG) (S : St) (a0 : Nat) (a1 : Nat) (a2 : Int32) : Ct l yX3_timeOfRow cX3_timeOfRow 3 (some .int) rm_X3_timeOfRow g aI (pK S) [rv g a0, rv g a1, .int a2] S (f_X3_timeOfRow S a0 a1 a2) := by
  refine Ct.mk (cf := cw (0, 0)) (by decide +kernel) (cat_r (cat_r (cat_i cat_n))) (Nat.le_of_ble_eq_true rfl) rfl ?_
  intro X hXl hin C
  show J X g _ _ 0 [(0, rv g a0), (1, rv g a1), (2, .int a2)] [] S (f_X3_timeOfRow S a0 a1 a2)
  unfold f_X3_timeOfRow
  refine J.aload_n (pc := 0) C (x := a1) dX3_timeOfRow_0 rfl rfl ?_
  refine J.getI (pc := 1) C fl_RX3_110 rfl dX3_timeOfRow_1 ?_
  refine J.iload_n (pc := 4) C dX3_timeOfRow_4 rfl rfl ?_
  refine J.aload_n (pc := 5) C (x := a0) dX3_timeOfRow_5 rfl rfl ?_
  refine J.iconst (pc := 6) C dX3_timeOfRow_6 ki_2 ?_
  refine J.vI (pc := 7) C mv_X3_setting wm_RX3_106 (fun l => c_X3_setting l g S a0 2) ⟨⟨Nat.zero_le _, Nat.zero_le _⟩, rfl, rfl⟩ rfl ⟨Nat.le_of_ble_eq_true rfl, Nat.le_of_ble_eq_true rfl⟩ rfl (ct_i (ct_i ct_n)) (Nat.le_of_ble_eq_true rfl) dX3_timeOfRow_7 (fun r1 => ?_)
  refine J.imul (pc := 10) C dX3_timeOfRow_10 ?_
  refine J.iadd (pc := 11) C dX3_timeOfRow_11 ?_
  exact J.iret (pc := 12) C rfl rfl ⟨Nat.le_refl _, Nat.le_refl _⟩ dX3_timeOfRow_12
abbrev rm_X0_pixelAt : Room := { frames := 1, cells := 0, slots := 0, locals := 21 }
def f_X0_pixelAt (S : St) (a0 : Nat) (a1 : Int32) (a2 : Int32) : Option Int32 :=
  (chk (okc S 0 a0)
  (bnd (f_X7_numberIn S (S.2.1 a0 2) ((a1 * 16) + a2)) fun r1 =>
  (some r1)))
set_option maxRecDepth 100000 in
set_option maxHeartbeats 4000000 in
theorem c_X0_pixelAt (l : Launch) (g : GG) (S : St) (a0 : Nat) (a1 : Int32) (a2 : Int32) : Ct l yX0_pixelAt cX0_pixelAt 3 (some .int) rm_X0_pixelAt g aI (pK S) [rv g a0, .int a1, .int a2] S (f_X0_pixelAt S a0 a1 a2) := by
  refine Ct.mk (cf := cw (0, 0)) (by decide +kernel) (cat_r (cat_i (cat_i cat_n))) (Nat.le_of_ble_eq_true rfl) rfl ?_
  intro X hXl hin C
  show J X g _ _ 0 [(0, rv g a0), (1, .int a1), (2, .int a2)] [] S (f_X0_pixelAt S a0 a1 a2)
  unfold f_X0_pixelAt
  refine J.aload_n (pc := 0) C (x := a0) dX0_pixelAt_0 rfl rfl ?_
  refine J.getR (pc := 1) C fl_RX0_9 rfl dX0_pixelAt_1 ?_
  refine J.iload_n (pc := 4) C dX0_pixelAt_4 rfl rfl ?_
  refine J.bipush (pc := 5) C dX0_pixelAt_5 kb_16 ?_
  refine J.imul (pc := 7) C dX0_pixelAt_7 ?_
  refine J.iload_n (pc := 8) C dX0_pixelAt_8 rfl rfl ?_
  refine J.iadd (pc := 9) C dX0_pixelAt_9 ?_
  refine J.snI (pc := 10) C ms_X7_numberIn wn_RX0_22 (fun l => c_X7_numberIn l g S (S.2.1 a0 2) ((a1 * 16) + a2)) ⟨⟨Nat.zero_le _, Nat.zero_le _⟩, rfl, rfl⟩ rfl ⟨Nat.le_of_ble_eq_true rfl, Nat.le_of_ble_eq_true rfl⟩ rfl ct_n (Nat.le_of_ble_eq_true rfl) dX0_pixelAt_10 (fun r1 => ?_)
  exact J.iret (pc := 13) C rfl rfl ⟨Nat.le_refl _, Nat.le_refl _⟩ dX0_pixelAt_13
abbrev rm_X3_paintOver : Room := { frames := 1, cells := 0, slots := 0, locals := 21 }
def f_X3_paintOver_B3 (a1 : Nat) (a2 : Int32) (a3 : Int32) (kx3 : St → Option St) (k3 : St → Int32 → Option St) (S : St) (x4 : Int32) : Option St :=
  (chk (okc S 10 a1)
  (if (Int32.ofNat (ln a1)) ≤ x4 then
  (kx3 S)
  else (bnd (f_X7_holds a2 x4) fun r1 =>
  (if r1 = 0 then
  (k3 S (x4 + 1))
  else (chk (inw S 10 a1 x4) (vlt (upI S a1 x4.toNatClampNeg a3) fun S_2 =>
  (k3 S_2 (x4 + 1))))))))
set_option maxRecDepth 100000 in
set_option maxHeartbeats 4000000 in
theorem w_X3_paintOver_B3 {X : CT} {g : GG} (C : CX X g cX3_paintOver RX3 none 5 rm_X3_paintOver) (a1 : Nat) (a2 : Int32) (a3 : Int32) (kx3 : St → Option St) (hkx3 : ∀ (S : St), J X g (Qm X g aU pU) (cw (0, 0)) 30 [] [] S (kx3 S)) : ∀ (n : Nat) (S : St) (x4 : Int32), J X g (Qm X g aU pU) (cw (0, 0)) 3 [(1, rv g a1), (2, .int a2), (3, .int a3), (4, .int x4)] [] S (wl2 (f_X3_paintOver_B3 a1 a2 a3 kx3) n S x4) := by
  refine J.loop2 (lvf := fun (S : St) (x4 : Int32) => [(1, rv g a1), (2, .int a2), (3, .int a3), (4, .int x4)]) (Sf := fun (S : St) (x4 : Int32) => S) ?_
  intro k3 hk3 S x4
  show J X g _ _ 3 [(1, rv g a1), (2, .int a2), (3, .int a3), (4, .int x4)] [] S (f_X3_paintOver_B3 a1 a2 a3 kx3 k3 S x4)
  unfold f_X3_paintOver_B3
  refine J.iload (pc := 3) C dX3_paintOver_3 rfl ?_
  refine J.aload_n (pc := 5) C (x := a1) dX3_paintOver_5 rfl rfl ?_
  refine J.alen (pc := 6) C 10 (by decide) dX3_paintOver_6 ?_
  refine J.icmp_ge (pc := 7) C (tgt := 30) dX3_paintOver_7 rfl ?_ ?_
  · exact J.pick [] rfl (hkx3 _)
  · refine J.iload_n (pc := 10) C dX3_paintOver_10 rfl rfl ?_
    refine J.iload (pc := 11) C dX3_paintOver_11 rfl ?_
    refine J.snI (pc := 13) C ms_X7_holds wn_RX3_112 (fun l => c_X7_holds l g S a2 x4) ⟨⟨Nat.zero_le _, Nat.zero_le _⟩, rfl, rfl⟩ rfl ⟨Nat.le_of_ble_eq_true rfl, Nat.le_of_ble_eq_true rfl⟩ rfl ct_n (Nat.le_of_ble_eq_true rfl) dX3_paintOver_13 (fun r1 => ?_)
    refine J.if_eq (pc := 16) C (tgt := 24) dX3_paintOver_16 rfl ?_ ?_
    · refine J.iinc (pc := 24) C (lv' := [(1, rv g a1), (2, .int a2), (3, .int a3), (4, .int (x4 + 1))]) dX3_paintOver_24 rfl (Nat.le_of_ble_eq_true rfl) (lsf_r (lsf_i (lsf_i (lsf_i lsf_n)))) ki_1 rfl ?_
      refine J.goto (pc := 27) C (tgt := 3) dX3_paintOver_27 rfl ?_
      exact (hk3 _ _)
    · refine J.aload_n (pc := 19) C (x := a1) dX3_paintOver_19 rfl rfl ?_
      refine J.iload (pc := 20) C dX3_paintOver_20 rfl ?_
      refine J.iload_n (pc := 22) C dX3_paintOver_22 rfl rfl ?_
      refine J.iasts (pc := 23) C dX3_paintOver_23 (fun S_2 => ?_)
      refine J.iinc (pc := 24) C (lv' := [(1, rv g a1), (2, .int a2), (3, .int a3), (4, .int (x4 + 1))]) dX3_paintOver_24 rfl (Nat.le_of_ble_eq_true rfl) (lsf_r (lsf_i (lsf_i (lsf_i lsf_n)))) ki_1 rfl ?_
      refine J.goto (pc := 27) C (tgt := 3) dX3_paintOver_27 rfl ?_
      exact (hk3 _ _)
def f_X3_paintOver (S : St) (a0 : Nat) (a1 : Nat) (a2 : Int32) (a3 : Int32) : Option St :=
  (wl2 (f_X3_paintOver_B3 a1 a2 a3 (fun (S_3 : St) => (some S_3))) FU S 0)
set_option maxRecDepth 100000 in
set_option maxHeartbeats 4000000 in
theorem c_X3_paintOver (l : Launch) (g : GG) (S : St) (a0 : Nat) (a1 : Nat) (a2 : Int32) (a3 : Int32) : Ct l yX3_paintOver cX3_paintOver 5 none rm_X3_paintOver g aU pU [rv g a0, rv g a1, .int a2, .int a3] S (f_X3_paintOver S a0 a1 a2 a3) := by
  refine Ct.mk (cf := cw (0, 0)) (by decide +kernel) (cat_r (cat_r (cat_i (cat_i cat_n)))) (Nat.le_of_ble_eq_true rfl) rfl ?_
  intro X hXl hin C
  show J X g _ _ 0 [(0, rv g a0), (1, rv g a1), (2, .int a2), (3, .int a3)] [] S (f_X3_paintOver S a0 a1 a2 a3)
  unfold f_X3_paintOver
  refine J.iconst (pc := 0) C dX3_paintOver_0 ki_0 ?_
  refine J.istore (pc := 1) C (lv' := [(0, rv g a0), (1, rv g a1), (2, .int a2), (3, .int a3), (4, .int 0)]) dX3_paintOver_1 (Nat.le_of_ble_eq_true rfl) (lsf_r (lsf_r (lsf_i (lsf_i lsf_n)))) rfl ?_
  refine J.pick [1, 2, 3, 4] rfl ?_
  refine w_X3_paintOver_B3 C _ _ _ _ (fun S_3 => ?_) FU _ _
  exact J.vret (pc := 30) C rfl rfl ⟨Nat.le_refl _, Nat.le_refl _⟩ dX3_paintOver_30
abbrev rm_X5_isIn : Room := { frames := 0, cells := 0, slots := 0, locals := 0 }
def f_X5_isIn (S : St) (a0 : Nat) (a1 : Int32) : Option Int32 :=
  (chk (okc S 5 a0)
  (if a1 < (S.1 a0 0) then
  (some 0)
  else (chk (okc S 5 a0)
  (if (S.1 a0 1) < a1 then
  (some 0)
  else (some 1)))))
set_option maxRecDepth 100000 in
set_option maxHeartbeats 4000000 in
theorem c_X5_isIn (l : Launch) (g : GG) (S : St) (a0 : Nat) (a1 : Int32) : Ct l yX5_isIn cX5_isIn 2 (some .boolean) rm_X5_isIn g aI (pK S) [rv g a0, .int a1] S (f_X5_isIn S a0 a1) := by
  refine Ct.mk (cf := cw (0, 0)) (by decide +kernel) (cat_r (cat_i cat_n)) (Nat.le_of_ble_eq_true rfl) rfl ?_
  intro X hXl hin C
  show J X g _ _ 0 [(0, rv g a0), (1, .int a1)] [] S (f_X5_isIn S a0 a1)
  unfold f_X5_isIn
  refine J.iload_n (pc := 0) C dX5_isIn_0 rfl rfl ?_
  refine J.aload_n (pc := 1) C (x := a0) dX5_isIn_1 rfl rfl ?_
  refine J.getI (pc := 2) C fl_RX5_7 rfl dX5_isIn_2 ?_
  refine J.icmp_lt (pc := 5) C (tgt := 20) dX5_isIn_5 rfl ?_ ?_
  · refine J.iconst (pc := 20) C dX5_isIn_20 ki_0 ?_
    exact J.zret (pc := 21) C rfl rfl rfl ⟨Nat.le_refl _, Nat.le_refl _⟩ dX5_isIn_21
  · refine J.iload_n (pc := 8) C dX5_isIn_8 rfl rfl ?_
    refine J.aload_n (pc := 9) C (x := a0) dX5_isIn_9 rfl rfl ?_
    refine J.getI (pc := 10) C fl_RX5_13 rfl dX5_isIn_10 ?_
    refine J.icmp_gt (pc := 13) C (tgt := 20) dX5_isIn_13 rfl ?_ ?_
    · refine J.iconst (pc := 20) C dX5_isIn_20 ki_0 ?_
      exact J.zret (pc := 21) C rfl rfl rfl ⟨Nat.le_refl _, Nat.le_refl _⟩ dX5_isIn_21
    · refine J.iconst (pc := 16) C dX5_isIn_16 ki_1 ?_
      refine J.goto (pc := 17) C (tgt := 21) dX5_isIn_17 rfl ?_
      exact J.zret (pc := 21) C rfl rfl rfl ⟨Nat.le_refl _, Nat.le_refl _⟩ dX5_isIn_21
abbrev rm_X5_positionAt : Room := { frames := 0, cells := 0, slots := 0, locals := 0 }
def f_X5_positionAt (S : St) (a0 : Nat) (a1 : Int32) : Option Int32 :=
  (chk (okc S 5 a0)
  (chk (okc S 5 a0)
  (some ((S.1 a0 2) + ((S.1 a0 3) * a1)))))
set_option maxRecDepth 100000 in
set_option maxHeartbeats 4000000 in
theorem c_X5_positionAt (l : Launch) (g : GG) (S : St) (a0 : Nat) (a1 : Int32) : Ct l yX5_positionAt cX5_positionAt 2 (some .int) rm_X5_positionAt g aI (pK S) [rv g a0, .int a1] S (f_X5_positionAt S a0 a1) := by
  refine Ct.mk (cf := cw (0, 0)) (by decide +kernel) (cat_r (cat_i cat_n)) (Nat.le_of_ble_eq_true rfl) rfl ?_
  intro X hXl hin C
  show J X g _ _ 0 [(0, rv g a0), (1, .int a1)] [] S (f_X5_positionAt S a0 a1)
  unfold f_X5_positionAt
  refine J.aload_n (pc := 0) C (x := a0) dX5_positionAt_0 rfl rfl ?_
  refine J.getI (pc := 1) C fl_RX5_16 rfl dX5_positionAt_1 ?_
  refine J.aload_n (pc := 4) C (x := a0) dX5_positionAt_4 rfl rfl ?_
  refine J.getI (pc := 5) C fl_RX5_19 rfl dX5_positionAt_5 ?_
  refine J.iload_n (pc := 8) C dX5_positionAt_8 rfl rfl ?_
  refine J.imul (pc := 9) C dX5_positionAt_9 ?_
  refine J.iadd (pc := 10) C dX5_positionAt_10 ?_
  exact J.iret (pc := 11) C rfl rfl ⟨Nat.le_refl _, Nat.le_refl _⟩ dX5_positionAt_11
abbrev rm_X7_columnsCovered : Room := { frames := 1, cells := 0, slots := 0, locals := 22 }
def f_X7_columnsCovered (a0 : Int32) (a1 : Int32) : Option Int32 :=
  (bnd (f_J9_floorDiv_7cf53 (a0 + 49) 100) fun r1 =>
  (bnd (f_J9_min_7cf53 16 r1) fun r2 =>
  (bnd (f_J9_max_7cf53 0 r2) fun r3 =>
  (bnd (f_J9_floorDiv_7cf53 ((a0 + a1) + 49) 100) fun r4 =>
  (bnd (f_J9_min_7cf53 16 r4) fun r5 =>
  (bnd (f_J9_max_7cf53 0 r5) fun r6 =>
  (some ((1 <<< (r6 &&& 31)) - (1 <<< (r3 &&& 31))))))))))
set_option maxRecDepth 100000 in
set_option maxHeartbeats 4000000 in
theorem c_X7_columnsCovered (l : Launch) (g : GG) (S : St) (a0 : Int32) (a1 : Int32) : Ct l yX7_columnsCovered cX7_columnsCovered 4 (some .int) rm_X7_columnsCovered g aI (pK S) [.int a0, .int a1] S (f_X7_columnsCovered a0 a1) := by
  refine Ct.mk (cf := cw (0, 0)) (by decide +kernel) (cat_i (cat_i cat_n)) (Nat.le_of_ble_eq_true rfl) rfl ?_
  intro X hXl hin C
  show J X g _ _ 0 [(0, .int a0), (1, .int a1)] [] S (f_X7_columnsCovered a0 a1)
  unfold f_X7_columnsCovered
  refine J.iconst (pc := 0) C dX7_columnsCovered_0 ki_0 ?_
  refine J.bipush (pc := 1) C dX7_columnsCovered_1 kb_16 ?_
  refine J.iload_n (pc := 3) C dX7_columnsCovered_3 rfl rfl ?_
  refine J.bipush (pc := 4) C dX7_columnsCovered_4 kb_49 ?_
  refine J.iadd (pc := 6) C dX7_columnsCovered_6 ?_
  refine J.bipush (pc := 7) C dX7_columnsCovered_7 kb_100 ?_
  refine J.sI (pc := 9) C ms_J9_floorDiv_7cf53 wm_RX7_302 (fun l => c_J9_floorDiv_7cf53 l g S (a0 + 49) 100) ⟨⟨Nat.zero_le _, Nat.zero_le _⟩, rfl, rfl⟩ rfl ⟨Nat.le_of_ble_eq_true rfl, Nat.le_of_ble_eq_true rfl⟩ rfl (ct_i (ct_i ct_n)) (Nat.le_of_ble_eq_true rfl) dX7_columnsCovered_9 (fun r1 => ?_)
  refine J.sI (pc := 12) C ms_J9_min_7cf53 wm_RX7_307 (fun l => c_J9_min_7cf53 l g S 16 r1) ⟨⟨Nat.zero_le _, Nat.zero_le _⟩, rfl, rfl⟩ rfl ⟨Nat.le_of_ble_eq_true rfl, Nat.le_of_ble_eq_true rfl⟩ rfl (ct_i ct_n) (Nat.le_of_ble_eq_true rfl) dX7_columnsCovered_12 (fun r2 => ?_)
  refine J.sI (pc := 15) C ms_J9_max_7cf53 wm_RX7_310 (fun l => c_J9_max_7cf53 l g S 0 r2) ⟨⟨Nat.zero_le _, Nat.zero_le _⟩, rfl, rfl⟩ rfl ⟨Nat.le_of_ble_eq_true rfl, Nat.le_of_ble_eq_true rfl⟩ rfl ct_n (Nat.le_of_ble_eq_true rfl) dX7_columnsCovered_15 (fun r3 => ?_)
  refine J.istore_n (pc := 18) C (lv' := [(0, .int a0), (1, .int a1), (2, .int r3)]) dX7_columnsCovered_18 rfl (Nat.le_of_ble_eq_true rfl) (lsf_i (lsf_i lsf_n)) rfl ?_
  refine J.iconst (pc := 19) C dX7_columnsCovered_19 ki_0 ?_
  refine J.bipush (pc := 20) C dX7_columnsCovered_20 kb_16 ?_
  refine J.iload_n (pc := 22) C dX7_columnsCovered_22 rfl rfl ?_
  refine J.iload_n (pc := 23) C dX7_columnsCovered_23 rfl rfl ?_
  refine J.iadd (pc := 24) C dX7_columnsCovered_24 ?_
  refine J.bipush (pc := 25) C dX7_columnsCovered_25 kb_49 ?_
  refine J.iadd (pc := 27) C dX7_columnsCovered_27 ?_
  refine J.bipush (pc := 28) C dX7_columnsCovered_28 kb_100 ?_
  refine J.sI (pc := 30) C ms_J9_floorDiv_7cf53 wm_RX7_302 (fun l => c_J9_floorDiv_7cf53 l g S ((a0 + a1) + 49) 100) ⟨⟨Nat.zero_le _, Nat.zero_le _⟩, rfl, rfl⟩ rfl ⟨Nat.le_of_ble_eq_true rfl, Nat.le_of_ble_eq_true rfl⟩ rfl (ct_i (ct_i ct_n)) (Nat.le_of_ble_eq_true rfl) dX7_columnsCovered_30 (fun r4 => ?_)
  refine J.sI (pc := 33) C ms_J9_min_7cf53 wm_RX7_307 (fun l => c_J9_min_7cf53 l g S 16 r4) ⟨⟨Nat.zero_le _, Nat.zero_le _⟩, rfl, rfl⟩ rfl ⟨Nat.le_of_ble_eq_true rfl, Nat.le_of_ble_eq_true rfl⟩ rfl (ct_i ct_n) (Nat.le_of_ble_eq_true rfl) dX7_columnsCovered_33 (fun r5 => ?_)
  refine J.sI (pc := 36) C ms_J9_max_7cf53 wm_RX7_310 (fun l => c_J9_max_7cf53 l g S 0 r5) ⟨⟨Nat.zero_le _, Nat.zero_le _⟩, rfl, rfl⟩ rfl ⟨Nat.le_of_ble_eq_true rfl, Nat.le_of_ble_eq_true rfl⟩ rfl ct_n (Nat.le_of_ble_eq_true rfl) dX7_columnsCovered_36 (fun r6 => ?_)
  refine J.istore_n (pc := 39) C (lv' := [(0, .int a0), (1, .int a1), (2, .int r3), (3, .int r6)]) dX7_columnsCovered_39 rfl (Nat.le_of_ble_eq_true rfl) (lsf_i (lsf_i (lsf_i lsf_n))) rfl ?_
  refine J.iconst (pc := 40) C dX7_columnsCovered_40 ki_1 ?_
  refine J.iload_n (pc := 41) C dX7_columnsCovered_41 rfl rfl ?_
  refine J.ishl (pc := 42) C dX7_columnsCovered_42 ?_
  refine J.iconst (pc := 43) C dX7_columnsCovered_43 ki_1 ?_
  refine J.iload_n (pc := 44) C dX7_columnsCovered_44 rfl rfl ?_
  refine J.ishl (pc := 45) C dX7_columnsCovered_45 ?_
  refine J.isub (pc := 46) C dX7_columnsCovered_46 ?_
  exact J.iret (pc := 47) C rfl rfl ⟨Nat.le_refl _, Nat.le_refl _⟩ dX7_columnsCovered_47
abbrev rm_X3_paint : Room := { frames := 2, cells := 0, slots := 0, locals := 45 }
def f_X3_paint_B10 (a0 : Nat) (a1 : Int32) (a2 : Int32) (a3 : Int32) (a4 : Int32) (a5 : Nat) (a6 : Int32) (kx10 : St → Option St) (k10 : St → Int32 → Option St) (S : St) (x7 : Int32) : Option St :=
  (chk (okc S 10 a5)
  (if (Int32.ofNat (ln a5)) ≤ x7 then
  (kx10 S)
  else (chk (inw S 10 a5 x7) (vlt (upI S a5 x7.toNatClampNeg a6) fun S_2 =>
  (k10 S_2 (x7 + 1))))))
set_option maxRecDepth 100000 in
set_option maxHeartbeats 4000000 in
theorem w_X3_paint_B10 {X : CT} {g : GG} (C : CX X g cX3_paint RX3 none 10 rm_X3_paint) (a0 : Nat) (a1 : Int32) (a2 : Int32) (a3 : Int32) (a4 : Int32) (a5 : Nat) (a6 : Int32) (kx10 : St → Option St) (hkx10 : ∀ (S : St), J X g (Qm X g aU pU) (cw (0, 0)) 31 [(0, rv g a0), (1, .int a1), (2, .int a2), (3, .int a3), (4, .int a4), (5, rv g a5)] [] S (kx10 S)) : ∀ (n : Nat) (S : St) (x7 : Int32), J X g (Qm X g aU pU) (cw (0, 0)) 10 [(0, rv g a0), (1, .int a1), (2, .int a2), (3, .int a3), (4, .int a4), (5, rv g a5), (6, .int a6), (7, .int x7)] [] S (wl2 (f_X3_paint_B10 a0 a1 a2 a3 a4 a5 a6 kx10) n S x7) := by
  refine J.loop2 (lvf := fun (S : St) (x7 : Int32) => [(0, rv g a0), (1, .int a1), (2, .int a2), (3, .int a3), (4, .int a4), (5, rv g a5), (6, .int a6), (7, .int x7)]) (Sf := fun (S : St) (x7 : Int32) => S) ?_
  intro k10 hk10 S x7
  show J X g _ _ 10 [(0, rv g a0), (1, .int a1), (2, .int a2), (3, .int a3), (4, .int a4), (5, rv g a5), (6, .int a6), (7, .int x7)] [] S (f_X3_paint_B10 a0 a1 a2 a3 a4 a5 a6 kx10 k10 S x7)
  unfold f_X3_paint_B10
  refine J.iload (pc := 10) C dX3_paint_10 rfl ?_
  refine J.aload (pc := 12) C (x := a5) dX3_paint_12 rfl ?_
  refine J.alen (pc := 14) C 10 (by decide) dX3_paint_14 ?_
  refine J.icmp_ge (pc := 15) C (tgt := 31) dX3_paint_15 rfl ?_ ?_
  · exact J.pick [0, 1, 2, 3, 4, 5] rfl (hkx10 _)
  · refine J.aload (pc := 18) C (x := a5) dX3_paint_18 rfl ?_
    refine J.iload (pc := 20) C dX3_paint_20 rfl ?_
    refine J.iload (pc := 22) C dX3_paint_22 rfl ?_
    refine J.iasts (pc := 24) C dX3_paint_24 (fun S_2 => ?_)
    refine J.iinc (pc := 25) C (lv' := [(0, rv g a0), (1, .int a1), (2, .int a2), (3, .int a3), (4, .int a4), (5, rv g a5), (6, .int a6), (7, .int (x7 + 1))]) dX3_paint_25 rfl (Nat.le_of_ble_eq_true rfl) (lsf_r (lsf_i (lsf_i (lsf_i (lsf_i (lsf_r (lsf_i (lsf_i lsf_n)))))))) ki_1 rfl ?_
    refine J.goto (pc := 28) C (tgt := 10) dX3_paint_28 rfl ?_
    exact (hk10 _ _)
def f_X3_paint_J90 (S : St) (a0 : Nat) (a1 : Int32) (a2 : Int32) (a3 : Int32) (a4 : Int32) (a5 : Nat) (kx34 : St → Option St) (k34 : St → Int32 → Option St) (x7 : Int32) (x8 : Nat) (t0 : Int32) : Option St :=
  (chk (okc S 5 x8)
  (chk (okc S 3 a0) (bnd (f_X3_paintOver S a0 a5 t0 (S.1 x8 5)) fun S_8 =>
  (k34 S_8 (x7 + 1)))))
set_option maxRecDepth 100000 in
set_option maxHeartbeats 4000000 in
theorem w_X3_paint_J90 {X : CT} {g : GG} (C : CX X g cX3_paint RX3 none 10 rm_X3_paint) (S : St) (a0 : Nat) (a1 : Int32) (a2 : Int32) (a3 : Int32) (a4 : Int32) (a5 : Nat) (kx34 : St → Option St) (k34 : St → Int32 → Option St) (x7 : Int32) (x8 : Nat) (t0 : Int32) (hkx34 : ∀ (S : St), J X g (Qm X g aU pU) (cw (0, 0)) 111 [] [] S (kx34 S)) (hk34 : ∀ (S : St) (x7 : Int32), J X g (Qm X g aU pU) (cw (0, 0)) 34 [(0, rv g a0), (1, .int a1), (2, .int a2), (3, .int a3), (4, .int a4), (5, rv g a5), (7, .int x7)] [] S (k34 S x7)) : J X g (Qm X g aU pU) (cw (0, 0)) 90 [(0, rv g a0), (1, .int a1), (2, .int a2), (3, .int a3), (4, .int a4), (5, rv g a5), (7, .int x7), (8, rv g x8)] [.int t0] S (f_X3_paint_J90 S a0 a1 a2 a3 a4 a5 kx34 k34 x7 x8 t0) := by
  unfold f_X3_paint_J90
  refine J.istore (pc := 90) C (lv' := [(0, rv g a0), (1, .int a1), (2, .int a2), (3, .int a3), (4, .int a4), (5, rv g a5), (7, .int x7), (8, rv g x8), (9, .int t0)]) dX3_paint_90 (Nat.le_of_ble_eq_true rfl) (lsf_r (lsf_i (lsf_i (lsf_i (lsf_i (lsf_r (lsf_i (lsf_r lsf_n)))))))) rfl ?_
  refine J.aload_n (pc := 92) C (x := a0) dX3_paint_92 rfl rfl ?_
  refine J.aload (pc := 93) C (x := a5) dX3_paint_93 rfl ?_
  refine J.iload (pc := 95) C dX3_paint_95 rfl ?_
  refine J.aload (pc := 97) C (x := x8) dX3_paint_97 rfl ?_
  refine J.getI (pc := 99) C fl_RX3_95 rfl dX3_paint_99 ?_
  refine J.vU (pc := 102) C mv_X3_paintOver wm_RX3_146 (fun l => c_X3_paintOver l g S a0 a5 t0 (S.1 x8 5)) ⟨⟨Nat.zero_le _, Nat.zero_le _⟩, rfl, rfl⟩ rfl ⟨Nat.le_of_ble_eq_true rfl, Nat.le_of_ble_eq_true rfl⟩ rfl ct_n (Nat.le_of_ble_eq_true rfl) dX3_paint_102 (fun S_8 => ?_)
  refine J.iinc (pc := 105) C (lv' := [(0, rv g a0), (1, .int a1), (2, .int a2), (3, .int a3), (4, .int a4), (5, rv g a5), (7, .int (x7 + 1)), (8, rv g x8), (9, .int t0)]) dX3_paint_105 rfl (Nat.le_of_ble_eq_true rfl) (lsf_r (lsf_i (lsf_i (lsf_i (lsf_i (lsf_r (lsf_i (lsf_r (lsf_i lsf_n))))))))) ki_1 rfl ?_
  refine J.goto (pc := 108) C (tgt := 34) dX3_paint_108 rfl ?_
  exact J.pick [0, 1, 2, 3, 4, 5, 6] rfl (hk34 _ _)
def f_X3_paint_B34 (a0 : Nat) (a1 : Int32) (a2 : Int32) (a3 : Int32) (a4 : Int32) (a5 : Nat) (kx34 : St → Option St) (k34 : St → Int32 → Option St) (S : St) (x7 : Int32) : Option St :=
  (chk (okc S 3 a0)
  (if (S.1 a0 2) ≤ x7 then
  (kx34 S)
  else (chk (okc S 3 a0) (bnd (f_X3_thingAt S a0 x7) fun r4 =>
  (if r4 = 0 then
  (k34 S (x7 + 1))
  else (chk (okc S 5 r4) (bnd (f_X5_isIn S r4 a1) fun r5 =>
  (if r5 = 0 then
  (k34 S (x7 + 1))
  else (if x7 = a3 then
  (f_X3_paint_J90 S a0 a1 a2 a3 a4 a5 kx34 k34 x7 r4 a4)
  else (chk (okc S 5 r4) (bnd (f_X5_positionAt S r4 a2) fun r6 =>
  (chk (okc S 5 r4)
  (bnd (f_X7_columnsCovered r6 (S.1 r4 4)) fun r7 =>
  (f_X3_paint_J90 S a0 a1 a2 a3 a4 a5 kx34 k34 x7 r4 r7))))))))))))))
set_option maxRecDepth 100000 in
set_option maxHeartbeats 4000000 in
theorem w_X3_paint_B34 {X : CT} {g : GG} (C : CX X g cX3_paint RX3 none 10 rm_X3_paint) (a0 : Nat) (a1 : Int32) (a2 : Int32) (a3 : Int32) (a4 : Int32) (a5 : Nat) (kx34 : St → Option St) (hkx34 : ∀ (S : St), J X g (Qm X g aU pU) (cw (0, 0)) 111 [] [] S (kx34 S)) : ∀ (n : Nat) (S : St) (x7 : Int32), J X g (Qm X g aU pU) (cw (0, 0)) 34 [(0, rv g a0), (1, .int a1), (2, .int a2), (3, .int a3), (4, .int a4), (5, rv g a5), (7, .int x7)] [] S (wl2 (f_X3_paint_B34 a0 a1 a2 a3 a4 a5 kx34) n S x7) := by
  refine J.loop2 (lvf := fun (S : St) (x7 : Int32) => [(0, rv g a0), (1, .int a1), (2, .int a2), (3, .int a3), (4, .int a4), (5, rv g a5), (7, .int x7)]) (Sf := fun (S : St) (x7 : Int32) => S) ?_
  intro k34 hk34 S x7
  show J X g _ _ 34 [(0, rv g a0), (1, .int a1), (2, .int a2), (3, .int a3), (4, .int a4), (5, rv g a5), (7, .int x7)] [] S (f_X3_paint_B34 a0 a1 a2 a3 a4 a5 kx34 k34 S x7)
  unfold f_X3_paint_B34
  refine J.iload (pc := 34) C dX3_paint_34 rfl ?_
  refine J.aload_n (pc := 36) C (x := a0) dX3_paint_36 rfl rfl ?_
  refine J.getI (pc := 37) C fl_RX3_56 rfl dX3_paint_37 ?_
  refine J.icmp_ge (pc := 40) C (tgt := 111) dX3_paint_40 rfl ?_ ?_
  · exact J.pick [] rfl (hkx34 _)
  · refine J.aload_n (pc := 43) C (x := a0) dX3_paint_43 rfl rfl ?_
    refine J.iload (pc := 44) C dX3_paint_44 rfl ?_
    refine J.vR (pc := 46) C mv_X3_thingAt wm_RX3_59 (fun l => c_X3_thingAt l g S a0 x7) ⟨⟨Nat.zero_le _, Nat.zero_le _⟩, rfl, rfl⟩ rfl ⟨Nat.le_of_ble_eq_true rfl, Nat.le_of_ble_eq_true rfl⟩ rfl ct_n (Nat.le_of_ble_eq_true rfl) dX3_paint_46 (fun r4 => ?_)
    refine J.astore (pc := 49) C (lv' := [(0, rv g a0), (1, .int a1), (2, .int a2), (3, .int a3), (4, .int a4), (5, rv g a5), (7, .int x7), (8, rv g r4)]) dX3_paint_49 (Nat.le_of_ble_eq_true rfl) (lsf_r (lsf_i (lsf_i (lsf_i (lsf_i (lsf_r (lsf_i lsf_n))))))) rfl ?_
    refine J.aload (pc := 51) C (x := r4) dX3_paint_51 rfl ?_
    refine J.ifnull (pc := 53) C (tgt := 105) dX3_paint_53 rfl ?_ ?_
    · refine J.iinc (pc := 105) C (lv' := [(0, rv g a0), (1, .int a1), (2, .int a2), (3, .int a3), (4, .int a4), (5, rv g a5), (7, .int (x7 + 1)), (8, rv g r4)]) dX3_paint_105 rfl (Nat.le_of_ble_eq_true rfl) (lsf_r (lsf_i (lsf_i (lsf_i (lsf_i (lsf_r (lsf_i (lsf_r lsf_n)))))))) ki_1 rfl ?_
      refine J.goto (pc := 108) C (tgt := 34) dX3_paint_108 rfl ?_
      exact J.pick [0, 1, 2, 3, 4, 5, 6] rfl (hk34 _ _)
    · refine J.aload (pc := 56) C (x := r4) dX3_paint_56 rfl ?_
      refine J.iload_n (pc := 58) C dX3_paint_58 rfl rfl ?_
      refine J.vI (pc := 59) C mv_X5_isIn wm_RX3_135 (fun l => c_X5_isIn l g S r4 a1) ⟨⟨Nat.zero_le _, Nat.zero_le _⟩, rfl, rfl⟩ rfl ⟨Nat.le_of_ble_eq_true rfl, Nat.le_of_ble_eq_true rfl⟩ rfl ct_n (Nat.le_of_ble_eq_true rfl) dX3_paint_59 (fun r5 => ?_)
      refine J.if_eq (pc := 62) C (tgt := 105) dX3_paint_62 rfl ?_ ?_
      · refine J.iinc (pc := 105) C (lv' := [(0, rv g a0), (1, .int a1), (2, .int a2), (3, .int a3), (4, .int a4), (5, rv g a5), (7, .int (x7 + 1)), (8, rv g r4)]) dX3_paint_105 rfl (Nat.le_of_ble_eq_true rfl) (lsf_r (lsf_i (lsf_i (lsf_i (lsf_i (lsf_r (lsf_i (lsf_r lsf_n)))))))) ki_1 rfl ?_
        refine J.goto (pc := 108) C (tgt := 34) dX3_paint_108 rfl ?_
        exact J.pick [0, 1, 2, 3, 4, 5, 6] rfl (hk34 _ _)
      · refine J.iload (pc := 65) C dX3_paint_65 rfl ?_
        refine J.iload_n (pc := 67) C dX3_paint_67 rfl rfl ?_
        refine J.icmp_ne (pc := 68) C (tgt := 76) dX3_paint_68 rfl ?_ ?_
        · refine J.aload (pc := 76) C (x := r4) dX3_paint_76 rfl ?_
          refine J.iload_n (pc := 78) C dX3_paint_78 rfl rfl ?_
          refine J.vI (pc := 79) C mv_X5_positionAt wm_RX3_139 (fun l => c_X5_positionAt l g S r4 a2) ⟨⟨Nat.zero_le _, Nat.zero_le _⟩, rfl, rfl⟩ rfl ⟨Nat.le_of_ble_eq_true rfl, Nat.le_of_ble_eq_true rfl⟩ rfl ct_n (Nat.le_of_ble_eq_true rfl) dX3_paint_79 (fun r6 => ?_)
          refine J.aload (pc := 82) C (x := r4) dX3_paint_82 rfl ?_
          refine J.getI (pc := 84) C fl_RX3_92 rfl dX3_paint_84 ?_
          refine J.snI (pc := 87) C ms_X7_columnsCovered wn_RX3_142 (fun l => c_X7_columnsCovered l g S r6 (S.1 r4 4)) ⟨⟨Nat.zero_le _, Nat.zero_le _⟩, rfl, rfl⟩ rfl ⟨Nat.le_of_ble_eq_true rfl, Nat.le_of_ble_eq_true rfl⟩ rfl ct_n (Nat.le_of_ble_eq_true rfl) dX3_paint_87 (fun r7 => ?_)
          exact (w_X3_paint_J90 C _ _ _ _ _ _ _ _ _ _ _ _ hkx34 hk34)
        · refine J.iload (pc := 71) C dX3_paint_71 rfl ?_
          refine J.goto (pc := 73) C (tgt := 90) dX3_paint_73 rfl ?_
          exact (w_X3_paint_J90 C _ _ _ _ _ _ _ _ _ _ _ _ hkx34 hk34)
def f_X3_paint (S : St) (a0 : Nat) (a1 : Int32) (a2 : Int32) (a3 : Int32) (a4 : Int32) (a5 : Nat) : Option St :=
  (chk (okc S 3 a0) (bnd (f_X3_setting S a0 4) fun r1 =>
  (wl2 (f_X3_paint_B10 a0 a1 a2 a3 a4 a5 r1 (fun (S_3 : St) => (wl2 (f_X3_paint_B34 a0 a1 a2 a3 a4 a5 (fun (S_9 : St) => (some S_9))) FU S_3 0))) FU S 0)))
set_option maxRecDepth 100000 in
set_option maxHeartbeats 4000000 in
theorem c_X3_paint (l : Launch) (g : GG) (S : St) (a0 : Nat) (a1 : Int32) (a2 : Int32) (a3 : Int32) (a4 : Int32) (a5 : Nat) : Ct l yX3_paint cX3_paint 10 none rm_X3_paint g aU pU [rv g a0, .int a1, .int a2, .int a3, .int a4, rv g a5] S (f_X3_paint S a0 a1 a2 a3 a4 a5) := by
  refine Ct.mk (cf := cw (0, 0)) (by decide +kernel) (cat_r (cat_i (cat_i (cat_i (cat_i (cat_r cat_n)))))) (Nat.le_of_ble_eq_true rfl) rfl ?_
  intro X hXl hin C
  show J X g _ _ 0 [(0, rv g a0), (1, .int a1), (2, .int a2), (3, .int a3), (4, .int a4), (5, rv g a5)] [] S (f_X3_paint S a0 a1 a2 a3 a4 a5)
  unfold f_X3_paint
  refine J.aload_n (pc := 0) C (x := a0) dX3_paint_0 rfl rfl ?_
  refine J.iconst (pc := 1) C dX3_paint_1 ki_4 ?_
  refine J.vI (pc := 2) C mv_X3_setting wm_RX3_106 (fun l => c_X3_setting l g S a0 4) ⟨⟨Nat.zero_le _, Nat.zero_le _⟩, rfl, rfl⟩ rfl ⟨Nat.le_of_ble_eq_true rfl, Nat.le_of_ble_eq_true rfl⟩ rfl ct_n (Nat.le_of_ble_eq_true rfl) dX3_paint_2 (fun r1 => ?_)
  refine J.istore (pc := 5) C (lv' := [(0, rv g a0), (1, .int a1), (2, .int a2), (3, .int a3), (4, .int a4), (5, rv g a5), (6, .int r1)]) dX3_paint_5 (Nat.le_of_ble_eq_true rfl) (lsf_r (lsf_i (lsf_i (lsf_i (lsf_i (lsf_r lsf_n)))))) rfl ?_
  refine J.iconst (pc := 7) C dX3_paint_7 ki_0 ?_
  refine J.istore (pc := 8) C (lv' := [(0, rv g a0), (1, .int a1), (2, .int a2), (3, .int a3), (4, .int a4), (5, rv g a5), (6, .int r1), (7, .int 0)]) dX3_paint_8 (Nat.le_of_ble_eq_true rfl) (lsf_r (lsf_i (lsf_i (lsf_i (lsf_i (lsf_r (lsf_i lsf_n))))))) rfl ?_
  refine w_X3_paint_B10 C _ _ _ _ _ _ _ _ (fun S_3 => ?_) FU _ _
  refine J.iconst (pc := 31) C dX3_paint_31 ki_0 ?_
  refine J.istore (pc := 32) C (lv' := [(0, rv g a0), (1, .int a1), (2, .int a2), (3, .int a3), (4, .int a4), (5, rv g a5), (7, .int 0)]) dX3_paint_32 (Nat.le_of_ble_eq_true rfl) (lsf_r (lsf_i (lsf_i (lsf_i (lsf_i (lsf_r lsf_n)))))) rfl ?_
  refine w_X3_paint_B34 C _ _ _ _ _ _ _ (fun S_9 => ?_) FU _ _
  exact J.vret (pc := 111) C rfl rfl ⟨Nat.le_refl _, Nat.le_refl _⟩ dX3_paint_111
abbrev rm_X7_dimmed : Room := { frames := 0, cells := 0, slots := 0, locals := 0 }
def f_X7_dimmed (a0 : Int32) (a1 : Int32) : Option Int32 :=
  (chk (¬ (100 : Int32) = 0)
  (some ((a0 * a1) / 100)))
set_option maxRecDepth 100000 in
set_option maxHeartbeats 4000000 in
theorem c_X7_dimmed (l : Launch) (g : GG) (S : St) (a0 : Int32) (a1 : Int32) : Ct l yX7_dimmed cX7_dimmed 2 (some .int) rm_X7_dimmed g aI (pK S) [.int a0, .int a1] S (f_X7_dimmed a0 a1) := by
  refine Ct.mk (cf := cw (0, 0)) (by decide +kernel) (cat_i (cat_i cat_n)) (Nat.le_of_ble_eq_true rfl) rfl ?_
  intro X hXl hin C
  show J X g _ _ 0 [(0, .int a0), (1, .int a1)] [] S (f_X7_dimmed a0 a1)
  unfold f_X7_dimmed
  refine J.iload_n (pc := 0) C dX7_dimmed_0 rfl rfl ?_
  refine J.iload_n (pc := 1) C dX7_dimmed_1 rfl rfl ?_
  refine J.imul (pc := 2) C dX7_dimmed_2 ?_
  refine J.bipush (pc := 3) C dX7_dimmed_3 kb_100 ?_
  refine J.idiv (pc := 5) C dX7_dimmed_5 ?_
  exact J.iret (pc := 6) C rfl rfl ⟨Nat.le_refl _, Nat.le_refl _⟩ dX7_dimmed_6
abbrev rm_X7_rowFits : Room := { frames := 3, cells := 0, slots := 0, locals := 74 }
def f_X7_rowFits_B26 (S : St) (a0 : Nat) (a1 : Nat) (a2 : Int32) (a3 : Int32) (kx26 : Option (Int32 × St)) (k26 : Int32 → Option (Int32 × St)) (x4 : Int32) : Option (Int32 × St) :=
  (chk (okc S 7 a0)
  (chk (okc S 3 (S.2.1 a0 0)) (bnd (f_X3_setting S (S.2.1 a0 0) 1) fun r3 =>
  (if r3 ≤ x4 then
  kx26
  else (chk (okc S 0 a1) (bnd (f_X0_pixelAt S a1 a2 x4) fun r4 =>
  (chk (okc S 7 a0)
  (bnd (f_X7_numberIn S (S.2.1 a0 7) x4) fun r5 =>
  (bnd (f_X7_dimmed r5 a3) fun r6 =>
  (if r4 = r6 then
  (k26 (x4 + 1))
  else (some (0, S))))))))))))
set_option maxRecDepth 100000 in
set_option maxHeartbeats 4000000 in
theorem w_X7_rowFits_B26 {X : CT} {g : GG} (C : CX X g cX7_rowFits RX7 (some .boolean) 5 rm_X7_rowFits) (S : St) (a0 : Nat) (a1 : Nat) (a2 : Int32) (a3 : Int32) (kx26 : Option (Int32 × St)) (hkx26 : J X g (Qm X g aW pW) (cw (0, 0)) 70 [] [] S (kx26)) : ∀ (n : Nat) (x4 : Int32), J X g (Qm X g aW pW) (cw (0, 0)) 26 [(0, rv g a0), (1, rv g a1), (2, .int a2), (3, .int a3), (4, .int x4)] [] S (wl1 (f_X7_rowFits_B26 S a0 a1 a2 a3 kx26) n x4) := by
  refine J.loop1 (lvf := fun (x4 : Int32) => [(0, rv g a0), (1, rv g a1), (2, .int a2), (3, .int a3), (4, .int x4)]) (Sf := fun (x4 : Int32) => S) ?_
  intro k26 hk26 x4
  show J X g _ _ 26 [(0, rv g a0), (1, rv g a1), (2, .int a2), (3, .int a3), (4, .int x4)] [] S (f_X7_rowFits_B26 S a0 a1 a2 a3 kx26 k26 x4)
  unfold f_X7_rowFits_B26
  refine J.iload (pc := 26) C dX7_rowFits_26 rfl ?_
  refine J.aload_n (pc := 28) C (x := a0) dX7_rowFits_28 rfl rfl ?_
  refine J.getR (pc := 29) C fl_RX7_12 rfl dX7_rowFits_29 ?_
  refine J.iconst (pc := 32) C dX7_rowFits_32 ki_1 ?_
  refine J.vI (pc := 33) C mv_X3_setting wm_RX7_78 (fun l => c_X3_setting l g S (S.2.1 a0 0) 1) ⟨⟨Nat.zero_le _, Nat.zero_le _⟩, rfl, rfl⟩ rfl ⟨Nat.le_of_ble_eq_true rfl, Nat.le_of_ble_eq_true rfl⟩ rfl (ct_i ct_n) (Nat.le_of_ble_eq_true rfl) dX7_rowFits_33 (fun r3 => ?_)
  refine J.icmp_ge (pc := 36) C (tgt := 70) dX7_rowFits_36 rfl ?_ ?_
  · exact J.pick [] rfl hkx26
  · refine J.aload_n (pc := 39) C (x := a1) dX7_rowFits_39 rfl rfl ?_
    refine J.iload_n (pc := 40) C dX7_rowFits_40 rfl rfl ?_
    refine J.iload (pc := 41) C dX7_rowFits_41 rfl ?_
    refine J.vI (pc := 43) C mv_X0_pixelAt wm_RX7_164 (fun l => c_X0_pixelAt l g S a1 a2 x4) ⟨⟨Nat.zero_le _, Nat.zero_le _⟩, rfl, rfl⟩ rfl ⟨Nat.le_of_ble_eq_true rfl, Nat.le_of_ble_eq_true rfl⟩ rfl ct_n (Nat.le_of_ble_eq_true rfl) dX7_rowFits_43 (fun r4 => ?_)
    refine J.aload_n (pc := 46) C (x := a0) dX7_rowFits_46 rfl rfl ?_
    refine J.getR (pc := 47) C fl_RX7_52 rfl dX7_rowFits_47 ?_
    refine J.iload (pc := 50) C dX7_rowFits_50 rfl ?_
    refine J.sI (pc := 52) C ms_X7_numberIn wm_RX7_64 (fun l => c_X7_numberIn l g S (S.2.1 a0 7) x4) ⟨⟨Nat.zero_le _, Nat.zero_le _⟩, rfl, rfl⟩ rfl ⟨Nat.le_of_ble_eq_true rfl, Nat.le_of_ble_eq_true rfl⟩ rfl (ct_i ct_n) (Nat.le_of_ble_eq_true rfl) dX7_rowFits_52 (fun r5 => ?_)
    refine J.iload_n (pc := 55) C dX7_rowFits_55 rfl rfl ?_
    refine J.sI (pc := 56) C ms_X7_dimmed wm_RX7_141 (fun l => c_X7_dimmed l g S r5 a3) ⟨⟨Nat.zero_le _, Nat.zero_le _⟩, rfl, rfl⟩ rfl ⟨Nat.le_of_ble_eq_true rfl, Nat.le_of_ble_eq_true rfl⟩ rfl (ct_i ct_n) (Nat.le_of_ble_eq_true rfl) dX7_rowFits_56 (fun r6 => ?_)
    refine J.icmp_eq (pc := 59) C (tgt := 64) dX7_rowFits_59 rfl ?_ ?_
    · refine J.iinc (pc := 64) C (lv' := [(0, rv g a0), (1, rv g a1), (2, .int a2), (3, .int a3), (4, .int (x4 + 1))]) dX7_rowFits_64 rfl (Nat.le_of_ble_eq_true rfl) (lsf_r (lsf_r (lsf_i (lsf_i (lsf_i lsf_n))))) ki_1 rfl ?_
      refine J.goto (pc := 67) C (tgt := 26) dX7_rowFits_67 rfl ?_
      exact (hk26 _)
    · refine J.iconst (pc := 62) C dX7_rowFits_62 ki_0 ?_
      exact J.zret (pc := 63) C rfl rfl rfl ⟨Nat.le_refl _, Nat.le_refl _⟩ dX7_rowFits_63
def f_X7_rowFits (S : St) (a0 : Nat) (a1 : Nat) (a2 : Int32) (a3 : Int32) : Option (Int32 × St) :=
  (chk (okc S 7 a0)
  (chk (okc S 7 a0)
  (chk (okc S 3 (S.2.1 a0 0)) (bnd (f_X3_timeOfRow S (S.2.1 a0 0) a1 a2) fun r1 =>
  (chk (okc S 7 a0)
  (chk (okc S 3 (S.2.1 a0 0)) (bnd (f_X3_paint S (S.2.1 a0 0) a2 r1 (-1) 0 (S.2.1 a0 7)) fun S_2 =>
  (wl1 (f_X7_rowFits_B26 S_2 a0 a1 a2 a3 (some (1, S_2))) FU 0))))))))
set_option maxRecDepth 100000 in
set_option maxHeartbeats 4000000 in
theorem c_X7_rowFits (l : Launch) (g : GG) (S : St) (a0 : Nat) (a1 : Nat) (a2 : Int32) (a3 : Int32) : Ct l yX7_rowFits cX7_rowFits 5 (some .boolean) rm_X7_rowFits g aW pW [rv g a0, rv g a1, .int a2, .int a3] S (f_X7_rowFits S a0 a1 a2 a3) := by
  refine Ct.mk (cf := cw (0, 0)) (by decide +kernel) (cat_r (cat_r (cat_i (cat_i cat_n)))) (Nat.le_of_ble_eq_true rfl) rfl ?_
  intro X hXl hin C
  show J X g _ _ 0 [(0, rv g a0), (1, rv g a1), (2, .int a2), (3, .int a3)] [] S (f_X7_rowFits S a0 a1 a2 a3)
  unfold f_X7_rowFits
  refine J.aload_n (pc := 0) C (x := a0) dX7_rowFits_0 rfl rfl ?_
  refine J.getR (pc := 1) C fl_RX7_12 rfl dX7_rowFits_1 ?_
  refine J.iload_n (pc := 4) C dX7_rowFits_4 rfl rfl ?_
  refine J.aload_n (pc := 5) C (x := a0) dX7_rowFits_5 rfl rfl ?_
  refine J.getR (pc := 6) C fl_RX7_12 rfl dX7_rowFits_6 ?_
  refine J.aload_n (pc := 9) C (x := a1) dX7_rowFits_9 rfl rfl ?_
  refine J.iload_n (pc := 10) C dX7_rowFits_10 rfl rfl ?_
  refine J.vI (pc := 11) C mv_X3_timeOfRow wm_RX7_241 (fun l => c_X3_timeOfRow l g S (S.2.1 a0 0) a1 a2) ⟨⟨Nat.zero_le _, Nat.zero_le _⟩, rfl, rfl⟩ rfl ⟨Nat.le_of_ble_eq_true rfl, Nat.le_of_ble_eq_true rfl⟩ rfl (ct_i (ct_r ct_n)) (Nat.le_of_ble_eq_true rfl) dX7_rowFits_11 (fun r1 => ?_)
  refine J.iconst (pc := 14) C dX7_rowFits_14 ki_m1 ?_
  refine J.iconst (pc := 15) C dX7_rowFits_15 ki_0 ?_
  refine J.aload_n (pc := 16) C (x := a0) dX7_rowFits_16 rfl rfl ?_
  refine J.getR (pc := 17) C fl_RX7_52 rfl dX7_rowFits_17 ?_
  refine J.vU (pc := 20) C mv_X3_paint wm_RX7_134 (fun l => c_X3_paint l g S (S.2.1 a0 0) a2 r1 (-1) 0 (S.2.1 a0 7)) ⟨⟨Nat.zero_le _, Nat.zero_le _⟩, rfl, rfl⟩ rfl ⟨Nat.le_of_ble_eq_true rfl, Nat.le_of_ble_eq_true rfl⟩ rfl ct_n (Nat.le_of_ble_eq_true rfl) dX7_rowFits_20 (fun S_2 => ?_)
  refine J.iconst (pc := 23) C dX7_rowFits_23 ki_0 ?_
  refine J.istore (pc := 24) C (lv' := [(0, rv g a0), (1, rv g a1), (2, .int a2), (3, .int a3), (4, .int 0)]) dX7_rowFits_24 (Nat.le_of_ble_eq_true rfl) (lsf_r (lsf_r (lsf_i (lsf_i lsf_n)))) rfl ?_
  refine w_X7_rowFits_B26 C _ _ _ _ _ _ ?_ FU _
  refine J.iconst (pc := 70) C dX7_rowFits_70 ki_1 ?_
  exact J.zret (pc := 71) C rfl rfl rfl ⟨Nat.le_refl _, Nat.le_refl _⟩ dX7_rowFits_71
abbrev rm_X7_fitting : Room := { frames := 4, cells := 0, slots := 0, locals := 98 }
def f_X7_fitting_B21 (a0 : Nat) (a2 : Nat) (kx21 : St → Int32 → Option (Int32 × St)) (k21 : St → Int32 → Int32 → Option (Int32 × St)) (S : St) (x3 : Int32) (x4 : Int32) : Option (Int32 × St) :=
  (chk (okc S 7 a0)
  (chk (okc S 3 (S.2.1 a0 0)) (bnd (f_X3_setting S (S.2.1 a0 0) 0) fun r2 =>
  (if r2 ≤ x4 then
  (kx21 S x3)
  else (chk (okc S 7 a0)
  (chk (okc S 3 (S.2.1 a0 0)) (bnd (f_X3_timeOfRow S (S.2.1 a0 0) a2 x4) fun r3 =>
  (chk (okc S 0 a2)
  (bnd (f_X7_holds (S.1 a2 1) x4) fun r4 =>
  (if r4 = 0 then
  (chk (okc S 7 a0)
  (chk (okc S 3 (S.2.1 a0 0)) (bnd (f_X3_percentAt S (S.2.1 a0 0) r3) fun r5 =>
  (chk (okc S 7 a0) (bnd2 (f_X7_rowFits S a0 a2 x4 r5) fun r6 S_7 =>
  (if r6 = 0 then
  (k21 S_7 x3 (x4 + 1))
  else (k21 S_7 (x3 ||| (1 <<< (x4 &&& 31))) (x4 + 1))))))))
  else (k21 S x3 (x4 + 1))))))))))))
set_option maxRecDepth 100000 in
set_option maxHeartbeats 4000000 in
theorem w_X7_fitting_B21 {X : CT} {g : GG} (C : CX X g cX7_fitting RX7 (some .int) 6 rm_X7_fitting) (a0 : Nat) (a2 : Nat) (kx21 : St → Int32 → Option (Int32 × St)) (hkx21 : ∀ (S : St) (x3 : Int32), J X g (Qm X g aW pW) (cw (0, 0)) 90 [(3, .int x3)] [] S (kx21 S x3)) : ∀ (n : Nat) (S : St) (x3 : Int32) (x4 : Int32), J X g (Qm X g aW pW) (cw (0, 0)) 21 [(0, rv g a0), (2, rv g a2), (3, .int x3), (4, .int x4)] [] S (wl3 (f_X7_fitting_B21 a0 a2 kx21) n S x3 x4) := by
  refine J.loop3 (lvf := fun (S : St) (x3 : Int32) (x4 : Int32) => [(0, rv g a0), (2, rv g a2), (3, .int x3), (4, .int x4)]) (Sf := fun (S : St) (x3 : Int32) (x4 : Int32) => S) ?_
  intro k21 hk21 S x3 x4
  show J X g _ _ 21 [(0, rv g a0), (2, rv g a2), (3, .int x3), (4, .int x4)] [] S (f_X7_fitting_B21 a0 a2 kx21 k21 S x3 x4)
  unfold f_X7_fitting_B21
  refine J.iload (pc := 21) C dX7_fitting_21 rfl ?_
  refine J.aload_n (pc := 23) C (x := a0) dX7_fitting_23 rfl rfl ?_
  refine J.getR (pc := 24) C fl_RX7_12 rfl dX7_fitting_24 ?_
  refine J.iconst (pc := 27) C dX7_fitting_27 ki_0 ?_
  refine J.vI (pc := 28) C mv_X3_setting wm_RX7_78 (fun l => c_X3_setting l g S (S.2.1 a0 0) 0) ⟨⟨Nat.zero_le _, Nat.zero_le _⟩, rfl, rfl⟩ rfl ⟨Nat.le_of_ble_eq_true rfl, Nat.le_of_ble_eq_true rfl⟩ rfl (ct_i ct_n) (Nat.le_of_ble_eq_true rfl) dX7_fitting_28 (fun r2 => ?_)
  refine J.icmp_ge (pc := 31) C (tgt := 90) dX7_fitting_31 rfl ?_ ?_
  · exact J.pick [2] rfl (hkx21 _ _)
  · refine J.aload_n (pc := 34) C (x := a0) dX7_fitting_34 rfl rfl ?_
    refine J.getR (pc := 35) C fl_RX7_12 rfl dX7_fitting_35 ?_
    refine J.aload_n (pc := 38) C (x := a2) dX7_fitting_38 rfl rfl ?_
    refine J.iload (pc := 39) C dX7_fitting_39 rfl ?_
    refine J.vI (pc := 41) C mv_X3_timeOfRow wm_RX7_241 (fun l => c_X3_timeOfRow l g S (S.2.1 a0 0) a2 x4) ⟨⟨Nat.zero_le _, Nat.zero_le _⟩, rfl, rfl⟩ rfl ⟨Nat.le_of_ble_eq_true rfl, Nat.le_of_ble_eq_true rfl⟩ rfl ct_n (Nat.le_of_ble_eq_true rfl) dX7_fitting_41 (fun r3 => ?_)
    refine J.istore (pc := 44) C (lv' := [(0, rv g a0), (2, rv g a2), (3, .int x3), (4, .int x4), (5, .int r3)]) dX7_fitting_44 (Nat.le_of_ble_eq_true rfl) (lsf_r (lsf_r (lsf_i (lsf_i lsf_n)))) rfl ?_
    refine J.aload_n (pc := 46) C (x := a2) dX7_fitting_46 rfl rfl ?_
    refine J.getI (pc := 47) C fl_RX7_158 rfl dX7_fitting_47 ?_
    refine J.iload (pc := 50) C dX7_fitting_50 rfl ?_
    refine J.sI (pc := 52) C ms_X7_holds wm_RX7_122 (fun l => c_X7_holds l g S (S.1 a2 1) x4) ⟨⟨Nat.zero_le _, Nat.zero_le _⟩, rfl, rfl⟩ rfl ⟨Nat.le_of_ble_eq_true rfl, Nat.le_of_ble_eq_true rfl⟩ rfl ct_n (Nat.le_of_ble_eq_true rfl) dX7_fitting_52 (fun r4 => ?_)
    refine J.if_ne (pc := 55) C (tgt := 84) dX7_fitting_55 rfl ?_ ?_
    · refine J.iinc (pc := 84) C (lv' := [(0, rv g a0), (2, rv g a2), (3, .int x3), (4, .int (x4 + 1)), (5, .int r3)]) dX7_fitting_84 rfl (Nat.le_of_ble_eq_true rfl) (lsf_r (lsf_r (lsf_i (lsf_i (lsf_i lsf_n))))) ki_1 rfl ?_
      refine J.goto (pc := 87) C (tgt := 21) dX7_fitting_87 rfl ?_
      exact J.pick [0, 1, 2, 3] rfl (hk21 _ _ _)
    · refine J.aload_n (pc := 58) C (x := a0) dX7_fitting_58 rfl rfl ?_
      refine J.aload_n (pc := 59) C (x := a2) dX7_fitting_59 rfl rfl ?_
      refine J.iload (pc := 60) C dX7_fitting_60 rfl ?_
      refine J.aload_n (pc := 62) C (x := a0) dX7_fitting_62 rfl rfl ?_
      refine J.getR (pc := 63) C fl_RX7_12 rfl dX7_fitting_63 ?_
      refine J.iload (pc := 66) C dX7_fitting_66 rfl ?_
      refine J.vI (pc := 68) C mv_X3_percentAt wm_RX7_138 (fun l => c_X3_percentAt l g S (S.2.1 a0 0) r3) ⟨⟨Nat.zero_le _, Nat.zero_le _⟩, rfl, rfl⟩ rfl ⟨Nat.le_of_ble_eq_true rfl, Nat.le_of_ble_eq_true rfl⟩ rfl (ct_i (ct_r (ct_r ct_n))) (Nat.le_of_ble_eq_true rfl) dX7_fitting_68 (fun r5 => ?_)
      refine J.vW (pc := 71) C mv_X7_rowFits wm_RX7_244 (fun l => c_X7_rowFits l g S a0 a2 x4 r5) ⟨⟨Nat.zero_le _, Nat.zero_le _⟩, rfl, rfl⟩ rfl ⟨Nat.le_of_ble_eq_true rfl, Nat.le_of_ble_eq_true rfl⟩ rfl ct_n (Nat.le_of_ble_eq_true rfl) dX7_fitting_71 (fun r6 S_7 => ?_)
      refine J.if_eq (pc := 74) C (tgt := 84) dX7_fitting_74 rfl ?_ ?_
      · refine J.iinc (pc := 84) C (lv' := [(0, rv g a0), (2, rv g a2), (3, .int x3), (4, .int (x4 + 1)), (5, .int r3)]) dX7_fitting_84 rfl (Nat.le_of_ble_eq_true rfl) (lsf_r (lsf_r (lsf_i (lsf_i (lsf_i lsf_n))))) ki_1 rfl ?_
        refine J.goto (pc := 87) C (tgt := 21) dX7_fitting_87 rfl ?_
        exact J.pick [0, 1, 2, 3] rfl (hk21 _ _ _)
      · refine J.iload_n (pc := 77) C dX7_fitting_77 rfl rfl ?_
        refine J.iconst (pc := 78) C dX7_fitting_78 ki_1 ?_
        refine J.iload (pc := 79) C dX7_fitting_79 rfl ?_
        refine J.ishl (pc := 81) C dX7_fitting_81 ?_
        refine J.ior (pc := 82) C dX7_fitting_82 ?_
        refine J.istore_n (pc := 83) C (lv' := [(0, rv g a0), (2, rv g a2), (3, .int (x3 ||| (1 <<< (x4 &&& 31)))), (4, .int x4), (5, .int r3)]) dX7_fitting_83 rfl (Nat.le_of_ble_eq_true rfl) (lsf_r (lsf_r (lsf_i (lsf_i (lsf_i lsf_n))))) rfl ?_
        refine J.iinc (pc := 84) C (lv' := [(0, rv g a0), (2, rv g a2), (3, .int (x3 ||| (1 <<< (x4 &&& 31)))), (4, .int (x4 + 1)), (5, .int r3)]) dX7_fitting_84 rfl (Nat.le_of_ble_eq_true rfl) (lsf_r (lsf_r (lsf_i (lsf_i (lsf_i lsf_n))))) ki_1 rfl ?_
        refine J.goto (pc := 87) C (tgt := 21) dX7_fitting_87 rfl ?_
        exact J.pick [0, 1, 2, 3] rfl (hk21 _ _ _)
def f_X7_fitting (S : St) (a0 : Nat) (a1 : Int32) : Option (Int32 × St) :=
  (chk (okc S 7 a0)
  (chk (okc S 3 (S.2.1 a0 0)) (bnd (f_X3_frameAt S (S.2.1 a0 0) a1) fun r1 =>
  (if r1 = 0 then
  (some ((-10000001), S))
  else (wl3 (f_X7_fitting_B21 a0 r1 (fun (S_9 : St) (y3_8 : Int32) => (some (y3_8, S_9)))) FU S 0 0)))))
set_option maxRecDepth 100000 in
set_option maxHeartbeats 4000000 in
theorem c_X7_fitting (l : Launch) (g : GG) (S : St) (a0 : Nat) (a1 : Int32) : Ct l yX7_fitting cX7_fitting 6 (some .int) rm_X7_fitting g aW pW [rv g a0, .int a1] S (f_X7_fitting S a0 a1) := by
  refine Ct.mk (cf := cw (0, 0)) (by decide +kernel) (cat_r (cat_i cat_n)) (Nat.le_of_ble_eq_true rfl) rfl ?_
  intro X hXl hin C
  show J X g _ _ 0 [(0, rv g a0), (1, .int a1)] [] S (f_X7_fitting S a0 a1)
  unfold f_X7_fitting
  refine J.aload_n (pc := 0) C (x := a0) dX7_fitting_0 rfl rfl ?_
  refine J.getR (pc := 1) C fl_RX7_12 rfl dX7_fitting_1 ?_
  refine J.iload_n (pc := 4) C dX7_fitting_4 rfl rfl ?_
  refine J.vR (pc := 5) C mv_X3_frameAt wm_RX7_149 (fun l => c_X3_frameAt l g S (S.2.1 a0 0) a1) ⟨⟨Nat.zero_le _, Nat.zero_le _⟩, rfl, rfl⟩ rfl ⟨Nat.le_of_ble_eq_true rfl, Nat.le_of_ble_eq_true rfl⟩ rfl ct_n (Nat.le_of_ble_eq_true rfl) dX7_fitting_5 (fun r1 => ?_)
  refine J.astore_n (pc := 8) C (lv' := [(0, rv g a0), (1, .int a1), (2, rv g r1)]) dX7_fitting_8 rfl (Nat.le_of_ble_eq_true rfl) (lsf_r (lsf_i lsf_n)) rfl ?_
  refine J.aload_n (pc := 9) C (x := r1) dX7_fitting_9 rfl rfl ?_
  refine J.ifnonnull (pc := 10) C (tgt := 16) dX7_fitting_10 rfl ?_ ?_
  · refine J.iconst (pc := 16) C dX7_fitting_16 ki_0 ?_
    refine J.istore_n (pc := 17) C (lv' := [(0, rv g a0), (1, .int a1), (2, rv g r1), (3, .int 0)]) dX7_fitting_17 rfl (Nat.le_of_ble_eq_true rfl) (lsf_r (lsf_i (lsf_r lsf_n))) rfl ?_
    refine J.iconst (pc := 18) C dX7_fitting_18 ki_0 ?_
    refine J.istore (pc := 19) C (lv' := [(0, rv g a0), (1, .int a1), (2, rv g r1), (3, .int 0), (4, .int 0)]) dX7_fitting_19 (Nat.le_of_ble_eq_true rfl) (lsf_r (lsf_i (lsf_r (lsf_i lsf_n)))) rfl ?_
    refine J.pick [0, 2, 3, 4] rfl ?_
    refine w_X7_fitting_B21 C _ _ _ (fun S_9 y3_8 => ?_) FU _ _ _
    refine J.iload_n (pc := 90) C dX7_fitting_90 rfl rfl ?_
    exact J.iret (pc := 91) C rfl rfl ⟨Nat.le_refl _, Nat.le_refl _⟩ dX7_fitting_91
  · refine J.ldc (pc := 13) C wc_RX7_60 dX7_fitting_13 ?_
    exact J.iret (pc := 15) C rfl rfl ⟨Nat.le_refl _, Nat.le_refl _⟩ dX7_fitting_15
abbrev rm_X3_edgesIn : Room := { frames := 2, cells := 0, slots := 0, locals := 43 }
def f_X3_edgesIn_B25 (S : St) (a0 : Nat) (a1 : Nat) (a2 : Int32) (a3 : Int32) (kx25 : Int32 → Option Int32) (k25 : Int32 → Int32 → Option Int32) (x4 : Int32) (x5 : Int32) : Option Int32 :=
  (chk (okc S 3 a0) (bnd (f_X3_setting S a0 1) fun r3 =>
  (if r3 ≤ x5 then
  (kx25 x4)
  else (chk (okc S 0 a1) (bnd (f_X0_pixelAt S a1 a2 x5) fun r4 =>
  (chk (okc S 0 a1) (bnd (f_X0_pixelAt S a1 a2 (x5 - 1)) fun r5 =>
  (bnd (f_J9_abs_0f7a4 (r4 - r5)) fun r6 =>
  (if r6 < a3 then
  (k25 x4 (x5 + 1))
  else (k25 (x4 ||| (1 <<< (x5 &&& 31))) (x5 + 1)))))))))))
set_option maxRecDepth 100000 in
set_option maxHeartbeats 4000000 in
theorem w_X3_edgesIn_B25 {X : CT} {g : GG} (C : CX X g cX3_edgesIn RX3 (some .int) 7 rm_X3_edgesIn) (S : St) (a0 : Nat) (a1 : Nat) (a2 : Int32) (a3 : Int32) (kx25 : Int32 → Option Int32) (hkx25 : ∀ (x4 : Int32), J X g (Qm X g aI (pK S)) (cw (0, 0)) 78 [(4, .int x4)] [] S (kx25 x4)) : ∀ (n : Nat) (x4 : Int32) (x5 : Int32), J X g (Qm X g aI (pK S)) (cw (0, 0)) 25 [(0, rv g a0), (1, rv g a1), (2, .int a2), (3, .int a3), (4, .int x4), (5, .int x5)] [] S (wl2 (f_X3_edgesIn_B25 S a0 a1 a2 a3 kx25) n x4 x5) := by
  refine J.loop2 (lvf := fun (x4 : Int32) (x5 : Int32) => [(0, rv g a0), (1, rv g a1), (2, .int a2), (3, .int a3), (4, .int x4), (5, .int x5)]) (Sf := fun (x4 : Int32) (x5 : Int32) => S) ?_
  intro k25 hk25 x4 x5
  show J X g _ _ 25 [(0, rv g a0), (1, rv g a1), (2, .int a2), (3, .int a3), (4, .int x4), (5, .int x5)] [] S (f_X3_edgesIn_B25 S a0 a1 a2 a3 kx25 k25 x4 x5)
  unfold f_X3_edgesIn_B25
  refine J.iload (pc := 25) C dX3_edgesIn_25 rfl ?_
  refine J.aload_n (pc := 27) C (x := a0) dX3_edgesIn_27 rfl rfl ?_
  refine J.iconst (pc := 28) C dX3_edgesIn_28 ki_1 ?_
  refine J.vI (pc := 29) C mv_X3_setting wm_RX3_106 (fun l => c_X3_setting l g S a0 1) ⟨⟨Nat.zero_le _, Nat.zero_le _⟩, rfl, rfl⟩ rfl ⟨Nat.le_of_ble_eq_true rfl, Nat.le_of_ble_eq_true rfl⟩ rfl (ct_i ct_n) (Nat.le_of_ble_eq_true rfl) dX3_edgesIn_29 (fun r3 => ?_)
  refine J.icmp_ge (pc := 32) C (tgt := 78) dX3_edgesIn_32 rfl ?_ ?_
  · exact J.pick [4] rfl (hkx25 _)
  · refine J.aload_n (pc := 35) C (x := a1) dX3_edgesIn_35 rfl rfl ?_
    refine J.iload_n (pc := 36) C dX3_edgesIn_36 rfl rfl ?_
    refine J.iload (pc := 37) C dX3_edgesIn_37 rfl ?_
    refine J.vI (pc := 39) C mv_X0_pixelAt wm_RX3_150 (fun l => c_X0_pixelAt l g S a1 a2 x5) ⟨⟨Nat.zero_le _, Nat.zero_le _⟩, rfl, rfl⟩ rfl ⟨Nat.le_of_ble_eq_true rfl, Nat.le_of_ble_eq_true rfl⟩ rfl ct_n (Nat.le_of_ble_eq_true rfl) dX3_edgesIn_39 (fun r4 => ?_)
    refine J.aload_n (pc := 42) C (x := a1) dX3_edgesIn_42 rfl rfl ?_
    refine J.iload_n (pc := 43) C dX3_edgesIn_43 rfl rfl ?_
    refine J.iload (pc := 44) C dX3_edgesIn_44 rfl ?_
    refine J.iconst (pc := 46) C dX3_edgesIn_46 ki_1 ?_
    refine J.isub (pc := 47) C dX3_edgesIn_47 ?_
    refine J.vI (pc := 48) C mv_X0_pixelAt wm_RX3_150 (fun l => c_X0_pixelAt l g S a1 a2 (x5 - 1)) ⟨⟨Nat.zero_le _, Nat.zero_le _⟩, rfl, rfl⟩ rfl ⟨Nat.le_of_ble_eq_true rfl, Nat.le_of_ble_eq_true rfl⟩ rfl (ct_i ct_n) (Nat.le_of_ble_eq_true rfl) dX3_edgesIn_48 (fun r5 => ?_)
    refine J.isub (pc := 51) C dX3_edgesIn_51 ?_
    refine J.istore (pc := 52) C (lv' := [(0, rv g a0), (1, rv g a1), (2, .int a2), (3, .int a3), (4, .int x4), (5, .int x5), (6, .int (r4 - r5))]) dX3_edgesIn_52 (Nat.le_of_ble_eq_true rfl) (lsf_r (lsf_r (lsf_i (lsf_i (lsf_i (lsf_i lsf_n)))))) rfl ?_
    refine J.iload (pc := 54) C dX3_edgesIn_54 rfl ?_
    refine J.sI (pc := 56) C ms_J9_abs_0f7a4 wm_RX3_153 (fun l => c_J9_abs_0f7a4 l g S (r4 - r5)) ⟨⟨Nat.zero_le _, Nat.zero_le _⟩, rfl, rfl⟩ rfl ⟨Nat.le_of_ble_eq_true rfl, Nat.le_of_ble_eq_true rfl⟩ rfl ct_n (Nat.le_of_ble_eq_true rfl) dX3_edgesIn_56 (fun r6 => ?_)
    refine J.iload_n (pc := 59) C dX3_edgesIn_59 rfl rfl ?_
    refine J.icmp_lt (pc := 60) C (tgt := 72) dX3_edgesIn_60 rfl ?_ ?_
    · refine J.iinc (pc := 72) C (lv' := [(0, rv g a0), (1, rv g a1), (2, .int a2), (3, .int a3), (4, .int x4), (5, .int (x5 + 1)), (6, .int (r4 - r5))]) dX3_edgesIn_72 rfl (Nat.le_of_ble_eq_true rfl) (lsf_r (lsf_r (lsf_i (lsf_i (lsf_i (lsf_i (lsf_i lsf_n))))))) ki_1 rfl ?_
      refine J.goto (pc := 75) C (tgt := 25) dX3_edgesIn_75 rfl ?_
      exact J.pick [0, 1, 2, 3, 4, 5] rfl (hk25 _ _)
    · refine J.iload (pc := 63) C dX3_edgesIn_63 rfl ?_
      refine J.iconst (pc := 65) C dX3_edgesIn_65 ki_1 ?_
      refine J.iload (pc := 66) C dX3_edgesIn_66 rfl ?_
      refine J.ishl (pc := 68) C dX3_edgesIn_68 ?_
      refine J.ior (pc := 69) C dX3_edgesIn_69 ?_
      refine J.istore (pc := 70) C (lv' := [(0, rv g a0), (1, rv g a1), (2, .int a2), (3, .int a3), (4, .int (x4 ||| (1 <<< (x5 &&& 31)))), (5, .int x5), (6, .int (r4 - r5))]) dX3_edgesIn_70 (Nat.le_of_ble_eq_true rfl) (lsf_r (lsf_r (lsf_i (lsf_i (lsf_i (lsf_i (lsf_i lsf_n))))))) rfl ?_
      refine J.iinc (pc := 72) C (lv' := [(0, rv g a0), (1, rv g a1), (2, .int a2), (3, .int a3), (4, .int (x4 ||| (1 <<< (x5 &&& 31)))), (5, .int (x5 + 1)), (6, .int (r4 - r5))]) dX3_edgesIn_72 rfl (Nat.le_of_ble_eq_true rfl) (lsf_r (lsf_r (lsf_i (lsf_i (lsf_i (lsf_i (lsf_i lsf_n))))))) ki_1 rfl ?_
      refine J.goto (pc := 75) C (tgt := 25) dX3_edgesIn_75 rfl ?_
      exact J.pick [0, 1, 2, 3, 4, 5] rfl (hk25 _ _)
def f_X3_edgesIn (S : St) (a0 : Nat) (a1 : Nat) (a2 : Int32) : Option Int32 :=
  (chk (okc S 3 a0) (bnd (f_X3_setting S a0 3) fun r1 =>
  (chk (okc S 0 a1)
  (bnd (f_X7_holds (S.1 a1 1) a2) fun r2 =>
  (if r2 = 0 then
  (wl2 (f_X3_edgesIn_B25 S a0 a1 a2 r1 (fun (y4_7 : Int32) => (some y4_7))) FU 0 1)
  else (some 0))))))
set_option maxRecDepth 100000 in
set_option maxHeartbeats 4000000 in
theorem c_X3_edgesIn (l : Launch) (g : GG) (S : St) (a0 : Nat) (a1 : Nat) (a2 : Int32) : Ct l yX3_edgesIn cX3_edgesIn 7 (some .int) rm_X3_edgesIn g aI (pK S) [rv g a0, rv g a1, .int a2] S (f_X3_edgesIn S a0 a1 a2) := by
  refine Ct.mk (cf := cw (0, 0)) (by decide +kernel) (cat_r (cat_r (cat_i cat_n))) (Nat.le_of_ble_eq_true rfl) rfl ?_
  intro X hXl hin C
  show J X g _ _ 0 [(0, rv g a0), (1, rv g a1), (2, .int a2)] [] S (f_X3_edgesIn S a0 a1 a2)
  unfold f_X3_edgesIn
  refine J.aload_n (pc := 0) C (x := a0) dX3_edgesIn_0 rfl rfl ?_
  refine J.iconst (pc := 1) C dX3_edgesIn_1 ki_3 ?_
  refine J.vI (pc := 2) C mv_X3_setting wm_RX3_106 (fun l => c_X3_setting l g S a0 3) ⟨⟨Nat.zero_le _, Nat.zero_le _⟩, rfl, rfl⟩ rfl ⟨Nat.le_of_ble_eq_true rfl, Nat.le_of_ble_eq_true rfl⟩ rfl ct_n (Nat.le_of_ble_eq_true rfl) dX3_edgesIn_2 (fun r1 => ?_)
  refine J.istore_n (pc := 5) C (lv' := [(0, rv g a0), (1, rv g a1), (2, .int a2), (3, .int r1)]) dX3_edgesIn_5 rfl (Nat.le_of_ble_eq_true rfl) (lsf_r (lsf_r (lsf_i lsf_n))) rfl ?_
  refine J.iconst (pc := 6) C dX3_edgesIn_6 ki_0 ?_
  refine J.istore (pc := 7) C (lv' := [(0, rv g a0), (1, rv g a1), (2, .int a2), (3, .int r1), (4, .int 0)]) dX3_edgesIn_7 (Nat.le_of_ble_eq_true rfl) (lsf_r (lsf_r (lsf_i (lsf_i lsf_n)))) rfl ?_
  refine J.aload_n (pc := 9) C (x := a1) dX3_edgesIn_9 rfl rfl ?_
  refine J.getI (pc := 10) C fl_RX3_111 rfl dX3_edgesIn_10 ?_
  refine J.iload_n (pc := 13) C dX3_edgesIn_13 rfl rfl ?_
  refine J.snI (pc := 14) C ms_X7_holds wn_RX3_112 (fun l => c_X7_holds l g S (S.1 a1 1) a2) ⟨⟨Nat.zero_le _, Nat.zero_le _⟩, rfl, rfl⟩ rfl ⟨Nat.le_of_ble_eq_true rfl, Nat.le_of_ble_eq_true rfl⟩ rfl ct_n (Nat.le_of_ble_eq_true rfl) dX3_edgesIn_14 (fun r2 => ?_)
  refine J.if_eq (pc := 17) C (tgt := 22) dX3_edgesIn_17 rfl ?_ ?_
  · refine J.iconst (pc := 22) C dX3_edgesIn_22 ki_1 ?_
    refine J.istore (pc := 23) C (lv' := [(0, rv g a0), (1, rv g a1), (2, .int a2), (3, .int r1), (4, .int 0), (5, .int 1)]) dX3_edgesIn_23 (Nat.le_of_ble_eq_true rfl) (lsf_r (lsf_r (lsf_i (lsf_i (lsf_i lsf_n))))) rfl ?_
    refine w_X3_edgesIn_B25 C _ _ _ _ _ _ (fun y4_7 => ?_) FU _ _
    refine J.iload (pc := 78) C dX3_edgesIn_78 rfl ?_
    exact J.iret (pc := 80) C rfl rfl ⟨Nat.le_refl _, Nat.le_refl _⟩ dX3_edgesIn_80
  · refine J.iconst (pc := 20) C dX3_edgesIn_20 ki_0 ?_
    exact J.iret (pc := 21) C rfl rfl ⟨Nat.le_refl _, Nat.le_refl _⟩ dX3_edgesIn_21
abbrev rm_X7_edgeCountOf : Room := { frames := 3, cells := 0, slots := 0, locals := 69 }
def f_X7_edgeCountOf_B4 (S : St) (a0 : Nat) (a1 : Nat) (kx4 : Int32 → Option Int32) (k4 : Int32 → Int32 → Option Int32) (x2 : Int32) (x3 : Int32) : Option Int32 :=
  (chk (okc S 7 a0)
  (chk (okc S 3 (S.2.1 a0 0)) (bnd (f_X3_setting S (S.2.1 a0 0) 0) fun r1 =>
  (if r1 ≤ x3 then
  (kx4 x2)
  else (chk (okc S 7 a0)
  (chk (okc S 3 (S.2.1 a0 0)) (bnd (f_X3_edgesIn S (S.2.1 a0 0) a1 x3) fun r2 =>
  (bnd (f_J6_bitCount_0f7a4 r2) fun r3 =>
  (k4 (x2 + r3) (x3 + 1))))))))))
set_option maxRecDepth 100000 in
set_option maxHeartbeats 4000000 in
theorem w_X7_edgeCountOf_B4 {X : CT} {g : GG} (C : CX X g cX7_edgeCountOf RX7 (some .int) 4 rm_X7_edgeCountOf) (S : St) (a0 : Nat) (a1 : Nat) (kx4 : Int32 → Option Int32) (hkx4 : ∀ (x2 : Int32), J X g (Qm X g aI (pK S)) (cw (0, 0)) 37 [(2, .int x2)] [] S (kx4 x2)) : ∀ (n : Nat) (x2 : Int32) (x3 : Int32), J X g (Qm X g aI (pK S)) (cw (0, 0)) 4 [(0, rv g a0), (1, rv g a1), (2, .int x2), (3, .int x3)] [] S (wl2 (f_X7_edgeCountOf_B4 S a0 a1 kx4) n x2 x3) := by
  refine J.loop2 (lvf := fun (x2 : Int32) (x3 : Int32) => [(0, rv g a0), (1, rv g a1), (2, .int x2), (3, .int x3)]) (Sf := fun (x2 : Int32) (x3 : Int32) => S) ?_
  intro k4 hk4 x2 x3
  show J X g _ _ 4 [(0, rv g a0), (1, rv g a1), (2, .int x2), (3, .int x3)] [] S (f_X7_edgeCountOf_B4 S a0 a1 kx4 k4 x2 x3)
  unfold f_X7_edgeCountOf_B4
  refine J.iload_n (pc := 4) C dX7_edgeCountOf_4 rfl rfl ?_
  refine J.aload_n (pc := 5) C (x := a0) dX7_edgeCountOf_5 rfl rfl ?_
  refine J.getR (pc := 6) C fl_RX7_12 rfl dX7_edgeCountOf_6 ?_
  refine J.iconst (pc := 9) C dX7_edgeCountOf_9 ki_0 ?_
  refine J.vI (pc := 10) C mv_X3_setting wm_RX7_78 (fun l => c_X3_setting l g S (S.2.1 a0 0) 0) ⟨⟨Nat.zero_le _, Nat.zero_le _⟩, rfl, rfl⟩ rfl ⟨Nat.le_of_ble_eq_true rfl, Nat.le_of_ble_eq_true rfl⟩ rfl (ct_i ct_n) (Nat.le_of_ble_eq_true rfl) dX7_edgeCountOf_10 (fun r1 => ?_)
  refine J.icmp_ge (pc := 13) C (tgt := 37) dX7_edgeCountOf_13 rfl ?_ ?_
  · exact J.pick [2] rfl (hkx4 _)
  · refine J.iload_n (pc := 16) C dX7_edgeCountOf_16 rfl rfl ?_
    refine J.aload_n (pc := 17) C (x := a0) dX7_edgeCountOf_17 rfl rfl ?_
    refine J.getR (pc := 18) C fl_RX7_12 rfl dX7_edgeCountOf_18 ?_
    refine J.aload_n (pc := 21) C (x := a1) dX7_edgeCountOf_21 rfl rfl ?_
    refine J.iload_n (pc := 22) C dX7_edgeCountOf_22 rfl rfl ?_
    refine J.vI (pc := 23) C mv_X3_edgesIn wm_RX7_167 (fun l => c_X3_edgesIn l g S (S.2.1 a0 0) a1 x3) ⟨⟨Nat.zero_le _, Nat.zero_le _⟩, rfl, rfl⟩ rfl ⟨Nat.le_of_ble_eq_true rfl, Nat.le_of_ble_eq_true rfl⟩ rfl (ct_i ct_n) (Nat.le_of_ble_eq_true rfl) dX7_edgeCountOf_23 (fun r2 => ?_)
    refine J.sI (pc := 26) C ms_J6_bitCount_0f7a4 wm_RX7_126 (fun l => c_J6_bitCount_0f7a4 l g S r2) ⟨⟨Nat.zero_le _, Nat.zero_le _⟩, rfl, rfl⟩ rfl ⟨Nat.le_of_ble_eq_true rfl, Nat.le_of_ble_eq_true rfl⟩ rfl (ct_i ct_n) (Nat.le_of_ble_eq_true rfl) dX7_edgeCountOf_26 (fun r3 => ?_)
    refine J.iadd (pc := 29) C dX7_edgeCountOf_29 ?_
    refine J.istore_n (pc := 30) C (lv' := [(0, rv g a0), (1, rv g a1), (2, .int (x2 + r3)), (3, .int x3)]) dX7_edgeCountOf_30 rfl (Nat.le_of_ble_eq_true rfl) (lsf_r (lsf_r (lsf_i (lsf_i lsf_n)))) rfl ?_
    refine J.iinc (pc := 31) C (lv' := [(0, rv g a0), (1, rv g a1), (2, .int (x2 + r3)), (3, .int (x3 + 1))]) dX7_edgeCountOf_31 rfl (Nat.le_of_ble_eq_true rfl) (lsf_r (lsf_r (lsf_i (lsf_i lsf_n)))) ki_1 rfl ?_
    refine J.goto (pc := 34) C (tgt := 4) dX7_edgeCountOf_34 rfl ?_
    exact (hk4 _ _)
def f_X7_edgeCountOf (S : St) (a0 : Nat) (a1 : Nat) : Option Int32 :=
  (wl2 (f_X7_edgeCountOf_B4 S a0 a1 (fun (y2_4 : Int32) => (some y2_4))) FU 0 0)
set_option maxRecDepth 100000 in
set_option maxHeartbeats 4000000 in
theorem c_X7_edgeCountOf (l : Launch) (g : GG) (S : St) (a0 : Nat) (a1 : Nat) : Ct l yX7_edgeCountOf cX7_edgeCountOf 4 (some .int) rm_X7_edgeCountOf g aI (pK S) [rv g a0, rv g a1] S (f_X7_edgeCountOf S a0 a1) := by
  refine Ct.mk (cf := cw (0, 0)) (by decide +kernel) (cat_r (cat_r cat_n)) (Nat.le_of_ble_eq_true rfl) rfl ?_
  intro X hXl hin C
  show J X g _ _ 0 [(0, rv g a0), (1, rv g a1)] [] S (f_X7_edgeCountOf S a0 a1)
  unfold f_X7_edgeCountOf
  refine J.iconst (pc := 0) C dX7_edgeCountOf_0 ki_0 ?_
  refine J.istore_n (pc := 1) C (lv' := [(0, rv g a0), (1, rv g a1), (2, .int 0)]) dX7_edgeCountOf_1 rfl (Nat.le_of_ble_eq_true rfl) (lsf_r (lsf_r lsf_n)) rfl ?_
  refine J.iconst (pc := 2) C dX7_edgeCountOf_2 ki_0 ?_
  refine J.istore_n (pc := 3) C (lv' := [(0, rv g a0), (1, rv g a1), (2, .int 0), (3, .int 0)]) dX7_edgeCountOf_3 rfl (Nat.le_of_ble_eq_true rfl) (lsf_r (lsf_r (lsf_i lsf_n))) rfl ?_
  refine w_X7_edgeCountOf_B4 C _ _ _ _ (fun y2_4 => ?_) FU _ _
  refine J.iload_n (pc := 37) C dX7_edgeCountOf_37 rfl rfl ?_
  exact J.iret (pc := 38) C rfl rfl ⟨Nat.le_refl _, Nat.le_refl _⟩ dX7_edgeCountOf_38
abbrev rm_X7_frameOf : Room := { frames := 4, cells := 0, slots := 0, locals := 92 }
def f_X7_frameOf (S : St) (a0 : Nat) (a1 : Int32) (a2 : Int32) : Option Int32 :=
  (chk (okc S 7 a0)
  (chk (okc S 3 (S.2.1 a0 0)) (bnd (f_X3_frameAt S (S.2.1 a0 0) a1) fun r1 =>
  (if r1 = 0 then
  (some (-10000001))
  else (bnd (f_X7_isWithin a2 0 2) fun r2 =>
  (if r2 = 0 then
  (some (-10000001))
  else (if a2 = 0 then
  (chk (okc S 0 r1)
  (some (S.1 r1 0)))
  else (if a2 = 1 then
  (chk (okc S 0 r1)
  (some (S.1 r1 1)))
  else (chk (okc S 7 a0) (bnd (f_X7_edgeCountOf S a0 r1) fun r3 =>
  (some r3)))))))))))
set_option maxRecDepth 100000 in
set_option maxHeartbeats 4000000 in
theorem c_X7_frameOf (l : Launch) (g : GG) (S : St) (a0 : Nat) (a1 : Int32) (a2 : Int32) : Ct l yX7_frameOf cX7_frameOf 4 (some .int) rm_X7_frameOf g aI (pK S) [rv g a0, .int a1, .int a2] S (f_X7_frameOf S a0 a1 a2) := by
  refine Ct.mk (cf := cw (0, 0)) (by decide +kernel) (cat_r (cat_i (cat_i cat_n))) (Nat.le_of_ble_eq_true rfl) rfl ?_
  intro X hXl hin C
  show J X g _ _ 0 [(0, rv g a0), (1, .int a1), (2, .int a2)] [] S (f_X7_frameOf S a0 a1 a2)
  unfold f_X7_frameOf
  refine J.aload_n (pc := 0) C (x := a0) dX7_frameOf_0 rfl rfl ?_
  refine J.getR (pc := 1) C fl_RX7_12 rfl dX7_frameOf_1 ?_
  refine J.iload_n (pc := 4) C dX7_frameOf_4 rfl rfl ?_
  refine J.vR (pc := 5) C mv_X3_frameAt wm_RX7_149 (fun l => c_X3_frameAt l g S (S.2.1 a0 0) a1) ⟨⟨Nat.zero_le _, Nat.zero_le _⟩, rfl, rfl⟩ rfl ⟨Nat.le_of_ble_eq_true rfl, Nat.le_of_ble_eq_true rfl⟩ rfl ct_n (Nat.le_of_ble_eq_true rfl) dX7_frameOf_5 (fun r1 => ?_)
  refine J.astore_n (pc := 8) C (lv' := [(0, rv g a0), (1, .int a1), (2, .int a2), (3, rv g r1)]) dX7_frameOf_8 rfl (Nat.le_of_ble_eq_true rfl) (lsf_r (lsf_i (lsf_i lsf_n))) rfl ?_
  refine J.aload_n (pc := 9) C (x := r1) dX7_frameOf_9 rfl rfl ?_
  refine J.ifnull (pc := 10) C (tgt := 22) dX7_frameOf_10 rfl ?_ ?_
  · refine J.ldc (pc := 22) C wc_RX7_60 dX7_frameOf_22 ?_
    exact J.iret (pc := 24) C rfl rfl ⟨Nat.le_refl _, Nat.le_refl _⟩ dX7_frameOf_24
  · refine J.iload_n (pc := 13) C dX7_frameOf_13 rfl rfl ?_
    refine J.iconst (pc := 14) C dX7_frameOf_14 ki_0 ?_
    refine J.iconst (pc := 15) C dX7_frameOf_15 ki_2 ?_
    refine J.sI (pc := 16) C ms_X7_isWithin wm_RX7_56 (fun l => c_X7_isWithin l g S a2 0 2) ⟨⟨Nat.zero_le _, Nat.zero_le _⟩, rfl, rfl⟩ rfl ⟨Nat.le_of_ble_eq_true rfl, Nat.le_of_ble_eq_true rfl⟩ rfl ct_n (Nat.le_of_ble_eq_true rfl) dX7_frameOf_16 (fun r2 => ?_)
    refine J.if_ne (pc := 19) C (tgt := 25) dX7_frameOf_19 rfl ?_ ?_
    · refine J.iload_n (pc := 25) C dX7_frameOf_25 rfl rfl ?_
      refine J.if_ne (pc := 26) C (tgt := 34) dX7_frameOf_26 rfl ?_ ?_
      · refine J.iload_n (pc := 34) C dX7_frameOf_34 rfl rfl ?_
        refine J.iconst (pc := 35) C dX7_frameOf_35 ki_1 ?_
        refine J.icmp_ne (pc := 36) C (tgt := 46) dX7_frameOf_36 rfl ?_ ?_
        · refine J.aload_n (pc := 46) C (x := a0) dX7_frameOf_46 rfl rfl ?_
          refine J.aload_n (pc := 47) C (x := r1) dX7_frameOf_47 rfl rfl ?_
          refine J.vI (pc := 48) C mv_X7_edgeCountOf wm_RX7_159 (fun l => c_X7_edgeCountOf l g S a0 r1) ⟨⟨Nat.zero_le _, Nat.zero_le _⟩, rfl, rfl⟩ rfl ⟨Nat.le_of_ble_eq_true rfl, Nat.le_of_ble_eq_true rfl⟩ rfl ct_n (Nat.le_of_ble_eq_true rfl) dX7_frameOf_48 (fun r3 => ?_)
          exact J.iret (pc := 51) C rfl rfl ⟨Nat.le_refl _, Nat.le_refl _⟩ dX7_frameOf_51
        · refine J.aload_n (pc := 39) C (x := r1) dX7_frameOf_39 rfl rfl ?_
          refine J.getI (pc := 40) C fl_RX7_158 rfl dX7_frameOf_40 ?_
          refine J.goto (pc := 43) C (tgt := 51) dX7_frameOf_43 rfl ?_
          exact J.iret (pc := 51) C rfl rfl ⟨Nat.le_refl _, Nat.le_refl _⟩ dX7_frameOf_51
      · refine J.aload_n (pc := 29) C (x := r1) dX7_frameOf_29 rfl rfl ?_
        refine J.getI (pc := 30) C fl_RX7_157 rfl dX7_frameOf_30 ?_
        exact J.iret (pc := 33) C rfl rfl ⟨Nat.le_refl _, Nat.le_refl _⟩ dX7_frameOf_33
    · refine J.ldc (pc := 22) C wc_RX7_60 dX7_frameOf_22 ?_
      exact J.iret (pc := 24) C rfl rfl ⟨Nat.le_refl _, Nat.le_refl _⟩ dX7_frameOf_24
abbrev rm_X1_answer : Room := { frames := 0, cells := 0, slots := 0, locals := 0 }
def f_X1_answer (S : St) (a0 : Nat) (a1 : Int32) : Option Int32 :=
  (if a1 = 0 then
  (chk (okc S 1 a0)
  (some (S.1 a0 6)))
  else (if a1 = 1 then
  (chk (okc S 1 a0)
  (some (S.1 a0 7)))
  else (if a1 = 2 then
  (chk (okc S 1 a0)
  (some (S.1 a0 8)))
  else (if a1 = 3 then
  (chk (okc S 1 a0)
  (some (S.1 a0 9)))
  else (chk (okc S 1 a0)
  (some (S.1 a0 10)))))))
set_option maxRecDepth 100000 in
set_option maxHeartbeats 4000000 in
theorem c_X1_answer (l : Launch) (g : GG) (S : St) (a0 : Nat) (a1 : Int32) : Ct l yX1_answer cX1_answer 2 (some .int) rm_X1_answer g aI (pK S) [rv g a0, .int a1] S (f_X1_answer S a0 a1) := by
  refine Ct.mk (cf := cw (0, 0)) (by decide +kernel) (cat_r (cat_i cat_n)) (Nat.le_of_ble_eq_true rfl) rfl ?_
  intro X hXl hin C
  show J X g _ _ 0 [(0, rv g a0), (1, .int a1)] [] S (f_X1_answer S a0 a1)
  unfold f_X1_answer
  refine J.iload_n (pc := 0) C dX1_answer_0 rfl rfl ?_
  refine J.ite (fun h0 => ?_) (fun h0 => ?_)
  · refine J.tswIn (pc := 1) C (tgt := 32) 0 dX1_answer_1 h0 (by decide) (by decide) rfl rfl ?_
    refine J.aload_n (pc := 32) C (x := a0) dX1_answer_32 rfl rfl ?_
    refine J.getI (pc := 33) C fl_RX1_33 rfl dX1_answer_33 ?_
    exact J.iret (pc := 36) C rfl rfl ⟨Nat.le_refl _, Nat.le_refl _⟩ dX1_answer_36
  · refine J.ite (fun h1 => ?_) (fun h1 => ?_)
    · refine J.tswIn (pc := 1) C (tgt := 37) 1 dX1_answer_1 h1 (by decide) (by decide) rfl rfl ?_
      refine J.aload_n (pc := 37) C (x := a0) dX1_answer_37 rfl rfl ?_
      refine J.getI (pc := 38) C fl_RX1_54 rfl dX1_answer_38 ?_
      exact J.iret (pc := 41) C rfl rfl ⟨Nat.le_refl _, Nat.le_refl _⟩ dX1_answer_41
    · refine J.ite (fun h2 => ?_) (fun h2 => ?_)
      · refine J.tswIn (pc := 1) C (tgt := 42) 2 dX1_answer_1 h2 (by decide) (by decide) rfl rfl ?_
        refine J.aload_n (pc := 42) C (x := a0) dX1_answer_42 rfl rfl ?_
        refine J.getI (pc := 43) C fl_RX1_57 rfl dX1_answer_43 ?_
        exact J.iret (pc := 46) C rfl rfl ⟨Nat.le_refl _, Nat.le_refl _⟩ dX1_answer_46
      · refine J.ite (fun h3 => ?_) (fun h3 => ?_)
        · refine J.tswIn (pc := 1) C (tgt := 47) 3 dX1_answer_1 h3 (by decide) (by decide) rfl rfl ?_
          refine J.aload_n (pc := 47) C (x := a0) dX1_answer_47 rfl rfl ?_
          refine J.getI (pc := 48) C fl_RX1_60 rfl dX1_answer_48 ?_
          exact J.iret (pc := 51) C rfl rfl ⟨Nat.le_refl _, Nat.le_refl _⟩ dX1_answer_51
        · refine J.tswOut (pc := 1) C (tgt := 52) dX1_answer_1 (by have e0 := lv_neT h0 (a := 0) rfl; have e1 := lv_neT h1 (a := 1) rfl; have e2 := lv_neT h2 (a := 2) rfl; have e3 := lv_neT h3 (a := 3) rfl; omega) rfl ?_
          refine J.aload_n (pc := 52) C (x := a0) dX1_answer_52 rfl rfl ?_
          refine J.getI (pc := 53) C fl_RX1_63 rfl dX1_answer_53 ?_
          exact J.iret (pc := 56) C rfl rfl ⟨Nat.le_refl _, Nat.le_refl _⟩ dX1_answer_56
abbrev rm_X1_isVain : Room := { frames := 0, cells := 0, slots := 0, locals := 0 }
def f_X1_isVain (S : St) (a0 : Nat) : Option Int32 :=
  (chk (okc S 1 a0)
  (if (S.1 a0 6) = 0 then
  (some 1)
  else (some 0)))
set_option maxRecDepth 100000 in
set_option maxHeartbeats 4000000 in
theorem c_X1_isVain (l : Launch) (g : GG) (S : St) (a0 : Nat) : Ct l yX1_isVain cX1_isVain 1 (some .boolean) rm_X1_isVain g aI (pK S) [rv g a0] S (f_X1_isVain S a0) := by
  refine Ct.mk (cf := cw (0, 0)) (by decide +kernel) (cat_r cat_n) (Nat.le_of_ble_eq_true rfl) rfl ?_
  intro X hXl hin C
  show J X g _ _ 0 [(0, rv g a0)] [] S (f_X1_isVain S a0)
  unfold f_X1_isVain
  refine J.aload_n (pc := 0) C (x := a0) dX1_isVain_0 rfl rfl ?_
  refine J.getI (pc := 1) C fl_RX1_33 rfl dX1_isVain_1 ?_
  refine J.if_ne (pc := 4) C (tgt := 11) dX1_isVain_4 rfl ?_ ?_
  · refine J.iconst (pc := 11) C dX1_isVain_11 ki_0 ?_
    exact J.zret (pc := 12) C rfl rfl rfl ⟨Nat.le_refl _, Nat.le_refl _⟩ dX1_isVain_12
  · refine J.iconst (pc := 7) C dX1_isVain_7 ki_1 ?_
    refine J.goto (pc := 8) C (tgt := 12) dX1_isVain_8 rfl ?_
    exact J.zret (pc := 12) C rfl rfl rfl ⟨Nat.le_refl _, Nat.le_refl _⟩ dX1_isVain_12
abbrev rm_X1_addDemand : Room := { frames := 3, cells := 0, slots := 0, locals := 74 }
def f_X1_addDemand_J103 (S : St) (a0 : Nat) (a1 : Nat) (a3 : Nat) (a4 : Int32) (a5 : Int32) (a6 : Int32) (kx55 : Int32 → Int32 → Option St) (k55 : Int32 → Int32 → Int32 → Option St) (x7 : Int32) (x8 : Int32) (x9 : Int32) (x10 : Int32) : Option St :=
  (chk (okc S 1 a0)
  (bnd (f_X7_numberIn S (S.2.1 a0 5) x9) fun r9 =>
  (bnd (f_X7_dimmed r9 a6) fun r10 =>
  (if r10 = x10 then
  (k55 x7 x8 (x9 + 1))
  else (k55 x7 (x8 ||| (1 <<< (x9 &&& 31))) (x9 + 1))))))
set_option maxRecDepth 100000 in
set_option maxHeartbeats 4000000 in
theorem w_X1_addDemand_J103 {X : CT} {g : GG} (C : CX X g cX1_addDemand RX1 none 11 rm_X1_addDemand) (S : St) (a0 : Nat) (a1 : Nat) (a3 : Nat) (a4 : Int32) (a5 : Int32) (a6 : Int32) (kx55 : Int32 → Int32 → Option St) (k55 : Int32 → Int32 → Int32 → Option St) (x7 : Int32) (x8 : Int32) (x9 : Int32) (x10 : Int32) (hkx55 : ∀ (x7 : Int32) (x8 : Int32), J X g (Qm X g aU pU) (cw (0, 0)) 137 [(0, rv g a0), (5, .int a5), (7, .int x7), (8, .int x8)] [] S (kx55 x7 x8)) (hk55 : ∀ (x7 : Int32) (x8 : Int32) (x9 : Int32), J X g (Qm X g aU pU) (cw (0, 0)) 55 [(0, rv g a0), (1, rv g a1), (3, rv g a3), (4, .int a4), (5, .int a5), (6, .int a6), (7, .int x7), (8, .int x8), (9, .int x9)] [] S (k55 x7 x8 x9)) : J X g (Qm X g aU pU) (cw (0, 0)) 103 [(0, rv g a0), (1, rv g a1), (3, rv g a3), (4, .int a4), (5, .int a5), (6, .int a6), (7, .int x7), (8, .int x8), (9, .int x9), (10, .int x10)] [] S (f_X1_addDemand_J103 S a0 a1 a3 a4 a5 a6 kx55 k55 x7 x8 x9 x10) := by
  unfold f_X1_addDemand_J103
  refine J.aload_n (pc := 103) C (x := a0) dX1_addDemand_103 rfl rfl ?_
  refine J.getR (pc := 104) C fl_RX1_24 rfl dX1_addDemand_104 ?_
  refine J.iload (pc := 107) C dX1_addDemand_107 rfl ?_
  refine J.snI (pc := 109) C ms_X7_numberIn wn_RX1_109 (fun l => c_X7_numberIn l g S (S.2.1 a0 5) x9) ⟨⟨Nat.zero_le _, Nat.zero_le _⟩, rfl, rfl⟩ rfl ⟨Nat.le_of_ble_eq_true rfl, Nat.le_of_ble_eq_true rfl⟩ rfl ct_n (Nat.le_of_ble_eq_true rfl) dX1_addDemand_109 (fun r9 => ?_)
  refine J.iload (pc := 112) C dX1_addDemand_112 rfl ?_
  refine J.snI (pc := 114) C ms_X7_dimmed wn_RX1_113 (fun l => c_X7_dimmed l g S r9 a6) ⟨⟨Nat.zero_le _, Nat.zero_le _⟩, rfl, rfl⟩ rfl ⟨Nat.le_of_ble_eq_true rfl, Nat.le_of_ble_eq_true rfl⟩ rfl ct_n (Nat.le_of_ble_eq_true rfl) dX1_addDemand_114 (fun r10 => ?_)
  refine J.iload (pc := 117) C dX1_addDemand_117 rfl ?_
  refine J.icmp_eq (pc := 119) C (tgt := 131) dX1_addDemand_119 rfl ?_ ?_
  · refine J.iinc (pc := 131) C (lv' := [(0, rv g a0), (1, rv g a1), (3, rv g a3), (4, .int a4), (5, .int a5), (6, .int a6), (7, .int x7), (8, .int x8), (9, .int (x9 + 1)), (10, .int x10)]) dX1_addDemand_131 rfl (Nat.le_of_ble_eq_true rfl) (lsf_r (lsf_r (lsf_r (lsf_i (lsf_i (lsf_i (lsf_i (lsf_i (lsf_i (lsf_i lsf_n)))))))))) ki_1 rfl ?_
    refine J.goto (pc := 134) C (tgt := 55) dX1_addDemand_134 rfl ?_
    exact J.pick [0, 1, 2, 3, 4, 5, 6, 7, 8] rfl (hk55 _ _ _)
  · refine J.iload (pc := 122) C dX1_addDemand_122 rfl ?_
    refine J.iconst (pc := 124) C dX1_addDemand_124 ki_1 ?_
    refine J.iload (pc := 125) C dX1_addDemand_125 rfl ?_
    refine J.ishl (pc := 127) C dX1_addDemand_127 ?_
    refine J.ior (pc := 128) C dX1_addDemand_128 ?_
    refine J.istore (pc := 129) C (lv' := [(0, rv g a0), (1, rv g a1), (3, rv g a3), (4, .int a4), (5, .int a5), (6, .int a6), (7, .int x7), (8, .int (x8 ||| (1 <<< (x9 &&& 31)))), (9, .int x9), (10, .int x10)]) dX1_addDemand_129 (Nat.le_of_ble_eq_true rfl) (lsf_r (lsf_r (lsf_r (lsf_i (lsf_i (lsf_i (lsf_i (lsf_i (lsf_i (lsf_i lsf_n)))))))))) rfl ?_
    refine J.iinc (pc := 131) C (lv' := [(0, rv g a0), (1, rv g a1), (3, rv g a3), (4, .int a4), (5, .int a5), (6, .int a6), (7, .int x7), (8, .int (x8 ||| (1 <<< (x9 &&& 31)))), (9, .int (x9 + 1)), (10, .int x10)]) dX1_addDemand_131 rfl (Nat.le_of_ble_eq_true rfl) (lsf_r (lsf_r (lsf_r (lsf_i (lsf_i (lsf_i (lsf_i (lsf_i (lsf_i (lsf_i lsf_n)))))))))) ki_1 rfl ?_
    refine J.goto (pc := 134) C (tgt := 55) dX1_addDemand_134 rfl ?_
    exact J.pick [0, 1, 2, 3, 4, 5, 6, 7, 8] rfl (hk55 _ _ _)
def f_X1_addDemand_B55 (S : St) (a0 : Nat) (a1 : Nat) (a3 : Nat) (a4 : Int32) (a5 : Int32) (a6 : Int32) (kx55 : Int32 → Int32 → Option St) (k55 : Int32 → Int32 → Int32 → Option St) (x7 : Int32) (x8 : Int32) (x9 : Int32) : Option St :=
  (chk (okc S 3 a1) (bnd (f_X3_setting S a1 1) fun r5 =>
  (if r5 ≤ x9 then
  (kx55 x7 x8)
  else (chk (okc S 0 a3) (bnd (f_X0_pixelAt S a3 a4 x9) fun r6 =>
  (chk (okc S 1 a0)
  (bnd (f_X7_numberIn S (S.2.1 a0 4) x9) fun r7 =>
  (bnd (f_X7_dimmed r7 a6) fun r8 =>
  (if r8 = r6 then
  (f_X1_addDemand_J103 S a0 a1 a3 a4 a5 a6 kx55 k55 x7 x8 x9 r6)
  else (f_X1_addDemand_J103 S a0 a1 a3 a4 a5 a6 kx55 k55 (x7 ||| (1 <<< (x9 &&& 31))) x8 x9 r6))))))))))
set_option maxRecDepth 100000 in
set_option maxHeartbeats 4000000 in
theorem w_X1_addDemand_B55 {X : CT} {g : GG} (C : CX X g cX1_addDemand RX1 none 11 rm_X1_addDemand) (S : St) (a0 : Nat) (a1 : Nat) (a3 : Nat) (a4 : Int32) (a5 : Int32) (a6 : Int32) (kx55 : Int32 → Int32 → Option St) (hkx55 : ∀ (x7 : Int32) (x8 : Int32), J X g (Qm X g aU pU) (cw (0, 0)) 137 [(0, rv g a0), (5, .int a5), (7, .int x7), (8, .int x8)] [] S (kx55 x7 x8)) : ∀ (n : Nat) (x7 : Int32) (x8 : Int32) (x9 : Int32), J X g (Qm X g aU pU) (cw (0, 0)) 55 [(0, rv g a0), (1, rv g a1), (3, rv g a3), (4, .int a4), (5, .int a5), (6, .int a6), (7, .int x7), (8, .int x8), (9, .int x9)] [] S (wl3 (f_X1_addDemand_B55 S a0 a1 a3 a4 a5 a6 kx55) n x7 x8 x9) := by
  refine J.loop3 (lvf := fun (x7 : Int32) (x8 : Int32) (x9 : Int32) => [(0, rv g a0), (1, rv g a1), (3, rv g a3), (4, .int a4), (5, .int a5), (6, .int a6), (7, .int x7), (8, .int x8), (9, .int x9)]) (Sf := fun (x7 : Int32) (x8 : Int32) (x9 : Int32) => S) ?_
  intro k55 hk55 x7 x8 x9
  show J X g _ _ 55 [(0, rv g a0), (1, rv g a1), (3, rv g a3), (4, .int a4), (5, .int a5), (6, .int a6), (7, .int x7), (8, .int x8), (9, .int x9)] [] S (f_X1_addDemand_B55 S a0 a1 a3 a4 a5 a6 kx55 k55 x7 x8 x9)
  unfold f_X1_addDemand_B55
  refine J.iload (pc := 55) C dX1_addDemand_55 rfl ?_
  refine J.aload_n (pc := 57) C (x := a1) dX1_addDemand_57 rfl rfl ?_
  refine J.iconst (pc := 58) C dX1_addDemand_58 ki_1 ?_
  refine J.vI (pc := 59) C mv_X3_setting wm_RX1_76 (fun l => c_X3_setting l g S a1 1) ⟨⟨Nat.zero_le _, Nat.zero_le _⟩, rfl, rfl⟩ rfl ⟨Nat.le_of_ble_eq_true rfl, Nat.le_of_ble_eq_true rfl⟩ rfl (ct_i ct_n) (Nat.le_of_ble_eq_true rfl) dX1_addDemand_59 (fun r5 => ?_)
  refine J.icmp_ge (pc := 62) C (tgt := 137) dX1_addDemand_62 rfl ?_ ?_
  · exact J.pick [0, 4, 6, 7] rfl (hkx55 _ _)
  · refine J.aload_n (pc := 65) C (x := a3) dX1_addDemand_65 rfl rfl ?_
    refine J.iload (pc := 66) C dX1_addDemand_66 rfl ?_
    refine J.iload (pc := 68) C dX1_addDemand_68 rfl ?_
    refine J.vI (pc := 70) C mv_X0_pixelAt wm_RX1_105 (fun l => c_X0_pixelAt l g S a3 a4 x9) ⟨⟨Nat.zero_le _, Nat.zero_le _⟩, rfl, rfl⟩ rfl ⟨Nat.le_of_ble_eq_true rfl, Nat.le_of_ble_eq_true rfl⟩ rfl ct_n (Nat.le_of_ble_eq_true rfl) dX1_addDemand_70 (fun r6 => ?_)
    refine J.istore (pc := 73) C (lv' := [(0, rv g a0), (1, rv g a1), (3, rv g a3), (4, .int a4), (5, .int a5), (6, .int a6), (7, .int x7), (8, .int x8), (9, .int x9), (10, .int r6)]) dX1_addDemand_73 (Nat.le_of_ble_eq_true rfl) (lsf_r (lsf_r (lsf_r (lsf_i (lsf_i (lsf_i (lsf_i (lsf_i (lsf_i lsf_n))))))))) rfl ?_
    refine J.aload_n (pc := 75) C (x := a0) dX1_addDemand_75 rfl rfl ?_
    refine J.getR (pc := 76) C fl_RX1_21 rfl dX1_addDemand_76 ?_
    refine J.iload (pc := 79) C dX1_addDemand_79 rfl ?_
    refine J.snI (pc := 81) C ms_X7_numberIn wn_RX1_109 (fun l => c_X7_numberIn l g S (S.2.1 a0 4) x9) ⟨⟨Nat.zero_le _, Nat.zero_le _⟩, rfl, rfl⟩ rfl ⟨Nat.le_of_ble_eq_true rfl, Nat.le_of_ble_eq_true rfl⟩ rfl ct_n (Nat.le_of_ble_eq_true rfl) dX1_addDemand_81 (fun r7 => ?_)
    refine J.iload (pc := 84) C dX1_addDemand_84 rfl ?_
    refine J.snI (pc := 86) C ms_X7_dimmed wn_RX1_113 (fun l => c_X7_dimmed l g S r7 a6) ⟨⟨Nat.zero_le _, Nat.zero_le _⟩, rfl, rfl⟩ rfl ⟨Nat.le_of_ble_eq_true rfl, Nat.le_of_ble_eq_true rfl⟩ rfl ct_n (Nat.le_of_ble_eq_true rfl) dX1_addDemand_86 (fun r8 => ?_)
    refine J.iload (pc := 89) C dX1_addDemand_89 rfl ?_
    refine J.icmp_eq (pc := 91) C (tgt := 103) dX1_addDemand_91 rfl ?_ ?_
    · exact (w_X1_addDemand_J103 C _ _ _ _ _ _ _ _ _ _ _ _ _ hkx55 hk55)
    · refine J.iload (pc := 94) C dX1_addDemand_94 rfl ?_
      refine J.iconst (pc := 96) C dX1_addDemand_96 ki_1 ?_
      refine J.iload (pc := 97) C dX1_addDemand_97 rfl ?_
      refine J.ishl (pc := 99) C dX1_addDemand_99 ?_
      refine J.ior (pc := 100) C dX1_addDemand_100 ?_
      refine J.istore (pc := 101) C (lv' := [(0, rv g a0), (1, rv g a1), (3, rv g a3), (4, .int a4), (5, .int a5), (6, .int a6), (7, .int (x7 ||| (1 <<< (x9 &&& 31)))), (8, .int x8), (9, .int x9), (10, .int r6)]) dX1_addDemand_101 (Nat.le_of_ble_eq_true rfl) (lsf_r (lsf_r (lsf_r (lsf_i (lsf_i (lsf_i (lsf_i (lsf_i (lsf_i (lsf_i lsf_n)))))))))) rfl ?_
      exact (w_X1_addDemand_J103 C _ _ _ _ _ _ _ _ _ _ _ _ _ hkx55 hk55)
def f_X1_addDemand (S : St) (a0 : Nat) (a1 : Nat) (a2 : Int32) (a3 : Nat) (a4 : Int32) : Option St :=
  (chk (okc S 3 a1) (bnd (f_X3_timeOfRow S a1 a3 a4) fun r1 =>
  (chk (okc S 3 a1) (bnd (f_X3_percentAt S a1 r1) fun r2 =>
  (chk (okc S 1 a0)
  (chk (okc S 3 a1) (bnd (f_X3_paint S a1 a4 r1 a2 0 (S.2.1 a0 4)) fun S_3 =>
  (chk (okc S_3 1 a0)
  (chk (okc S_3 3 a1) (bnd (f_X3_paint S_3 a1 a4 r1 a2 65535 (S_3.2.1 a0 5)) fun S_4 =>
  (wl3 (f_X1_addDemand_B55 S_4 a0 a1 a3 a4 r1 r2 (fun (y7_11 : Int32) (y8_12 : Int32) => (chk (okc S_4 1 a0)
  (chk (okc S_4 1 a0)
  (chk (okc S_4 10 (S_4.2.1 a0 0))
  (if (Int32.ofNat (ln (S_4.2.1 a0 0))) ≤ (S_4.1 a0 3) then
  (some S_4)
  else (chk (okc S_4 1 a0)
  (chk (okc S_4 1 a0)
  (chk (okc S_4 10 (S_4.2.1 a0 1))
  (if (Int32.ofNat (ln (S_4.2.1 a0 1))) ≤ (S_4.1 a0 3) then
  (some S_4)
  else (chk (okc S_4 1 a0)
  (chk (okc S_4 1 a0)
  (chk (okc S_4 10 (S_4.2.1 a0 2))
  (if (Int32.ofNat (ln (S_4.2.1 a0 2))) ≤ (S_4.1 a0 3) then
  (some S_4)
  else (chk (okc S_4 1 a0)
  (chk (okc S_4 1 a0)
  (chk (inw S_4 10 (S_4.2.1 a0 0) (S_4.1 a0 3)) (vlt (upI S_4 (S_4.2.1 a0 0) (S_4.1 a0 3).toNatClampNeg r1) fun S_13 =>
  (chk (okc S_13 1 a0)
  (chk (okc S_13 1 a0)
  (chk (inw S_13 10 (S_13.2.1 a0 1) (S_13.1 a0 3)) (vlt (upI S_13 (S_13.2.1 a0 1) (S_13.1 a0 3).toNatClampNeg y7_11) fun S_14 =>
  (chk (okc S_14 1 a0)
  (chk (okc S_14 1 a0)
  (chk (inw S_14 10 (S_14.2.1 a0 2) (S_14.1 a0 3)) (vlt (upI S_14 (S_14.2.1 a0 2) (S_14.1 a0 3).toNatClampNeg y8_12) fun S_15 =>
  (chk (okc S_15 1 a0)
  (chk (okc S_15 1 a0) (vlt (upI S_15 a0 3 ((S_15.1 a0 3) + 1)) fun S_16 =>
  (some S_16)))))))))))))))))))))))))))))) FU 0 0 0)))))))))))
set_option maxRecDepth 100000 in
set_option maxHeartbeats 4000000 in
theorem c_X1_addDemand (l : Launch) (g : GG) (S : St) (a0 : Nat) (a1 : Nat) (a2 : Int32) (a3 : Nat) (a4 : Int32) : Ct l yX1_addDemand cX1_addDemand 11 none rm_X1_addDemand g aU pU [rv g a0, rv g a1, .int a2, rv g a3, .int a4] S (f_X1_addDemand S a0 a1 a2 a3 a4) := by
  refine Ct.mk (cf := cw (0, 0)) (by decide +kernel) (cat_r (cat_r (cat_i (cat_r (cat_i cat_n))))) (Nat.le_of_ble_eq_true rfl) rfl ?_
  intro X hXl hin C
  show J X g _ _ 0 [(0, rv g a0), (1, rv g a1), (2, .int a2), (3, rv g a3), (4, .int a4)] [] S (f_X1_addDemand S a0 a1 a2 a3 a4)
  unfold f_X1_addDemand
  refine J.aload_n (pc := 0) C (x := a1) dX1_addDemand_0 rfl rfl ?_
  refine J.aload_n (pc := 1) C (x := a3) dX1_addDemand_1 rfl rfl ?_
  refine J.iload (pc := 2) C dX1_addDemand_2 rfl ?_
  refine J.vI (pc := 4) C mv_X3_timeOfRow wm_RX1_93 (fun l => c_X3_timeOfRow l g S a1 a3 a4) ⟨⟨Nat.zero_le _, Nat.zero_le _⟩, rfl, rfl⟩ rfl ⟨Nat.le_of_ble_eq_true rfl, Nat.le_of_ble_eq_true rfl⟩ rfl ct_n (Nat.le_of_ble_eq_true rfl) dX1_addDemand_4 (fun r1 => ?_)
  refine J.istore (pc := 7) C (lv' := [(0, rv g a0), (1, rv g a1), (2, .int a2), (3, rv g a3), (4, .int a4), (5, .int r1)]) dX1_addDemand_7 (Nat.le_of_ble_eq_true rfl) (lsf_r (lsf_r (lsf_i (lsf_r (lsf_i lsf_n))))) rfl ?_
  refine J.aload_n (pc := 9) C (x := a1) dX1_addDemand_9 rfl rfl ?_
  refine J.iload (pc := 10) C dX1_addDemand_10 rfl ?_
  refine J.vI (pc := 12) C mv_X3_percentAt wm_RX1_97 (fun l => c_X3_percentAt l g S a1 r1) ⟨⟨Nat.zero_le _, Nat.zero_le _⟩, rfl, rfl⟩ rfl ⟨Nat.le_of_ble_eq_true rfl, Nat.le_of_ble_eq_true rfl⟩ rfl ct_n (Nat.le_of_ble_eq_true rfl) dX1_addDemand_12 (fun r2 => ?_)
  refine J.istore (pc := 15) C (lv' := [(0, rv g a0), (1, rv g a1), (2, .int a2), (3, rv g a3), (4, .int a4), (5, .int r1), (6, .int r2)]) dX1_addDemand_15 (Nat.le_of_ble_eq_true rfl) (lsf_r (lsf_r (lsf_i (lsf_r (lsf_i (lsf_i lsf_n)))))) rfl ?_
  refine J.iconst (pc := 17) C dX1_addDemand_17 ki_0 ?_
  refine J.istore (pc := 18) C (lv' := [(0, rv g a0), (1, rv g a1), (2, .int a2), (3, rv g a3), (4, .int a4), (5, .int r1), (6, .int r2), (7, .int 0)]) dX1_addDemand_18 (Nat.le_of_ble_eq_true rfl) (lsf_r (lsf_r (lsf_i (lsf_r (lsf_i (lsf_i (lsf_i lsf_n))))))) rfl ?_
  refine J.iconst (pc := 20) C dX1_addDemand_20 ki_0 ?_
  refine J.istore (pc := 21) C (lv' := [(0, rv g a0), (1, rv g a1), (2, .int a2), (3, rv g a3), (4, .int a4), (5, .int r1), (6, .int r2), (7, .int 0), (8, .int 0)]) dX1_addDemand_21 (Nat.le_of_ble_eq_true rfl) (lsf_r (lsf_r (lsf_i (lsf_r (lsf_i (lsf_i (lsf_i (lsf_i lsf_n)))))))) rfl ?_
  refine J.aload_n (pc := 23) C (x := a1) dX1_addDemand_23 rfl rfl ?_
  refine J.iload (pc := 24) C dX1_addDemand_24 rfl ?_
  refine J.iload (pc := 26) C dX1_addDemand_26 rfl ?_
  refine J.iload_n (pc := 28) C dX1_addDemand_28 rfl rfl ?_
  refine J.iconst (pc := 29) C dX1_addDemand_29 ki_0 ?_
  refine J.aload_n (pc := 30) C (x := a0) dX1_addDemand_30 rfl rfl ?_
  refine J.getR (pc := 31) C fl_RX1_21 rfl dX1_addDemand_31 ?_
  refine J.vU (pc := 34) C mv_X3_paint wm_RX1_100 (fun l => c_X3_paint l g S a1 a4 r1 a2 0 (S.2.1 a0 4)) ⟨⟨Nat.zero_le _, Nat.zero_le _⟩, rfl, rfl⟩ rfl ⟨Nat.le_of_ble_eq_true rfl, Nat.le_of_ble_eq_true rfl⟩ rfl ct_n (Nat.le_of_ble_eq_true rfl) dX1_addDemand_34 (fun S_3 => ?_)
  refine J.aload_n (pc := 37) C (x := a1) dX1_addDemand_37 rfl rfl ?_
  refine J.iload (pc := 38) C dX1_addDemand_38 rfl ?_
  refine J.iload (pc := 40) C dX1_addDemand_40 rfl ?_
  refine J.iload_n (pc := 42) C dX1_addDemand_42 rfl rfl ?_
  refine J.ldc (pc := 43) C wc_RX1_104 dX1_addDemand_43 ?_
  refine J.aload_n (pc := 45) C (x := a0) dX1_addDemand_45 rfl rfl ?_
  refine J.getR (pc := 46) C fl_RX1_24 rfl dX1_addDemand_46 ?_
  refine J.vU (pc := 49) C mv_X3_paint wm_RX1_100 (fun l => c_X3_paint l g S_3 a1 a4 r1 a2 65535 (S_3.2.1 a0 5)) ⟨⟨Nat.zero_le _, Nat.zero_le _⟩, rfl, rfl⟩ rfl ⟨Nat.le_of_ble_eq_true rfl, Nat.le_of_ble_eq_true rfl⟩ rfl ct_n (Nat.le_of_ble_eq_true rfl) dX1_addDemand_49 (fun S_4 => ?_)
  refine J.iconst (pc := 52) C dX1_addDemand_52 ki_0 ?_
  refine J.istore (pc := 53) C (lv' := [(0, rv g a0), (1, rv g a1), (2, .int a2), (3, rv g a3), (4, .int a4), (5, .int r1), (6, .int r2), (7, .int 0), (8, .int 0), (9, .int 0)]) dX1_addDemand_53 (Nat.le_of_ble_eq_true rfl) (lsf_r (lsf_r (lsf_i (lsf_r (lsf_i (lsf_i (lsf_i (lsf_i (lsf_i lsf_n))))))))) rfl ?_
  refine J.pick [0, 1, 3, 4, 5, 6, 7, 8, 9] rfl ?_
  refine w_X1_addDemand_B55 C _ _ _ _ _ _ _ _ (fun y7_11 y8_12 => ?_) FU _ _ _
  refine J.aload_n (pc := 137) C (x := a0) dX1_addDemand_137 rfl rfl ?_
  refine J.getI (pc := 138) C fl_RX1_66 rfl dX1_addDemand_138 ?_
  refine J.aload_n (pc := 141) C (x := a0) dX1_addDemand_141 rfl rfl ?_
  refine J.getR (pc := 142) C fl_RX1_9 rfl dX1_addDemand_142 ?_
  refine J.alen (pc := 145) C 10 (by decide) dX1_addDemand_145 ?_
  refine J.icmp_ge (pc := 146) C (tgt := 216) dX1_addDemand_146 rfl ?_ ?_
  · exact J.vret (pc := 216) C rfl rfl ⟨Nat.le_refl _, Nat.le_refl _⟩ dX1_addDemand_216
  · refine J.aload_n (pc := 149) C (x := a0) dX1_addDemand_149 rfl rfl ?_
    refine J.getI (pc := 150) C fl_RX1_66 rfl dX1_addDemand_150 ?_
    refine J.aload_n (pc := 153) C (x := a0) dX1_addDemand_153 rfl rfl ?_
    refine J.getR (pc := 154) C fl_RX1_15 rfl dX1_addDemand_154 ?_
    refine J.alen (pc := 157) C 10 (by decide) dX1_addDemand_157 ?_
    refine J.icmp_ge (pc := 158) C (tgt := 216) dX1_addDemand_158 rfl ?_ ?_
    · exact J.vret (pc := 216) C rfl rfl ⟨Nat.le_refl _, Nat.le_refl _⟩ dX1_addDemand_216
    · refine J.aload_n (pc := 161) C (x := a0) dX1_addDemand_161 rfl rfl ?_
      refine J.getI (pc := 162) C fl_RX1_66 rfl dX1_addDemand_162 ?_
      refine J.aload_n (pc := 165) C (x := a0) dX1_addDemand_165 rfl rfl ?_
      refine J.getR (pc := 166) C fl_RX1_18 rfl dX1_addDemand_166 ?_
      refine J.alen (pc := 169) C 10 (by decide) dX1_addDemand_169 ?_
      refine J.icmp_ge (pc := 170) C (tgt := 216) dX1_addDemand_170 rfl ?_ ?_
      · exact J.vret (pc := 216) C rfl rfl ⟨Nat.le_refl _, Nat.le_refl _⟩ dX1_addDemand_216
      · refine J.aload_n (pc := 173) C (x := a0) dX1_addDemand_173 rfl rfl ?_
        refine J.getR (pc := 174) C fl_RX1_9 rfl dX1_addDemand_174 ?_
        refine J.aload_n (pc := 177) C (x := a0) dX1_addDemand_177 rfl rfl ?_
        refine J.getI (pc := 178) C fl_RX1_66 rfl dX1_addDemand_178 ?_
        refine J.iload (pc := 181) C dX1_addDemand_181 rfl ?_
        refine J.iasts (pc := 183) C dX1_addDemand_183 (fun S_13 => ?_)
        refine J.aload_n (pc := 184) C (x := a0) dX1_addDemand_184 rfl rfl ?_
        refine J.getR (pc := 185) C fl_RX1_15 rfl dX1_addDemand_185 ?_
        refine J.aload_n (pc := 188) C (x := a0) dX1_addDemand_188 rfl rfl ?_
        refine J.getI (pc := 189) C fl_RX1_66 rfl dX1_addDemand_189 ?_
        refine J.iload (pc := 192) C dX1_addDemand_192 rfl ?_
        refine J.iasts (pc := 194) C dX1_addDemand_194 (fun S_14 => ?_)
        refine J.aload_n (pc := 195) C (x := a0) dX1_addDemand_195 rfl rfl ?_
        refine J.getR (pc := 196) C fl_RX1_18 rfl dX1_addDemand_196 ?_
        refine J.aload_n (pc := 199) C (x := a0) dX1_addDemand_199 rfl rfl ?_
        refine J.getI (pc := 200) C fl_RX1_66 rfl dX1_addDemand_200 ?_
        refine J.iload (pc := 203) C dX1_addDemand_203 rfl ?_
        refine J.iasts (pc := 205) C dX1_addDemand_205 (fun S_15 => ?_)
        refine J.aload_n (pc := 206) C (x := a0) dX1_addDemand_206 rfl rfl ?_
        refine J.dup (pc := 207) C dX1_addDemand_207 (rv_cat g _) ?_
        refine J.getI (pc := 208) C fl_RX1_66 rfl dX1_addDemand_208 ?_
        refine J.iconst (pc := 211) C dX1_addDemand_211 ki_1 ?_
        refine J.iadd (pc := 212) C dX1_addDemand_212 ?_
        refine J.putIs (pc := 213) C fl_RX1_66 rfl (fun r h => by cases h; rfl) rfl rfl dX1_addDemand_213 (fun S_16 => ?_)
        exact J.vret (pc := 216) C rfl rfl ⟨Nat.le_refl _, Nat.le_refl _⟩ dX1_addDemand_216
abbrev rm_X1_gatherDemands : Room := { frames := 4, cells := 0, slots := 0, locals := 104 }
def f_X1_gatherDemands_B25 (a0 : Nat) (a1 : Nat) (a2 : Int32) (a3 : Int32) (a4 : Nat) (kx25 : St → Option St) (k25 : St → Int32 → Option St) (S : St) (x5 : Int32) : Option St :=
  (if a4 = 0 then
  (kx25 S)
  else (chk (okc S 3 a1) (bnd (f_X3_setting S a1 0) fun r3 =>
  (if r3 ≤ x5 then
  (kx25 S)
  else (chk (okc S 0 a4)
  (bnd (f_X7_holds (S.1 a4 1) x5) fun r4 =>
  (if r4 = 0 then
  (chk (okc S 1 a0) (bnd (f_X1_addDemand S a0 a1 a2 a4 x5) fun S_5 =>
  (k25 S_5 (x5 + 1))))
  else (k25 S (x5 + 1)))))))))
set_option maxRecDepth 100000 in
set_option maxHeartbeats 4000000 in
theorem w_X1_gatherDemands_B25 {X : CT} {g : GG} (C : CX X g cX1_gatherDemands RX1 none 6 rm_X1_gatherDemands) (a0 : Nat) (a1 : Nat) (a2 : Int32) (a3 : Int32) (a4 : Nat) (kx25 : St → Option St) (hkx25 : ∀ (S : St), J X g (Qm X g aU pU) (cw (0, 0)) 69 [(0, rv g a0), (1, rv g a1), (2, .int a2), (3, .int a3)] [] S (kx25 S)) : ∀ (n : Nat) (S : St) (x5 : Int32), J X g (Qm X g aU pU) (cw (0, 0)) 25 [(0, rv g a0), (1, rv g a1), (2, .int a2), (3, .int a3), (4, rv g a4), (5, .int x5)] [] S (wl2 (f_X1_gatherDemands_B25 a0 a1 a2 a3 a4 kx25) n S x5) := by
  refine J.loop2 (lvf := fun (S : St) (x5 : Int32) => [(0, rv g a0), (1, rv g a1), (2, .int a2), (3, .int a3), (4, rv g a4), (5, .int x5)]) (Sf := fun (S : St) (x5 : Int32) => S) ?_
  intro k25 hk25 S x5
  show J X g _ _ 25 [(0, rv g a0), (1, rv g a1), (2, .int a2), (3, .int a3), (4, rv g a4), (5, .int x5)] [] S (f_X1_gatherDemands_B25 a0 a1 a2 a3 a4 kx25 k25 S x5)
  unfold f_X1_gatherDemands_B25
  refine J.aload (pc := 25) C (x := a4) dX1_gatherDemands_25 rfl ?_
  refine J.ifnull (pc := 27) C (tgt := 69) dX1_gatherDemands_27 rfl ?_ ?_
  · exact J.pick [0, 1, 2, 3] rfl (hkx25 _)
  · refine J.iload (pc := 30) C dX1_gatherDemands_30 rfl ?_
    refine J.aload_n (pc := 32) C (x := a1) dX1_gatherDemands_32 rfl rfl ?_
    refine J.iconst (pc := 33) C dX1_gatherDemands_33 ki_0 ?_
    refine J.vI (pc := 34) C mv_X3_setting wm_RX1_76 (fun l => c_X3_setting l g S a1 0) ⟨⟨Nat.zero_le _, Nat.zero_le _⟩, rfl, rfl⟩ rfl ⟨Nat.le_of_ble_eq_true rfl, Nat.le_of_ble_eq_true rfl⟩ rfl (ct_i ct_n) (Nat.le_of_ble_eq_true rfl) dX1_gatherDemands_34 (fun r3 => ?_)
    refine J.icmp_ge (pc := 37) C (tgt := 69) dX1_gatherDemands_37 rfl ?_ ?_
    · exact J.pick [0, 1, 2, 3] rfl (hkx25 _)
    · refine J.aload (pc := 40) C (x := a4) dX1_gatherDemands_40 rfl ?_
      refine J.getI (pc := 42) C fl_RX1_80 rfl dX1_gatherDemands_42 ?_
      refine J.iload (pc := 45) C dX1_gatherDemands_45 rfl ?_
      refine J.snI (pc := 47) C ms_X7_holds wn_RX1_85 (fun l => c_X7_holds l g S (S.1 a4 1) x5) ⟨⟨Nat.zero_le _, Nat.zero_le _⟩, rfl, rfl⟩ rfl ⟨Nat.le_of_ble_eq_true rfl, Nat.le_of_ble_eq_true rfl⟩ rfl ct_n (Nat.le_of_ble_eq_true rfl) dX1_gatherDemands_47 (fun r4 => ?_)
      refine J.if_ne (pc := 50) C (tgt := 63) dX1_gatherDemands_50 rfl ?_ ?_
      · refine J.iinc (pc := 63) C (lv' := [(0, rv g a0), (1, rv g a1), (2, .int a2), (3, .int a3), (4, rv g a4), (5, .int (x5 + 1))]) dX1_gatherDemands_63 rfl (Nat.le_of_ble_eq_true rfl) (lsf_r (lsf_r (lsf_i (lsf_i (lsf_r (lsf_i lsf_n)))))) ki_1 rfl ?_
        refine J.goto (pc := 66) C (tgt := 25) dX1_gatherDemands_66 rfl ?_
        exact (hk25 _ _)
      · refine J.aload_n (pc := 53) C (x := a0) dX1_gatherDemands_53 rfl rfl ?_
        refine J.aload_n (pc := 54) C (x := a1) dX1_gatherDemands_54 rfl rfl ?_
        refine J.iload_n (pc := 55) C dX1_gatherDemands_55 rfl rfl ?_
        refine J.aload (pc := 56) C (x := a4) dX1_gatherDemands_56 rfl ?_
        refine J.iload (pc := 58) C dX1_gatherDemands_58 rfl ?_
        refine J.vU (pc := 60) C mv_X1_addDemand wm_RX1_89 (fun l => c_X1_addDemand l g S a0 a1 a2 a4 x5) ⟨⟨Nat.zero_le _, Nat.zero_le _⟩, rfl, rfl⟩ rfl ⟨Nat.le_of_ble_eq_true rfl, Nat.le_of_ble_eq_true rfl⟩ rfl ct_n (Nat.le_of_ble_eq_true rfl) dX1_gatherDemands_60 (fun S_5 => ?_)
        refine J.iinc (pc := 63) C (lv' := [(0, rv g a0), (1, rv g a1), (2, .int a2), (3, .int a3), (4, rv g a4), (5, .int (x5 + 1))]) dX1_gatherDemands_63 rfl (Nat.le_of_ble_eq_true rfl) (lsf_r (lsf_r (lsf_i (lsf_i (lsf_r (lsf_i lsf_n)))))) ki_1 rfl ?_
        refine J.goto (pc := 66) C (tgt := 25) dX1_gatherDemands_66 rfl ?_
        exact (hk25 _ _)
def f_X1_gatherDemands_B7 (a0 : Nat) (a1 : Nat) (a2 : Int32) (kx7 : St → Option St) (k7 : St → Int32 → Option St) (S : St) (x3 : Int32) : Option St :=
  (chk (okc S 3 a1)
  (if (S.1 a1 4) ≤ x3 then
  (kx7 S)
  else (chk (okc S 3 a1) (bnd (f_X3_frameAt S a1 x3) fun r2 =>
  (wl2 (f_X1_gatherDemands_B25 a0 a1 a2 x3 r2 (fun (S_6 : St) => (k7 S_6 (x3 + 1)))) FU S 0)))))
set_option maxRecDepth 100000 in
set_option maxHeartbeats 4000000 in
theorem w_X1_gatherDemands_B7 {X : CT} {g : GG} (C : CX X g cX1_gatherDemands RX1 none 6 rm_X1_gatherDemands) (a0 : Nat) (a1 : Nat) (a2 : Int32) (kx7 : St → Option St) (hkx7 : ∀ (S : St), J X g (Qm X g aU pU) (cw (0, 0)) 75 [] [] S (kx7 S)) : ∀ (n : Nat) (S : St) (x3 : Int32), J X g (Qm X g aU pU) (cw (0, 0)) 7 [(0, rv g a0), (1, rv g a1), (2, .int a2), (3, .int x3)] [] S (wl2 (f_X1_gatherDemands_B7 a0 a1 a2 kx7) n S x3) := by
  refine J.loop2 (lvf := fun (S : St) (x3 : Int32) => [(0, rv g a0), (1, rv g a1), (2, .int a2), (3, .int x3)]) (Sf := fun (S : St) (x3 : Int32) => S) ?_
  intro k7 hk7 S x3
  show J X g _ _ 7 [(0, rv g a0), (1, rv g a1), (2, .int a2), (3, .int x3)] [] S (f_X1_gatherDemands_B7 a0 a1 a2 kx7 k7 S x3)
  unfold f_X1_gatherDemands_B7
  refine J.iload_n (pc := 7) C dX1_gatherDemands_7 rfl rfl ?_
  refine J.aload_n (pc := 8) C (x := a1) dX1_gatherDemands_8 rfl rfl ?_
  refine J.getI (pc := 9) C fl_RX1_69 rfl dX1_gatherDemands_9 ?_
  refine J.icmp_ge (pc := 12) C (tgt := 75) dX1_gatherDemands_12 rfl ?_ ?_
  · exact J.pick [] rfl (hkx7 _)
  · refine J.aload_n (pc := 15) C (x := a1) dX1_gatherDemands_15 rfl rfl ?_
    refine J.iload_n (pc := 16) C dX1_gatherDemands_16 rfl rfl ?_
    refine J.vR (pc := 17) C mv_X3_frameAt wm_RX1_72 (fun l => c_X3_frameAt l g S a1 x3) ⟨⟨Nat.zero_le _, Nat.zero_le _⟩, rfl, rfl⟩ rfl ⟨Nat.le_of_ble_eq_true rfl, Nat.le_of_ble_eq_true rfl⟩ rfl ct_n (Nat.le_of_ble_eq_true rfl) dX1_gatherDemands_17 (fun r2 => ?_)
    refine J.astore (pc := 20) C (lv' := [(0, rv g a0), (1, rv g a1), (2, .int a2), (3, .int x3), (4, rv g r2)]) dX1_gatherDemands_20 (Nat.le_of_ble_eq_true rfl) (lsf_r (lsf_r (lsf_i (lsf_i lsf_n)))) rfl ?_
    refine J.iconst (pc := 22) C dX1_gatherDemands_22 ki_0 ?_
    refine J.istore (pc := 23) C (lv' := [(0, rv g a0), (1, rv g a1), (2, .int a2), (3, .int x3), (4, rv g r2), (5, .int 0)]) dX1_gatherDemands_23 (Nat.le_of_ble_eq_true rfl) (lsf_r (lsf_r (lsf_i (lsf_i (lsf_r lsf_n))))) rfl ?_
    refine w_X1_gatherDemands_B25 C _ _ _ _ _ _ (fun S_6 => ?_) FU _ _
    refine J.iinc (pc := 69) C (lv' := [(0, rv g a0), (1, rv g a1), (2, .int a2), (3, .int (x3 + 1))]) dX1_gatherDemands_69 rfl (Nat.le_of_ble_eq_true rfl) (lsf_r (lsf_r (lsf_i (lsf_i lsf_n)))) ki_1 rfl ?_
    refine J.goto (pc := 72) C (tgt := 7) dX1_gatherDemands_72 rfl ?_
    exact (hk7 _ _)
def f_X1_gatherDemands (S : St) (a0 : Nat) (a1 : Nat) (a2 : Int32) : Option St :=
  (chk (okc S 1 a0) (vlt (upI S a0 3 0) fun S_1 =>
  (wl2 (f_X1_gatherDemands_B7 a0 a1 a2 (fun (S_7 : St) => (some S_7))) FU S_1 0)))
set_option maxRecDepth 100000 in
set_option maxHeartbeats 4000000 in
theorem c_X1_gatherDemands (l : Launch) (g : GG) (S : St) (a0 : Nat) (a1 : Nat) (a2 : Int32) : Ct l yX1_gatherDemands cX1_gatherDemands 6 none rm_X1_gatherDemands g aU pU [rv g a0, rv g a1, .int a2] S (f_X1_gatherDemands S a0 a1 a2) := by
  refine Ct.mk (cf := cw (0, 0)) (by decide +kernel) (cat_r (cat_r (cat_i cat_n))) (Nat.le_of_ble_eq_true rfl) rfl ?_
  intro X hXl hin C
  show J X g _ _ 0 [(0, rv g a0), (1, rv g a1), (2, .int a2)] [] S (f_X1_gatherDemands S a0 a1 a2)
  unfold f_X1_gatherDemands
  refine J.aload_n (pc := 0) C (x := a0) dX1_gatherDemands_0 rfl rfl ?_
  refine J.iconst (pc := 1) C dX1_gatherDemands_1 ki_0 ?_
  refine J.putIs (pc := 2) C fl_RX1_66 rfl (fun r h => by cases h; rfl) rfl rfl dX1_gatherDemands_2 (fun S_1 => ?_)
  refine J.iconst (pc := 5) C dX1_gatherDemands_5 ki_0 ?_
  refine J.istore_n (pc := 6) C (lv' := [(0, rv g a0), (1, rv g a1), (2, .int a2), (3, .int 0)]) dX1_gatherDemands_6 rfl (Nat.le_of_ble_eq_true rfl) (lsf_r (lsf_r (lsf_i lsf_n))) rfl ?_
  refine w_X1_gatherDemands_B7 C _ _ _ _ (fun S_7 => ?_) FU _ _
  exact J.vret (pc := 75) C rfl rfl ⟨Nat.le_refl _, Nat.le_refl _⟩ dX1_gatherDemands_75
abbrev rm_X1_keepMotion : Room := { frames := 0, cells := 0, slots := 0, locals := 0 }
def f_X1_keepMotion (S : St) (a0 : Nat) (a1 : Int32) (a2 : Int32) : Option St :=
  (chk (okc S 1 a0)
  (if (S.1 a0 6) = 0 then
  (chk (okc S 1 a0) (vlt (upI S a0 7 a1) fun S_4 =>
  (chk (okc S_4 1 a0) (vlt (upI S_4 a0 8 a2) fun S_5 =>
  (chk (okc S_5 1 a0) (vlt (upI S_5 a0 9 a1) fun S_6 =>
  (chk (okc S_6 1 a0) (vlt (upI S_6 a0 10 a2) fun S_7 =>
  (chk (okc S_7 1 a0)
  (chk (okc S_7 1 a0) (vlt (upI S_7 a0 6 ((S_7.1 a0 6) + 1)) fun S_8 =>
  (some S_8))))))))))))
  else (chk (okc S 1 a0) (vlt (upI S a0 9 a1) fun S_1 =>
  (chk (okc S_1 1 a0) (vlt (upI S_1 a0 10 a2) fun S_2 =>
  (chk (okc S_2 1 a0)
  (chk (okc S_2 1 a0) (vlt (upI S_2 a0 6 ((S_2.1 a0 6) + 1)) fun S_3 =>
  (some S_3))))))))))
set_option maxRecDepth 100000 in
set_option maxHeartbeats 4000000 in
theorem c_X1_keepMotion (l : Launch) (g : GG) (S : St) (a0 : Nat) (a1 : Int32) (a2 : Int32) : Ct l yX1_keepMotion cX1_keepMotion 3 none rm_X1_keepMotion g aU pU [rv g a0, .int a1, .int a2] S (f_X1_keepMotion S a0 a1 a2) := by
  refine Ct.mk (cf := cw (0, 0)) (by decide +kernel) (cat_r (cat_i (cat_i cat_n))) (Nat.le_of_ble_eq_true rfl) rfl ?_
  intro X hXl hin C
  show J X g _ _ 0 [(0, rv g a0), (1, .int a1), (2, .int a2)] [] S (f_X1_keepMotion S a0 a1 a2)
  unfold f_X1_keepMotion
  refine J.aload_n (pc := 0) C (x := a0) dX1_keepMotion_0 rfl rfl ?_
  refine J.getI (pc := 1) C fl_RX1_33 rfl dX1_keepMotion_1 ?_
  refine J.if_ne (pc := 4) C (tgt := 17) dX1_keepMotion_4 rfl ?_ ?_
  · refine J.aload_n (pc := 17) C (x := a0) dX1_keepMotion_17 rfl rfl ?_
    refine J.iload_n (pc := 18) C dX1_keepMotion_18 rfl rfl ?_
    refine J.putIs (pc := 19) C fl_RX1_60 rfl (fun r h => by cases h; rfl) rfl rfl dX1_keepMotion_19 (fun S_1 => ?_)
    refine J.aload_n (pc := 22) C (x := a0) dX1_keepMotion_22 rfl rfl ?_
    refine J.iload_n (pc := 23) C dX1_keepMotion_23 rfl rfl ?_
    refine J.putIs (pc := 24) C fl_RX1_63 rfl (fun r h => by cases h; rfl) rfl rfl dX1_keepMotion_24 (fun S_2 => ?_)
    refine J.aload_n (pc := 27) C (x := a0) dX1_keepMotion_27 rfl rfl ?_
    refine J.dup (pc := 28) C dX1_keepMotion_28 (rv_cat g _) ?_
    refine J.getI (pc := 29) C fl_RX1_33 rfl dX1_keepMotion_29 ?_
    refine J.iconst (pc := 32) C dX1_keepMotion_32 ki_1 ?_
    refine J.iadd (pc := 33) C dX1_keepMotion_33 ?_
    refine J.putIs (pc := 34) C fl_RX1_33 rfl (fun r h => by cases h; rfl) rfl rfl dX1_keepMotion_34 (fun S_3 => ?_)
    exact J.vret (pc := 37) C rfl rfl ⟨Nat.le_refl _, Nat.le_refl _⟩ dX1_keepMotion_37
  · refine J.aload_n (pc := 7) C (x := a0) dX1_keepMotion_7 rfl rfl ?_
    refine J.iload_n (pc := 8) C dX1_keepMotion_8 rfl rfl ?_
    refine J.putIs (pc := 9) C fl_RX1_54 rfl (fun r h => by cases h; rfl) rfl rfl dX1_keepMotion_9 (fun S_4 => ?_)
    refine J.aload_n (pc := 12) C (x := a0) dX1_keepMotion_12 rfl rfl ?_
    refine J.iload_n (pc := 13) C dX1_keepMotion_13 rfl rfl ?_
    refine J.putIs (pc := 14) C fl_RX1_57 rfl (fun r h => by cases h; rfl) rfl rfl dX1_keepMotion_14 (fun S_5 => ?_)
    refine J.aload_n (pc := 17) C (x := a0) dX1_keepMotion_17 rfl rfl ?_
    refine J.iload_n (pc := 18) C dX1_keepMotion_18 rfl rfl ?_
    refine J.putIs (pc := 19) C fl_RX1_60 rfl (fun r h => by cases h; rfl) rfl rfl dX1_keepMotion_19 (fun S_6 => ?_)
    refine J.aload_n (pc := 22) C (x := a0) dX1_keepMotion_22 rfl rfl ?_
    refine J.iload_n (pc := 23) C dX1_keepMotion_23 rfl rfl ?_
    refine J.putIs (pc := 24) C fl_RX1_63 rfl (fun r h => by cases h; rfl) rfl rfl dX1_keepMotion_24 (fun S_7 => ?_)
    refine J.aload_n (pc := 27) C (x := a0) dX1_keepMotion_27 rfl rfl ?_
    refine J.dup (pc := 28) C dX1_keepMotion_28 (rv_cat g _) ?_
    refine J.getI (pc := 29) C fl_RX1_33 rfl dX1_keepMotion_29 ?_
    refine J.iconst (pc := 32) C dX1_keepMotion_32 ki_1 ?_
    refine J.iadd (pc := 33) C dX1_keepMotion_33 ?_
    refine J.putIs (pc := 34) C fl_RX1_33 rfl (fun r h => by cases h; rfl) rfl rfl dX1_keepMotion_34 (fun S_8 => ?_)
    exact J.vret (pc := 37) C rfl rfl ⟨Nat.le_refl _, Nat.le_refl _⟩ dX1_keepMotion_37
abbrev rm_X1_meetsDemands : Room := { frames := 2, cells := 0, slots := 0, locals := 45 }
def f_X1_meetsDemands_B3 (S : St) (a0 : Nat) (a1 : Int32) (a2 : Int32) (a3 : Int32) (kx3 : Option Int32) (k3 : Int32 → Option Int32) (x4 : Int32) : Option Int32 :=
  (chk (okc S 1 a0)
  (if (S.1 a0 3) ≤ x4 then
  kx3
  else (chk (okc S 1 a0)
  (bnd (f_X7_numberIn S (S.2.1 a0 0) x4) fun r1 =>
  (bnd (f_X7_columnsCovered (a1 + (a2 * r1)) a3) fun r2 =>
  (chk (okc S 1 a0)
  (bnd (f_X7_numberIn S (S.2.1 a0 2) x4) fun r3 =>
  (if (r2 &&& r3) = 0 then
  (chk (okc S 1 a0)
  (bnd (f_X7_numberIn S (S.2.1 a0 1) x4) fun r4 =>
  (if (r4 &&& (r2 ^^^ (-1))) = 0 then
  (k3 (x4 + 1))
  else (some 0))))
  else (some 0)))))))))
set_option maxRecDepth 100000 in
set_option maxHeartbeats 4000000 in
theorem w_X1_meetsDemands_B3 {X : CT} {g : GG} (C : CX X g cX1_meetsDemands RX1 (some .boolean) 6 rm_X1_meetsDemands) (S : St) (a0 : Nat) (a1 : Int32) (a2 : Int32) (a3 : Int32) (kx3 : Option Int32) (hkx3 : J X g (Qm X g aI (pK S)) (cw (0, 0)) 71 [] [] S (kx3)) : ∀ (n : Nat) (x4 : Int32), J X g (Qm X g aI (pK S)) (cw (0, 0)) 3 [(0, rv g a0), (1, .int a1), (2, .int a2), (3, .int a3), (4, .int x4)] [] S (wl1 (f_X1_meetsDemands_B3 S a0 a1 a2 a3 kx3) n x4) := by
  refine J.loop1 (lvf := fun (x4 : Int32) => [(0, rv g a0), (1, .int a1), (2, .int a2), (3, .int a3), (4, .int x4)]) (Sf := fun (x4 : Int32) => S) ?_
  intro k3 hk3 x4
  show J X g _ _ 3 [(0, rv g a0), (1, .int a1), (2, .int a2), (3, .int a3), (4, .int x4)] [] S (f_X1_meetsDemands_B3 S a0 a1 a2 a3 kx3 k3 x4)
  unfold f_X1_meetsDemands_B3
  refine J.iload (pc := 3) C dX1_meetsDemands_3 rfl ?_
  refine J.aload_n (pc := 5) C (x := a0) dX1_meetsDemands_5 rfl rfl ?_
  refine J.getI (pc := 6) C fl_RX1_66 rfl dX1_meetsDemands_6 ?_
  refine J.icmp_ge (pc := 9) C (tgt := 71) dX1_meetsDemands_9 rfl ?_ ?_
  · exact J.pick [] rfl hkx3
  · refine J.iload_n (pc := 12) C dX1_meetsDemands_12 rfl rfl ?_
    refine J.iload_n (pc := 13) C dX1_meetsDemands_13 rfl rfl ?_
    refine J.aload_n (pc := 14) C (x := a0) dX1_meetsDemands_14 rfl rfl ?_
    refine J.getR (pc := 15) C fl_RX1_9 rfl dX1_meetsDemands_15 ?_
    refine J.iload (pc := 18) C dX1_meetsDemands_18 rfl ?_
    refine J.snI (pc := 20) C ms_X7_numberIn wn_RX1_109 (fun l => c_X7_numberIn l g S (S.2.1 a0 0) x4) ⟨⟨Nat.zero_le _, Nat.zero_le _⟩, rfl, rfl⟩ rfl ⟨Nat.le_of_ble_eq_true rfl, Nat.le_of_ble_eq_true rfl⟩ rfl (ct_i (ct_i ct_n)) (Nat.le_of_ble_eq_true rfl) dX1_meetsDemands_20 (fun r1 => ?_)
    refine J.imul (pc := 23) C dX1_meetsDemands_23 ?_
    refine J.iadd (pc := 24) C dX1_meetsDemands_24 ?_
    refine J.iload_n (pc := 25) C dX1_meetsDemands_25 rfl rfl ?_
    refine J.snI (pc := 26) C ms_X7_columnsCovered wn_RX1_116 (fun l => c_X7_columnsCovered l g S (a1 + (a2 * r1)) a3) ⟨⟨Nat.zero_le _, Nat.zero_le _⟩, rfl, rfl⟩ rfl ⟨Nat.le_of_ble_eq_true rfl, Nat.le_of_ble_eq_true rfl⟩ rfl ct_n (Nat.le_of_ble_eq_true rfl) dX1_meetsDemands_26 (fun r2 => ?_)
    refine J.istore (pc := 29) C (lv' := [(0, rv g a0), (1, .int a1), (2, .int a2), (3, .int a3), (4, .int x4), (5, .int r2)]) dX1_meetsDemands_29 (Nat.le_of_ble_eq_true rfl) (lsf_r (lsf_i (lsf_i (lsf_i (lsf_i lsf_n))))) rfl ?_
    refine J.iload (pc := 31) C dX1_meetsDemands_31 rfl ?_
    refine J.aload_n (pc := 33) C (x := a0) dX1_meetsDemands_33 rfl rfl ?_
    refine J.getR (pc := 34) C fl_RX1_18 rfl dX1_meetsDemands_34 ?_
    refine J.iload (pc := 37) C dX1_meetsDemands_37 rfl ?_
    refine J.snI (pc := 39) C ms_X7_numberIn wn_RX1_109 (fun l => c_X7_numberIn l g S (S.2.1 a0 2) x4) ⟨⟨Nat.zero_le _, Nat.zero_le _⟩, rfl, rfl⟩ rfl ⟨Nat.le_of_ble_eq_true rfl, Nat.le_of_ble_eq_true rfl⟩ rfl (ct_i ct_n) (Nat.le_of_ble_eq_true rfl) dX1_meetsDemands_39 (fun r3 => ?_)
    refine J.iand (pc := 42) C dX1_meetsDemands_42 ?_
    refine J.if_ne (pc := 43) C (tgt := 63) dX1_meetsDemands_43 rfl ?_ ?_
    · refine J.iconst (pc := 63) C dX1_meetsDemands_63 ki_0 ?_
      exact J.zret (pc := 64) C rfl rfl rfl ⟨Nat.le_refl _, Nat.le_refl _⟩ dX1_meetsDemands_64
    · refine J.aload_n (pc := 46) C (x := a0) dX1_meetsDemands_46 rfl rfl ?_
      refine J.getR (pc := 47) C fl_RX1_15 rfl dX1_meetsDemands_47 ?_
      refine J.iload (pc := 50) C dX1_meetsDemands_50 rfl ?_
      refine J.snI (pc := 52) C ms_X7_numberIn wn_RX1_109 (fun l => c_X7_numberIn l g S (S.2.1 a0 1) x4) ⟨⟨Nat.zero_le _, Nat.zero_le _⟩, rfl, rfl⟩ rfl ⟨Nat.le_of_ble_eq_true rfl, Nat.le_of_ble_eq_true rfl⟩ rfl ct_n (Nat.le_of_ble_eq_true rfl) dX1_meetsDemands_52 (fun r4 => ?_)
      refine J.iload (pc := 55) C dX1_meetsDemands_55 rfl ?_
      refine J.iconst (pc := 57) C dX1_meetsDemands_57 ki_m1 ?_
      refine J.ixor (pc := 58) C dX1_meetsDemands_58 ?_
      refine J.iand (pc := 59) C dX1_meetsDemands_59 ?_
      refine J.if_eq (pc := 60) C (tgt := 65) dX1_meetsDemands_60 rfl ?_ ?_
      · refine J.iinc (pc := 65) C (lv' := [(0, rv g a0), (1, .int a1), (2, .int a2), (3, .int a3), (4, .int (x4 + 1)), (5, .int r2)]) dX1_meetsDemands_65 rfl (Nat.le_of_ble_eq_true rfl) (lsf_r (lsf_i (lsf_i (lsf_i (lsf_i (lsf_i lsf_n)))))) ki_1 rfl ?_
        refine J.goto (pc := 68) C (tgt := 3) dX1_meetsDemands_68 rfl ?_
        exact J.pick [0, 1, 2, 3, 4] rfl (hk3 _)
      · refine J.iconst (pc := 63) C dX1_meetsDemands_63 ki_0 ?_
        exact J.zret (pc := 64) C rfl rfl rfl ⟨Nat.le_refl _, Nat.le_refl _⟩ dX1_meetsDemands_64
def f_X1_meetsDemands (S : St) (a0 : Nat) (a1 : Int32) (a2 : Int32) (a3 : Int32) : Option Int32 :=
  (wl1 (f_X1_meetsDemands_B3 S a0 a1 a2 a3 (some 1)) FU 0)
set_option maxRecDepth 100000 in
set_option maxHeartbeats 4000000 in
theorem c_X1_meetsDemands (l : Launch) (g : GG) (S : St) (a0 : Nat) (a1 : Int32) (a2 : Int32) (a3 : Int32) : Ct l yX1_meetsDemands cX1_meetsDemands 6 (some .boolean) rm_X1_meetsDemands g aI (pK S) [rv g a0, .int a1, .int a2, .int a3] S (f_X1_meetsDemands S a0 a1 a2 a3) := by
  refine Ct.mk (cf := cw (0, 0)) (by decide +kernel) (cat_r (cat_i (cat_i (cat_i cat_n)))) (Nat.le_of_ble_eq_true rfl) rfl ?_
  intro X hXl hin C
  show J X g _ _ 0 [(0, rv g a0), (1, .int a1), (2, .int a2), (3, .int a3)] [] S (f_X1_meetsDemands S a0 a1 a2 a3)
  unfold f_X1_meetsDemands
  refine J.iconst (pc := 0) C dX1_meetsDemands_0 ki_0 ?_
  refine J.istore (pc := 1) C (lv' := [(0, rv g a0), (1, .int a1), (2, .int a2), (3, .int a3), (4, .int 0)]) dX1_meetsDemands_1 (Nat.le_of_ble_eq_true rfl) (lsf_r (lsf_i (lsf_i (lsf_i lsf_n)))) rfl ?_
  refine w_X1_meetsDemands_B3 C _ _ _ _ _ _ ?_ FU _
  refine J.iconst (pc := 71) C dX1_meetsDemands_71 ki_1 ?_
  exact J.zret (pc := 72) C rfl rfl rfl ⟨Nat.le_refl _, Nat.le_refl _⟩ dX1_meetsDemands_72
abbrev rm_X1_run : Room := { frames := 5, cells := 0, slots := 0, locals := 129 }
def f_X1_run_B39 (a0 : Nat) (a3 : Nat) (a4 : Int32) (kx39 : St → Option St) (k39 : St → Int32 → Option St) (S : St) (x5 : Int32) : Option St :=
  (if (100 : Int32) < x5 then
  (kx39 S)
  else (chk (okc S 5 a3)
  (chk (okc S 1 a0) (bnd (f_X1_meetsDemands S a0 a4 x5 (S.1 a3 4)) fun r4 =>
  (if r4 = 0 then
  (k39 S (x5 + 10))
  else (chk (okc S 1 a0) (bnd (f_X1_keepMotion S a0 a4 x5) fun S_5 =>
  (k39 S_5 (x5 + 10)))))))))
set_option maxRecDepth 100000 in
set_option maxHeartbeats 4000000 in
theorem w_X1_run_B39 {X : CT} {g : GG} (C : CX X g cX1_run RX1 none 6 rm_X1_run) (a0 : Nat) (a3 : Nat) (a4 : Int32) (kx39 : St → Option St) (hkx39 : ∀ (S : St), J X g (Qm X g aU pU) (cw (0, 0)) 75 [(0, rv g a0), (3, rv g a3), (4, .int a4)] [] S (kx39 S)) : ∀ (n : Nat) (S : St) (x5 : Int32), J X g (Qm X g aU pU) (cw (0, 0)) 39 [(0, rv g a0), (3, rv g a3), (4, .int a4), (5, .int x5)] [] S (wl2 (f_X1_run_B39 a0 a3 a4 kx39) n S x5) := by
  refine J.loop2 (lvf := fun (S : St) (x5 : Int32) => [(0, rv g a0), (3, rv g a3), (4, .int a4), (5, .int x5)]) (Sf := fun (S : St) (x5 : Int32) => S) ?_
  intro k39 hk39 S x5
  show J X g _ _ 39 [(0, rv g a0), (3, rv g a3), (4, .int a4), (5, .int x5)] [] S (f_X1_run_B39 a0 a3 a4 kx39 k39 S x5)
  unfold f_X1_run_B39
  refine J.iload (pc := 39) C dX1_run_39 rfl ?_
  refine J.bipush (pc := 41) C dX1_run_41 kb_100 ?_
  refine J.icmp_gt (pc := 43) C (tgt := 75) dX1_run_43 rfl ?_ ?_
  · exact J.pick [0, 1, 2] rfl (hkx39 _)
  · refine J.aload_n (pc := 46) C (x := a0) dX1_run_46 rfl rfl ?_
    refine J.iload (pc := 47) C dX1_run_47 rfl ?_
    refine J.iload (pc := 49) C dX1_run_49 rfl ?_
    refine J.aload_n (pc := 51) C (x := a3) dX1_run_51 rfl rfl ?_
    refine J.getI (pc := 52) C fl_RX1_41 rfl dX1_run_52 ?_
    refine J.vI (pc := 55) C mv_X1_meetsDemands wm_RX1_46 (fun l => c_X1_meetsDemands l g S a0 a4 x5 (S.1 a3 4)) ⟨⟨Nat.zero_le _, Nat.zero_le _⟩, rfl, rfl⟩ rfl ⟨Nat.le_of_ble_eq_true rfl, Nat.le_of_ble_eq_true rfl⟩ rfl ct_n (Nat.le_of_ble_eq_true rfl) dX1_run_55 (fun r4 => ?_)
    refine J.if_eq (pc := 58) C (tgt := 69) dX1_run_58 rfl ?_ ?_
    · refine J.iinc (pc := 69) C (lv' := [(0, rv g a0), (3, rv g a3), (4, .int a4), (5, .int (x5 + 10))]) dX1_run_69 rfl (Nat.le_of_ble_eq_true rfl) (lsf_r (lsf_r (lsf_i (lsf_i lsf_n)))) ki_10 rfl ?_
      refine J.goto (pc := 72) C (tgt := 39) dX1_run_72 rfl ?_
      exact (hk39 _ _)
    · refine J.aload_n (pc := 61) C (x := a0) dX1_run_61 rfl rfl ?_
      refine J.iload (pc := 62) C dX1_run_62 rfl ?_
      refine J.iload (pc := 64) C dX1_run_64 rfl ?_
      refine J.vU (pc := 66) C mv_X1_keepMotion wm_RX1_50 (fun l => c_X1_keepMotion l g S a0 a4 x5) ⟨⟨Nat.zero_le _, Nat.zero_le _⟩, rfl, rfl⟩ rfl ⟨Nat.le_of_ble_eq_true rfl, Nat.le_of_ble_eq_true rfl⟩ rfl ct_n (Nat.le_of_ble_eq_true rfl) dX1_run_66 (fun S_5 => ?_)
      refine J.iinc (pc := 69) C (lv' := [(0, rv g a0), (3, rv g a3), (4, .int a4), (5, .int (x5 + 10))]) dX1_run_69 rfl (Nat.le_of_ble_eq_true rfl) (lsf_r (lsf_r (lsf_i (lsf_i lsf_n)))) ki_10 rfl ?_
      refine J.goto (pc := 72) C (tgt := 39) dX1_run_72 rfl ?_
      exact (hk39 _ _)
def f_X1_run_B27 (a0 : Nat) (a3 : Nat) (kx27 : St → Option St) (k27 : St → Int32 → Option St) (S : St) (x4 : Int32) : Option St :=
  (if (2400 : Int32) < x4 then
  (kx27 S)
  else (wl2 (f_X1_run_B39 a0 a3 x4 (fun (S_6 : St) => (k27 S_6 (x4 + 100)))) FU S (-100)))
set_option maxRecDepth 100000 in
set_option maxHeartbeats 4000000 in
theorem w_X1_run_B27 {X : CT} {g : GG} (C : CX X g cX1_run RX1 none 6 rm_X1_run) (a0 : Nat) (a3 : Nat) (kx27 : St → Option St) (hkx27 : ∀ (S : St), J X g (Qm X g aU pU) (cw (0, 0)) 81 [] [] S (kx27 S)) : ∀ (n : Nat) (S : St) (x4 : Int32), J X g (Qm X g aU pU) (cw (0, 0)) 27 [(0, rv g a0), (3, rv g a3), (4, .int x4)] [] S (wl2 (f_X1_run_B27 a0 a3 kx27) n S x4) := by
  refine J.loop2 (lvf := fun (S : St) (x4 : Int32) => [(0, rv g a0), (3, rv g a3), (4, .int x4)]) (Sf := fun (S : St) (x4 : Int32) => S) ?_
  intro k27 hk27 S x4
  show J X g _ _ 27 [(0, rv g a0), (3, rv g a3), (4, .int x4)] [] S (f_X1_run_B27 a0 a3 kx27 k27 S x4)
  unfold f_X1_run_B27
  refine J.iload (pc := 27) C dX1_run_27 rfl ?_
  refine J.sipush (pc := 29) C dX1_run_29 ks_2400 ?_
  refine J.icmp_gt (pc := 32) C (tgt := 81) dX1_run_32 rfl ?_ ?_
  · exact J.pick [] rfl (hkx27 _)
  · refine J.bipush (pc := 35) C dX1_run_35 kb_m100 ?_
    refine J.istore (pc := 37) C (lv' := [(0, rv g a0), (3, rv g a3), (4, .int x4), (5, .int (-100))]) dX1_run_37 (Nat.le_of_ble_eq_true rfl) (lsf_r (lsf_r (lsf_i lsf_n))) rfl ?_
    refine w_X1_run_B39 C _ _ _ _ (fun S_6 => ?_) FU _ _
    refine J.iinc (pc := 75) C (lv' := [(0, rv g a0), (3, rv g a3), (4, .int (x4 + 100))]) dX1_run_75 rfl (Nat.le_of_ble_eq_true rfl) (lsf_r (lsf_r (lsf_i lsf_n))) ki_100 rfl ?_
    refine J.goto (pc := 78) C (tgt := 27) dX1_run_78 rfl ?_
    exact (hk27 _ _)
def f_X1_run (S : St) (a0 : Nat) (a1 : Nat) (a2 : Int32) : Option St :=
  (chk (okc S 3 a1) (bnd (f_X3_thingAt S a1 a2) fun r1 =>
  (chk (okc S 1 a0) (vlt (upI S a0 6 0) fun S_2 =>
  (if r1 = 0 then
  (some S_2)
  else (chk (okc S_2 1 a0) (bnd (f_X1_gatherDemands S_2 a0 a1 a2) fun S_3 =>
  (wl2 (f_X1_run_B27 a0 r1 (fun (S_7 : St) => (some S_7))) FU S_3 (-1000)))))))))
set_option maxRecDepth 100000 in
set_option maxHeartbeats 4000000 in
theorem c_X1_run (l : Launch) (g : GG) (S : St) (a0 : Nat) (a1 : Nat) (a2 : Int32) : Ct l yX1_run cX1_run 6 none rm_X1_run g aU pU [rv g a0, rv g a1, .int a2] S (f_X1_run S a0 a1 a2) := by
  refine Ct.mk (cf := cw (0, 0)) (by decide +kernel) (cat_r (cat_r (cat_i cat_n))) (Nat.le_of_ble_eq_true rfl) rfl ?_
  intro X hXl hin C
  show J X g _ _ 0 [(0, rv g a0), (1, rv g a1), (2, .int a2)] [] S (f_X1_run S a0 a1 a2)
  unfold f_X1_run
  refine J.aload_n (pc := 0) C (x := a1) dX1_run_0 rfl rfl ?_
  refine J.iload_n (pc := 1) C dX1_run_1 rfl rfl ?_
  refine J.vR (pc := 2) C mv_X3_thingAt wm_RX1_27 (fun l => c_X3_thingAt l g S a1 a2) ⟨⟨Nat.zero_le _, Nat.zero_le _⟩, rfl, rfl⟩ rfl ⟨Nat.le_of_ble_eq_true rfl, Nat.le_of_ble_eq_true rfl⟩ rfl ct_n (Nat.le_of_ble_eq_true rfl) dX1_run_2 (fun r1 => ?_)
  refine J.astore_n (pc := 5) C (lv' := [(0, rv g a0), (1, rv g a1), (2, .int a2), (3, rv g r1)]) dX1_run_5 rfl (Nat.le_of_ble_eq_true rfl) (lsf_r (lsf_r (lsf_i lsf_n))) rfl ?_
  refine J.aload_n (pc := 6) C (x := a0) dX1_run_6 rfl rfl ?_
  refine J.iconst (pc := 7) C dX1_run_7 ki_0 ?_
  refine J.putIs (pc := 8) C fl_RX1_33 rfl (fun r h => by cases h; rfl) rfl rfl dX1_run_8 (fun S_2 => ?_)
  refine J.aload_n (pc := 11) C (x := r1) dX1_run_11 rfl rfl ?_
  refine J.ifnonnull (pc := 12) C (tgt := 16) dX1_run_12 rfl ?_ ?_
  · refine J.aload_n (pc := 16) C (x := a0) dX1_run_16 rfl rfl ?_
    refine J.aload_n (pc := 17) C (x := a1) dX1_run_17 rfl rfl ?_
    refine J.iload_n (pc := 18) C dX1_run_18 rfl rfl ?_
    refine J.vU (pc := 19) C mv_X1_gatherDemands wm_RX1_37 (fun l => c_X1_gatherDemands l g S_2 a0 a1 a2) ⟨⟨Nat.zero_le _, Nat.zero_le _⟩, rfl, rfl⟩ rfl ⟨Nat.le_of_ble_eq_true rfl, Nat.le_of_ble_eq_true rfl⟩ rfl ct_n (Nat.le_of_ble_eq_true rfl) dX1_run_19 (fun S_3 => ?_)
    refine J.sipush (pc := 22) C dX1_run_22 ks_m1000 ?_
    refine J.istore (pc := 25) C (lv' := [(0, rv g a0), (1, rv g a1), (2, .int a2), (3, rv g r1), (4, .int (-1000))]) dX1_run_25 (Nat.le_of_ble_eq_true rfl) (lsf_r (lsf_r (lsf_i (lsf_r lsf_n)))) rfl ?_
    refine J.pick [0, 3, 4] rfl ?_
    refine w_X1_run_B27 C _ _ _ (fun S_7 => ?_) FU _ _
    exact J.vret (pc := 81) C rfl rfl ⟨Nat.le_refl _, Nat.le_refl _⟩ dX1_run_81
  · exact J.vret (pc := 15) C rfl rfl ⟨Nat.le_refl _, Nat.le_refl _⟩ dX1_run_15
abbrev rm_X7_motions : Room := { frames := 6, cells := 0, slots := 0, locals := 154 }
def f_X7_motions_J54 (S : St) (x0 : Nat) (x2 : Int32) : Option (Int32 × St) :=
  (chk (okc S 7 x0)
  (chk (okc S 1 (S.2.1 x0 5)) (bnd (f_X1_answer S (S.2.1 x0 5) x2) fun r4 =>
  (some (r4, S)))))
set_option maxRecDepth 100000 in
set_option maxHeartbeats 4000000 in
theorem w_X7_motions_J54 {X : CT} {g : GG} (C : CX X g cX7_motions RX7 (some .int) 3 rm_X7_motions) (S : St) (x0 : Nat) (x2 : Int32) : J X g (Qm X g aW pW) (cw (0, 0)) 54 [(0, rv g x0), (2, .int x2)] [] S (f_X7_motions_J54 S x0 x2) := by
  unfold f_X7_motions_J54
  refine J.aload_n (pc := 54) C (x := x0) dX7_motions_54 rfl rfl ?_
  refine J.getR (pc := 55) C fl_RX7_41 rfl dX7_motions_55 ?_
  refine J.iload_n (pc := 58) C dX7_motions_58 rfl rfl ?_
  refine J.vI (pc := 59) C mv_X1_answer wm_RX7_234 (fun l => c_X1_answer l g S (S.2.1 x0 5) x2) ⟨⟨Nat.zero_le _, Nat.zero_le _⟩, rfl, rfl⟩ rfl ⟨Nat.le_of_ble_eq_true rfl, Nat.le_of_ble_eq_true rfl⟩ rfl ct_n (Nat.le_of_ble_eq_true rfl) dX7_motions_59 (fun r4 => ?_)
  exact J.iret (pc := 62) C rfl rfl ⟨Nat.le_refl _, Nat.le_refl _⟩ dX7_motions_62
def f_X7_motions (S : St) (a0 : Nat) (a1 : Int32) (a2 : Int32) : Option (Int32 × St) :=
  (chk (okc S 7 a0)
  (chk (okc S 3 (S.2.1 a0 0)) (bnd (f_X3_thingAt S (S.2.1 a0 0) a1) fun r1 =>
  (if r1 = 0 then
  (some ((-10000001), S))
  else (bnd (f_X7_isWithin a2 0 4) fun r2 =>
  (if r2 = 0 then
  (some ((-10000001), S))
  else (chk (okc S 7 a0)
  (chk (okc S 7 a0)
  (chk (okc S 1 (S.2.1 a0 5)) (bnd (f_X1_run S (S.2.1 a0 5) (S.2.1 a0 0) a1) fun S_3 =>
  (if a2 ≤ 0 then
  (f_X7_motions_J54 S_3 a0 a2)
  else (chk (okc S_3 7 a0)
  (chk (okc S_3 1 (S_3.2.1 a0 5)) (bnd (f_X1_isVain S_3 (S_3.2.1 a0 5)) fun r5 =>
  (if r5 = 0 then
  (f_X7_motions_J54 S_3 a0 a2)
  else (some ((-10000004), S_3)))))))))))))))))
set_option maxRecDepth 100000 in
set_option maxHeartbeats 4000000 in
theorem c_X7_motions (l : Launch) (g : GG) (S : St) (a0 : Nat) (a1 : Int32) (a2 : Int32) : Ct l yX7_motions cX7_motions 3 (some .int) rm_X7_motions g aW pW [rv g a0, .int a1, .int a2] S (f_X7_motions S a0 a1 a2) := by
  refine Ct.mk (cf := cw (0, 0)) (by decide +kernel) (cat_r (cat_i (cat_i cat_n))) (Nat.le_of_ble_eq_true rfl) rfl ?_
  intro X hXl hin C
  show J X g _ _ 0 [(0, rv g a0), (1, .int a1), (2, .int a2)] [] S (f_X7_motions S a0 a1 a2)
  unfold f_X7_motions
  refine J.aload_n (pc := 0) C (x := a0) dX7_motions_0 rfl rfl ?_
  refine J.getR (pc := 1) C fl_RX7_12 rfl dX7_motions_1 ?_
  refine J.iload_n (pc := 4) C dX7_motions_4 rfl rfl ?_
  refine J.vR (pc := 5) C mv_X3_thingAt wm_RX7_98 (fun l => c_X3_thingAt l g S (S.2.1 a0 0) a1) ⟨⟨Nat.zero_le _, Nat.zero_le _⟩, rfl, rfl⟩ rfl ⟨Nat.le_of_ble_eq_true rfl, Nat.le_of_ble_eq_true rfl⟩ rfl ct_n (Nat.le_of_ble_eq_true rfl) dX7_motions_5 (fun r1 => ?_)
  refine J.ifnull (pc := 8) C (tgt := 20) dX7_motions_8 rfl ?_ ?_
  · refine J.ldc (pc := 20) C wc_RX7_60 dX7_motions_20 ?_
    exact J.iret (pc := 22) C rfl rfl ⟨Nat.le_refl _, Nat.le_refl _⟩ dX7_motions_22
  · refine J.iload_n (pc := 11) C dX7_motions_11 rfl rfl ?_
    refine J.iconst (pc := 12) C dX7_motions_12 ki_0 ?_
    refine J.iconst (pc := 13) C dX7_motions_13 ki_4 ?_
    refine J.sI (pc := 14) C ms_X7_isWithin wm_RX7_56 (fun l => c_X7_isWithin l g S a2 0 4) ⟨⟨Nat.zero_le _, Nat.zero_le _⟩, rfl, rfl⟩ rfl ⟨Nat.le_of_ble_eq_true rfl, Nat.le_of_ble_eq_true rfl⟩ rfl ct_n (Nat.le_of_ble_eq_true rfl) dX7_motions_14 (fun r2 => ?_)
    refine J.if_ne (pc := 17) C (tgt := 23) dX7_motions_17 rfl ?_ ?_
    · refine J.aload_n (pc := 23) C (x := a0) dX7_motions_23 rfl rfl ?_
      refine J.getR (pc := 24) C fl_RX7_41 rfl dX7_motions_24 ?_
      refine J.aload_n (pc := 27) C (x := a0) dX7_motions_27 rfl rfl ?_
      refine J.getR (pc := 28) C fl_RX7_12 rfl dX7_motions_28 ?_
      refine J.iload_n (pc := 31) C dX7_motions_31 rfl rfl ?_
      refine J.vU (pc := 32) C mv_X1_run wm_RX7_226 (fun l => c_X1_run l g S (S.2.1 a0 5) (S.2.1 a0 0) a1) ⟨⟨Nat.zero_le _, Nat.zero_le _⟩, rfl, rfl⟩ rfl ⟨Nat.le_of_ble_eq_true rfl, Nat.le_of_ble_eq_true rfl⟩ rfl ct_n (Nat.le_of_ble_eq_true rfl) dX7_motions_32 (fun S_3 => ?_)
      refine J.iload_n (pc := 35) C dX7_motions_35 rfl rfl ?_
      refine J.if_le (pc := 36) C (tgt := 54) dX7_motions_36 rfl ?_ ?_
      · exact J.pick [0, 2] rfl (w_X7_motions_J54 C _ _ _)
      · refine J.aload_n (pc := 39) C (x := a0) dX7_motions_39 rfl rfl ?_
        refine J.getR (pc := 40) C fl_RX7_41 rfl dX7_motions_40 ?_
        refine J.vI (pc := 43) C mv_X1_isVain wm_RX7_230 (fun l => c_X1_isVain l g S_3 (S_3.2.1 a0 5)) ⟨⟨Nat.zero_le _, Nat.zero_le _⟩, rfl, rfl⟩ rfl ⟨Nat.le_of_ble_eq_true rfl, Nat.le_of_ble_eq_true rfl⟩ rfl ct_n (Nat.le_of_ble_eq_true rfl) dX7_motions_43 (fun r5 => ?_)
        refine J.if_eq (pc := 46) C (tgt := 54) dX7_motions_46 rfl ?_ ?_
        · exact J.pick [0, 2] rfl (w_X7_motions_J54 C _ _ _)
        · refine J.ldc (pc := 49) C wc_RX7_163 dX7_motions_49 ?_
          refine J.goto (pc := 51) C (tgt := 62) dX7_motions_51 rfl ?_
          exact J.iret (pc := 62) C rfl rfl ⟨Nat.le_refl _, Nat.le_refl _⟩ dX7_motions_62
    · refine J.ldc (pc := 20) C wc_RX7_60 dX7_motions_20 ?_
      exact J.iret (pc := 22) C rfl rfl ⟨Nat.le_refl _, Nat.le_refl _⟩ dX7_motions_22
