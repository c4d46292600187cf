abbrev rm_X8_done : Room := { frames := 5, cells := 0, slots := 0, locals := 120 }
def f_X8_done_J76 (S : St) (a0 : Nat) (kx29 : St → Int32 → Option (Int32 × St)) (k29 : St → Int32 → Option (Int32 × St)) (x1 : Int32) (x2 : Int32) (x3 : Int32) (t0 : Int32) : Option (Int32 × St) :=
  (chk (okc S 8 a0)
  (if (S.1 a0 14) = (-1000000) then
  (if t0 = (-1000000) then
  (chk (okc S 8 a0)
  (chk (okc S 8 a0)
  (chk (ina S 10 (S.2.1 a0 13) 0)
  (bnd (f_X8_can S (S.2.1 a0 3) x3 (S.1 (S.2.1 a0 13) (0 : Int32).toNatClampNeg)) fun r6 =>
  (if r6 = 0 then
  (chk (okc S 8 a0) (bnd (f_X8_faults S a0 x2 3 (-1000000)) fun S_8 =>
  (k29 S_8 x1)))
  else (chk (okc S 8 a0)
  (chk (okc S 8 a0) (bnd (f_X8_does S a0 (S.2.1 a0 3) x3) fun S_7 =>
  (k29 S_7 (x1 + 1))))))))))
  else (chk (okc S 8 a0) (bnd (f_X8_faults S a0 x2 2 t0) fun S_9 =>
  (k29 S_9 x1))))
  else (chk (okc S 8 a0)
  (chk (okc S 8 a0) (bnd (f_X8_faults S a0 x2 1 ((S.1 a0 14) - x2)) fun S_10 =>
  (k29 S_10 x1))))))
set_option maxRecDepth 100000 in
set_option maxHeartbeats 4000000 in
theorem w_X8_done_J76 {X : CT} {g : GG} (C : CX X g cX8_done RX8 (some .int) 5 rm_X8_done) (S : St) (a0 : Nat) (kx29 : St → Int32 → Option (Int32 × St)) (k29 : St → Int32 → Option (Int32 × St)) (x1 : Int32) (x2 : Int32) (x3 : Int32) (t0 : Int32) (hkx29 : ∀ (S : St) (x1 : Int32), J X g (Qm X g aW pW) (cw (0, 0)) 163 [(1, .int x1)] [] S (kx29 S x1)) (hk29 : ∀ (S : St) (x1 : Int32), J X g (Qm X g aW pW) (cw (0, 0)) 29 [(0, rv g a0), (1, .int x1)] [] S (k29 S x1)) : J X g (Qm X g aW pW) (cw (0, 0)) 76 [(0, rv g a0), (1, .int x1), (2, .int x2), (3, .int x3)] [.int t0] S (f_X8_done_J76 S a0 kx29 k29 x1 x2 x3 t0) := by
  unfold f_X8_done_J76
  refine J.istore (pc := 76) C (lv' := [(0, rv g a0), (1, .int x1), (2, .int x2), (3, .int x3), (4, .int t0)]) dX8_done_76 (Nat.le_of_ble_eq_true rfl) rfl ?_
  refine J.aload_n (pc := 78) C (x := a0) dX8_done_78 rfl rfl ?_
  refine J.getI (pc := 79) C fl_RX8_197 rfl dX8_done_79 ?_
  refine J.ldc (pc := 82) C wc_RX8_49 dX8_done_82 ?_
  refine J.icmp_eq (pc := 84) C (tgt := 102) dX8_done_84 rfl ?_ ?_
  · refine J.iload (pc := 102) C dX8_done_102 rfl ?_
    refine J.ldc (pc := 104) C wc_RX8_49 dX8_done_104 ?_
    refine J.icmp_eq (pc := 106) C (tgt := 120) dX8_done_106 rfl ?_ ?_
    · refine J.aload_n (pc := 120) C (x := a0) dX8_done_120 rfl rfl ?_
      refine J.getR (pc := 121) C fl_RX8_16 rfl dX8_done_121 ?_
      refine J.iload_n (pc := 124) C dX8_done_124 rfl rfl ?_
      refine J.aload_n (pc := 125) C (x := a0) dX8_done_125 rfl rfl ?_
      refine J.getR (pc := 126) C fl_RX8_25 rfl dX8_done_126 ?_
      refine J.iconst (pc := 129) C dX8_done_129 ki_0 ?_
      refine J.iald (pc := 130) C dX8_done_130 ?_
      refine J.sI (pc := 131) C ms_X8_can wm_RX8_228 (fun l => c_X8_can l g S (S.2.1 a0 3) x3 (S.1 (S.2.1 a0 13) (0 : Int32).toNatClampNeg)) ⟨⟨Nat.zero_le _, Nat.zero_le _⟩, rfl, rfl⟩ rfl ⟨Nat.le_of_ble_eq_true rfl, Nat.le_of_ble_eq_true rfl⟩ rfl cat_n (Nat.le_of_ble_eq_true rfl) dX8_done_131 (fun r6 => ?_)
      refine J.if_ne (pc := 134) C (tgt := 148) dX8_done_134 rfl ?_ ?_
      · refine J.aload_n (pc := 148) C (x := a0) dX8_done_148 rfl rfl ?_
        refine J.aload_n (pc := 149) C (x := a0) dX8_done_149 rfl rfl ?_
        refine J.getR (pc := 150) C fl_RX8_16 rfl dX8_done_150 ?_
        refine J.iload_n (pc := 153) C dX8_done_153 rfl rfl ?_
        refine J.vU (pc := 154) C mv_X8_does wm_RX8_231 (fun l => c_X8_does l g S a0 (S.2.1 a0 3) x3) ⟨⟨Nat.zero_le _, Nat.zero_le _⟩, rfl, rfl⟩ rfl ⟨Nat.le_of_ble_eq_true rfl, Nat.le_of_ble_eq_true rfl⟩ rfl cat_n (Nat.le_of_ble_eq_true rfl) dX8_done_154 (fun S_7 => ?_)
        refine J.iinc (pc := 157) C (lv' := [(0, rv g a0), (1, .int (x1 + 1)), (2, .int x2), (3, .int x3), (4, .int t0)]) dX8_done_157 rfl (Nat.le_of_ble_eq_true rfl) ki_1 rfl ?_
        refine J.goto (pc := 160) C (tgt := 29) dX8_done_160 rfl ?_
        exact J.pick [0, 1] rfl (hk29 _ _)
      · refine J.aload_n (pc := 137) C (x := a0) dX8_done_137 rfl rfl ?_
        refine J.iload_n (pc := 138) C dX8_done_138 rfl rfl ?_
        refine J.iconst (pc := 139) C dX8_done_139 ki_3 ?_
        refine J.ldc (pc := 140) C wc_RX8_49 dX8_done_140 ?_
        refine J.vU (pc := 142) C mv_X8_faults wm_RX8_218 (fun l => c_X8_faults l g S a0 x2 3 (-1000000)) ⟨⟨Nat.zero_le _, Nat.zero_le _⟩, rfl, rfl⟩ rfl ⟨Nat.le_of_ble_eq_true rfl, Nat.le_of_ble_eq_true rfl⟩ rfl cat_n (Nat.le_of_ble_eq_true rfl) dX8_done_142 (fun S_8 => ?_)
        refine J.goto (pc := 145) C (tgt := 160) dX8_done_145 rfl ?_
        refine J.goto (pc := 160) C (tgt := 29) dX8_done_160 rfl ?_
        exact J.pick [0, 1] rfl (hk29 _ _)
    · refine J.aload_n (pc := 109) C (x := a0) dX8_done_109 rfl rfl ?_
      refine J.iload_n (pc := 110) C dX8_done_110 rfl rfl ?_
      refine J.iconst (pc := 111) C dX8_done_111 ki_2 ?_
      refine J.iload (pc := 112) C dX8_done_112 rfl ?_
      refine J.vU (pc := 114) C mv_X8_faults wm_RX8_218 (fun l => c_X8_faults l g S a0 x2 2 t0) ⟨⟨Nat.zero_le _, Nat.zero_le _⟩, rfl, rfl⟩ rfl ⟨Nat.le_of_ble_eq_true rfl, Nat.le_of_ble_eq_true rfl⟩ rfl cat_n (Nat.le_of_ble_eq_true rfl) dX8_done_114 (fun S_9 => ?_)
      refine J.goto (pc := 117) C (tgt := 160) dX8_done_117 rfl ?_
      refine J.goto (pc := 160) C (tgt := 29) dX8_done_160 rfl ?_
      exact J.pick [0, 1] rfl (hk29 _ _)
  · refine J.aload_n (pc := 87) C (x := a0) dX8_done_87 rfl rfl ?_
    refine J.iload_n (pc := 88) C dX8_done_88 rfl rfl ?_
    refine J.iconst (pc := 89) C dX8_done_89 ki_1 ?_
    refine J.aload_n (pc := 90) C (x := a0) dX8_done_90 rfl rfl ?_
    refine J.getI (pc := 91) C fl_RX8_197 rfl dX8_done_91 ?_
    refine J.iload_n (pc := 94) C dX8_done_94 rfl rfl ?_
    refine J.isub (pc := 95) C dX8_done_95 ?_
    refine J.vU (pc := 96) C mv_X8_faults wm_RX8_218 (fun l => c_X8_faults l g S a0 x2 1 ((S.1 a0 14) - x2)) ⟨⟨Nat.zero_le _, Nat.zero_le _⟩, rfl, rfl⟩ rfl ⟨Nat.le_of_ble_eq_true rfl, Nat.le_of_ble_eq_true rfl⟩ rfl cat_n (Nat.le_of_ble_eq_true rfl) dX8_done_96 (fun S_10 => ?_)
    refine J.goto (pc := 99) C (tgt := 160) dX8_done_99 rfl ?_
    refine J.goto (pc := 160) C (tgt := 29) dX8_done_160 rfl ?_
    exact J.pick [0, 1] rfl (hk29 _ _)
def f_X8_done_B29 (a0 : Nat) (kx29 : St → Int32 → Option (Int32 × St)) (k29 : St → Int32 → Option (Int32 × St)) (S : St) (x1 : Int32) : Option (Int32 × St) :=
  (chk (okc S 8 a0)
  (if (S.1 a0 16) = 0 then
  (chk (okc S 8 a0)
  (chk (okc S 8 a0)
  (if (S.1 a0 5) ≤ (S.1 a0 12) then
  (kx29 S x1)
  else (chk (okc S 8 a0)
  (chk (okc S 8 a0) (bnd2 (f_X8_form S a0) fun r4 S_5 =>
  (chk (okc S_5 8 a0)
  (if (S_5.1 a0 14) = (-1000000) then
  (chk (okc S_5 8 a0) (bnd (f_X8_wrongIn S_5 a0 r4) fun r11 =>
  (f_X8_done_J76 S_5 a0 kx29 k29 x1 (S.1 a0 12) r4 r11)))
  else (f_X8_done_J76 S_5 a0 kx29 k29 x1 (S.1 a0 12) r4 (-1000000))))))))))
  else (kx29 S x1)))
set_option maxRecDepth 100000 in
set_option maxHeartbeats 4000000 in
theorem w_X8_done_B29 {X : CT} {g : GG} (C : CX X g cX8_done RX8 (some .int) 5 rm_X8_done) (a0 : Nat) (kx29 : St → Int32 → Option (Int32 × St)) (hkx29 : ∀ (S : St) (x1 : Int32), J X g (Qm X g aW pW) (cw (0, 0)) 163 [(1, .int x1)] [] S (kx29 S x1)) : ∀ (n : Nat) (S : St) (x1 : Int32), J X g (Qm X g aW pW) (cw (0, 0)) 29 [(0, rv g a0), (1, .int x1)] [] S (wl2 (f_X8_done_B29 a0 kx29) n S x1) := by
  refine J.loop2 (lvf := fun (S : St) (x1 : Int32) => [(0, rv g a0), (1, .int x1)]) (Sf := fun (S : St) (x1 : Int32) => S) ?_
  intro k29 hk29 S x1
  show J X g _ _ 29 [(0, rv g a0), (1, .int x1)] [] S (f_X8_done_B29 a0 kx29 k29 S x1)
  unfold f_X8_done_B29
  refine J.aload_n (pc := 29) C (x := a0) dX8_done_29 rfl rfl ?_
  refine J.getI (pc := 30) C fl_RX8_212 rfl dX8_done_30 ?_
  refine J.if_ne (pc := 33) C (tgt := 163) dX8_done_33 rfl ?_ ?_
  · exact J.pick [1] rfl (hkx29 _ _)
  · refine J.aload_n (pc := 36) C (x := a0) dX8_done_36 rfl rfl ?_
    refine J.getI (pc := 37) C fl_RX8_194 rfl dX8_done_37 ?_
    refine J.aload_n (pc := 40) C (x := a0) dX8_done_40 rfl rfl ?_
    refine J.getI (pc := 41) C fl_RX8_191 rfl dX8_done_41 ?_
    refine J.icmp_ge (pc := 44) C (tgt := 163) dX8_done_44 rfl ?_ ?_
    · exact J.pick [1] rfl (hkx29 _ _)
    · refine J.aload_n (pc := 47) C (x := a0) dX8_done_47 rfl rfl ?_
      refine J.getI (pc := 48) C fl_RX8_194 rfl dX8_done_48 ?_
      refine J.istore_n (pc := 51) C (lv' := [(0, rv g a0), (1, .int x1), (2, .int (S.1 a0 12))]) dX8_done_51 rfl (Nat.le_of_ble_eq_true rfl) rfl ?_
      refine J.aload_n (pc := 52) C (x := a0) dX8_done_52 rfl rfl ?_
      refine J.vW (pc := 53) C mv_X8_form wm_RX8_222 (fun l => c_X8_form l g S a0) ⟨⟨Nat.zero_le _, Nat.zero_le _⟩, rfl, rfl⟩ rfl ⟨Nat.le_of_ble_eq_true rfl, Nat.le_of_ble_eq_true rfl⟩ rfl cat_n (Nat.le_of_ble_eq_true rfl) dX8_done_53 (fun r4 S_5 => ?_)
      refine J.istore_n (pc := 56) C (lv' := [(0, rv g a0), (1, .int x1), (2, .int (S.1 a0 12)), (3, .int r4)]) dX8_done_56 rfl (Nat.le_of_ble_eq_true rfl) rfl ?_
      refine J.aload_n (pc := 57) C (x := a0) dX8_done_57 rfl rfl ?_
      refine J.getI (pc := 58) C fl_RX8_197 rfl dX8_done_58 ?_
      refine J.ldc (pc := 61) C wc_RX8_49 dX8_done_61 ?_
      refine J.icmp_ne (pc := 63) C (tgt := 74) dX8_done_63 rfl ?_ ?_
      · refine J.ldc (pc := 74) C wc_RX8_49 dX8_done_74 ?_
        exact (w_X8_done_J76 C _ _ _ _ _ _ _ _ hkx29 hk29)
      · refine J.aload_n (pc := 66) C (x := a0) dX8_done_66 rfl rfl ?_
        refine J.iload_n (pc := 67) C dX8_done_67 rfl rfl ?_
        refine J.vI (pc := 68) C mv_X8_wrongIn wm_RX8_225 (fun l => c_X8_wrongIn l g S_5 a0 r4) ⟨⟨Nat.zero_le _, Nat.zero_le _⟩, rfl, rfl⟩ rfl ⟨Nat.le_of_ble_eq_true rfl, Nat.le_of_ble_eq_true rfl⟩ rfl cat_n (Nat.le_of_ble_eq_true rfl) dX8_done_68 (fun r11 => ?_)
        refine J.goto (pc := 71) C (tgt := 76) dX8_done_71 rfl ?_
        exact (w_X8_done_J76 C _ _ _ _ _ _ _ _ hkx29 hk29)
def f_X8_done (S : St) (a0 : Nat) : Option (Int32 × St) :=
  (chk (okc S 8 a0)
  (chk (okc S 8 a0)
  (bnd (f_X8_copies S (S.2.1 a0 0) 0 (S.2.1 a0 3) 0) fun S_1 =>
  (chk (okc S_1 8 a0) (bnd (f_X8_faults S_1 a0 (-1000000) 0 (-1000000)) fun S_2 =>
  (chk (okc S_2 8 a0) (vlt (upI S_2 a0 12 0) fun S_3 =>
  (wl2 (f_X8_done_B29 a0 (fun (S_13 : St) (y1_12 : Int32) => (some (y1_12, S_13)))) FU S_3 0))))))))
set_option maxRecDepth 100000 in
set_option maxHeartbeats 4000000 in
theorem c_X8_done (l : Launch) (g : GG) (S : St) (a0 : Nat) : Ct l yX8_done cX8_done 5 (some .int) rm_X8_done g aW pW [rv g a0] S (f_X8_done S a0) := by
  refine Ct.mk (cf := cw (0, 0)) (by decide +kernel) (cat_r cat_n) (Nat.le_of_ble_eq_true rfl) rfl ?_
  intro X hXl hin C
  show J X g _ _ 0 [(0, rv g a0)] [] S (f_X8_done S a0)
  unfold f_X8_done
  refine J.aload_n (pc := 0) C (x := a0) dX8_done_0 rfl rfl ?_
  refine J.getR (pc := 1) C fl_RX8_7 rfl dX8_done_1 ?_
  refine J.iconst (pc := 4) C dX8_done_4 ki_0 ?_
  refine J.aload_n (pc := 5) C (x := a0) dX8_done_5 rfl rfl ?_
  refine J.getR (pc := 6) C fl_RX8_16 rfl dX8_done_6 ?_
  refine J.iconst (pc := 9) C dX8_done_9 ki_0 ?_
  refine J.sU (pc := 10) C ms_X8_copies wm_RX8_32 (fun l => c_X8_copies l g S (S.2.1 a0 0) 0 (S.2.1 a0 3) 0) ⟨⟨Nat.zero_le _, Nat.zero_le _⟩, rfl, rfl⟩ rfl ⟨Nat.le_of_ble_eq_true rfl, Nat.le_of_ble_eq_true rfl⟩ rfl cat_n (Nat.le_of_ble_eq_true rfl) dX8_done_10 (fun S_1 => ?_)
  refine J.aload_n (pc := 13) C (x := a0) dX8_done_13 rfl rfl ?_
  refine J.ldc (pc := 14) C wc_RX8_49 dX8_done_14 ?_
  refine J.iconst (pc := 16) C dX8_done_16 ki_0 ?_
  refine J.ldc (pc := 17) C wc_RX8_49 dX8_done_17 ?_
  refine J.vU (pc := 19) C mv_X8_faults wm_RX8_218 (fun l => c_X8_faults l g S_1 a0 (-1000000) 0 (-1000000)) ⟨⟨Nat.zero_le _, Nat.zero_le _⟩, rfl, rfl⟩ rfl ⟨Nat.le_of_ble_eq_true rfl, Nat.le_of_ble_eq_true rfl⟩ rfl cat_n (Nat.le_of_ble_eq_true rfl) dX8_done_19 (fun S_2 => ?_)
  refine J.aload_n (pc := 22) C (x := a0) dX8_done_22 rfl rfl ?_
  refine J.iconst (pc := 23) C dX8_done_23 ki_0 ?_
  refine J.putIs (pc := 24) C fl_RX8_194 rfl (fun r h => by cases h; rfl) rfl rfl dX8_done_24 (fun S_3 => ?_)
  refine J.iconst (pc := 27) C dX8_done_27 ki_0 ?_
  refine J.istore_n (pc := 28) C (lv' := [(0, rv g a0), (1, .int 0)]) dX8_done_28 rfl (Nat.le_of_ble_eq_true rfl) rfl ?_
  refine w_X8_done_B29 C _ _ (fun S_13 y1_12 => ?_) FU _ _
  refine J.iload_n (pc := 163) C dX8_done_163 rfl rfl ?_
  exact J.iret (pc := 164) C rfl rfl ⟨Nat.le_refl _, Nat.le_refl _⟩ dX8_done_164
abbrev rm_X8_fault : Room := { frames := 6, cells := 0, slots := 0, locals := 144 }
def f_X8_fault (S : St) (a0 : Nat) (a1 : Int32) : Option (Int32 × St) :=
  (bnd (f_X8_in a1 0 2) fun r1 =>
  (if r1 = 0 then
  (some ((-10000001), S))
  else (chk (okc S 8 a0) (bnd2 (f_X8_done S a0) fun r2 S_3 =>
  (chk (okc S_3 8 a0)
  (if (S_3.1 a0 16) = 0 then
  (some ((-10000004), S_3))
  else (if a1 = 2 then
  (chk (okc S_3 8 a0)
  (if (S_3.1 a0 17) = (-1000000) then
  (some ((-10000004), S_3))
  else (if a1 = 0 then
  (chk (okc S_3 8 a0)
  (some (S_3.1 a0 15, S_3)))
  else (if a1 = 1 then
  (chk (okc S_3 8 a0)
  (some (S_3.1 a0 16, S_3)))
  else (chk (okc S_3 8 a0)
  (some (S_3.1 a0 17, S_3)))))))
  else (if a1 = 0 then
  (chk (okc S_3 8 a0)
  (some (S_3.1 a0 15, S_3)))
  else (if a1 = 1 then
  (chk (okc S_3 8 a0)
  (some (S_3.1 a0 16, S_3)))
  else (chk (okc S_3 8 a0)
  (some (S_3.1 a0 17, S_3))))))))))))
set_option maxRecDepth 100000 in
set_option maxHeartbeats 4000000 in
theorem c_X8_fault (l : Launch) (g : GG) (S : St) (a0 : Nat) (a1 : Int32) : Ct l yX8_fault cX8_fault 2 (some .int) rm_X8_fault g aW pW [rv g a0, .int a1] S (f_X8_fault S a0 a1) := by
  refine Ct.mk (cf := cw (0, 0)) (by decide +kernel) (cat_r (cat_i cat_n)) (Nat.le_of_ble_eq_true rfl) rfl ?_
  intro X hXl hin C
  show J X g _ _ 0 [(0, rv g a0), (1, .int a1)] [] S (f_X8_fault S a0 a1)
  unfold f_X8_fault
  refine J.iload_n (pc := 0) C dX8_fault_0 rfl rfl ?_
  refine J.iconst (pc := 1) C dX8_fault_1 ki_0 ?_
  refine J.iconst (pc := 2) C dX8_fault_2 ki_2 ?_
  refine J.sI (pc := 3) C ms_X8_in wm_RX8_36 (fun l => c_X8_in l g S a1 0 2) ⟨⟨Nat.zero_le _, Nat.zero_le _⟩, rfl, rfl⟩ rfl ⟨Nat.le_of_ble_eq_true rfl, Nat.le_of_ble_eq_true rfl⟩ rfl cat_n (Nat.le_of_ble_eq_true rfl) dX8_fault_3 (fun r1 => ?_)
  refine J.if_ne (pc := 6) C (tgt := 12) dX8_fault_6 rfl ?_ ?_
  · refine J.aload_n (pc := 12) C (x := a0) dX8_fault_12 rfl rfl ?_
    refine J.vW (pc := 13) C mv_X8_done wm_RX8_234 (fun l => c_X8_done l g S a0) ⟨⟨Nat.zero_le _, Nat.zero_le _⟩, rfl, rfl⟩ rfl ⟨Nat.le_of_ble_eq_true rfl, Nat.le_of_ble_eq_true rfl⟩ rfl cat_n (Nat.le_of_ble_eq_true rfl) dX8_fault_13 (fun r2 S_3 => ?_)
    refine J.pop (pc := 16) C dX8_fault_16 rfl ?_
    refine J.aload_n (pc := 17) C (x := a0) dX8_fault_17 rfl rfl ?_
    refine J.getI (pc := 18) C fl_RX8_212 rfl dX8_fault_18 ?_
    refine J.if_eq (pc := 21) C (tgt := 38) dX8_fault_21 rfl ?_ ?_
    · refine J.ldc (pc := 38) C wc_RX8_120 dX8_fault_38 ?_
      exact J.iret (pc := 40) C rfl rfl ⟨Nat.le_refl _, Nat.le_refl _⟩ dX8_fault_40
    · refine J.iload_n (pc := 24) C dX8_fault_24 rfl rfl ?_
      refine J.iconst (pc := 25) C dX8_fault_25 ki_2 ?_
      refine J.icmp_ne (pc := 26) C (tgt := 41) dX8_fault_26 rfl ?_ ?_
      · refine J.iload_n (pc := 41) C dX8_fault_41 rfl rfl ?_
        refine J.if_ne (pc := 42) C (tgt := 52) dX8_fault_42 rfl ?_ ?_
        · refine J.iload_n (pc := 52) C dX8_fault_52 rfl rfl ?_
          refine J.iconst (pc := 53) C dX8_fault_53 ki_1 ?_
          refine J.icmp_ne (pc := 54) C (tgt := 64) dX8_fault_54 rfl ?_ ?_
          · refine J.aload_n (pc := 64) C (x := a0) dX8_fault_64 rfl rfl ?_
            refine J.getI (pc := 65) C fl_RX8_215 rfl dX8_fault_65 ?_
            exact J.iret (pc := 68) C rfl rfl ⟨Nat.le_refl _, Nat.le_refl _⟩ dX8_fault_68
          · refine J.aload_n (pc := 57) C (x := a0) dX8_fault_57 rfl rfl ?_
            refine J.getI (pc := 58) C fl_RX8_212 rfl dX8_fault_58 ?_
            refine J.goto (pc := 61) C (tgt := 68) dX8_fault_61 rfl ?_
            exact J.iret (pc := 68) C rfl rfl ⟨Nat.le_refl _, Nat.le_refl _⟩ dX8_fault_68
        · refine J.aload_n (pc := 45) C (x := a0) dX8_fault_45 rfl rfl ?_
          refine J.getI (pc := 46) C fl_RX8_209 rfl dX8_fault_46 ?_
          refine J.goto (pc := 49) C (tgt := 68) dX8_fault_49 rfl ?_
          exact J.iret (pc := 68) C rfl rfl ⟨Nat.le_refl _, Nat.le_refl _⟩ dX8_fault_68
      · refine J.aload_n (pc := 29) C (x := a0) dX8_fault_29 rfl rfl ?_
        refine J.getI (pc := 30) C fl_RX8_215 rfl dX8_fault_30 ?_
        refine J.ldc (pc := 33) C wc_RX8_49 dX8_fault_33 ?_
        refine J.icmp_ne (pc := 35) C (tgt := 41) dX8_fault_35 rfl ?_ ?_
        · refine J.iload_n (pc := 41) C dX8_fault_41 rfl rfl ?_
          refine J.if_ne (pc := 42) C (tgt := 52) dX8_fault_42 rfl ?_ ?_
          · refine J.iload_n (pc := 52) C dX8_fault_52 rfl rfl ?_
            refine J.iconst (pc := 53) C dX8_fault_53 ki_1 ?_
            refine J.icmp_ne (pc := 54) C (tgt := 64) dX8_fault_54 rfl ?_ ?_
            · refine J.aload_n (pc := 64) C (x := a0) dX8_fault_64 rfl rfl ?_
              refine J.getI (pc := 65) C fl_RX8_215 rfl dX8_fault_65 ?_
              exact J.iret (pc := 68) C rfl rfl ⟨Nat.le_refl _, Nat.le_refl _⟩ dX8_fault_68
            · refine J.aload_n (pc := 57) C (x := a0) dX8_fault_57 rfl rfl ?_
              refine J.getI (pc := 58) C fl_RX8_212 rfl dX8_fault_58 ?_
              refine J.goto (pc := 61) C (tgt := 68) dX8_fault_61 rfl ?_
              exact J.iret (pc := 68) C rfl rfl ⟨Nat.le_refl _, Nat.le_refl _⟩ dX8_fault_68
          · refine J.aload_n (pc := 45) C (x := a0) dX8_fault_45 rfl rfl ?_
            refine J.getI (pc := 46) C fl_RX8_209 rfl dX8_fault_46 ?_
            refine J.goto (pc := 49) C (tgt := 68) dX8_fault_49 rfl ?_
            exact J.iret (pc := 68) C rfl rfl ⟨Nat.le_refl _, Nat.le_refl _⟩ dX8_fault_68
        · refine J.ldc (pc := 38) C wc_RX8_120 dX8_fault_38 ?_
          exact J.iret (pc := 40) C rfl rfl ⟨Nat.le_refl _, Nat.le_refl _⟩ dX8_fault_40
  · refine J.ldc (pc := 9) C wc_RX8_44 dX8_fault_9 ?_
    exact J.iret (pc := 11) C rfl rfl ⟨Nat.le_refl _, Nat.le_refl _⟩ dX8_fault_11
abbrev rm_X8_rowFits : Room := { frames := 3, cells := 0, slots := 0, locals := 75 }
def f_X8_rowFits_B20 (S : St) (a0 : Nat) (a1 : Nat) (a2 : Int32) (a3 : Int32) (a4 : Int32) (kx20 : Option Int32) (k20 : Int32 → Option Int32) (x5 : Int32) : Option Int32 :=
  (chk (okc S 8 a0)
  (chk (ina S 10 (S.2.1 a0 0) 1)
  (if (S.1 (S.2.1 a0 0) (1 : Int32).toNatClampNeg) ≤ x5 then
  kx20
  else (bnd (f_X8_shown S a1 a3 x5 a4) fun r3 =>
  (chk (okc S 8 a0) (bnd (f_X8_pixelOf S a0 a2 a3 x5) fun r4 =>
  (if r3 = r4 then
  (k20 (x5 + 1))
  else (some 0))))))))
set_option maxRecDepth 100000 in
set_option maxHeartbeats 4000000 in
theorem w_X8_rowFits_B20 {X : CT} {g : GG} (C : CX X g cX8_rowFits RX8 (some .boolean) 6 rm_X8_rowFits) (S : St) (a0 : Nat) (a1 : Nat) (a2 : Int32) (a3 : Int32) (a4 : Int32) (kx20 : Option Int32) (hkx20 : J X g (Qm X g aI (pK S)) (cw (0, 0)) 59 [] [] S (kx20)) : ∀ (n : Nat) (x5 : Int32), J X g (Qm X g aI (pK S)) (cw (0, 0)) 20 [(0, rv g a0), (1, rv g a1), (2, .int a2), (3, .int a3), (4, .int a4), (5, .int x5)] [] S (wl1 (f_X8_rowFits_B20 S a0 a1 a2 a3 a4 kx20) n x5) := by
  refine J.loop1 (lvf := fun (x5 : Int32) => [(0, rv g a0), (1, rv g a1), (2, .int a2), (3, .int a3), (4, .int a4), (5, .int x5)]) (Sf := fun (x5 : Int32) => S) ?_
  intro k20 hk20 x5
  show J X g _ _ 20 [(0, rv g a0), (1, rv g a1), (2, .int a2), (3, .int a3), (4, .int a4), (5, .int x5)] [] S (f_X8_rowFits_B20 S a0 a1 a2 a3 a4 kx20 k20 x5)
  unfold f_X8_rowFits_B20
  refine J.iload (pc := 20) C dX8_rowFits_20 rfl ?_
  refine J.aload_n (pc := 22) C (x := a0) dX8_rowFits_22 rfl rfl ?_
  refine J.getR (pc := 23) C fl_RX8_7 rfl dX8_rowFits_23 ?_
  refine J.iconst (pc := 26) C dX8_rowFits_26 ki_1 ?_
  refine J.iald (pc := 27) C dX8_rowFits_27 ?_
  refine J.icmp_ge (pc := 28) C (tgt := 59) dX8_rowFits_28 rfl ?_ ?_
  · exact J.pick [] rfl hkx20
  · refine J.aload_n (pc := 31) C (x := a1) dX8_rowFits_31 rfl rfl ?_
    refine J.iload_n (pc := 32) C dX8_rowFits_32 rfl rfl ?_
    refine J.iload (pc := 33) C dX8_rowFits_33 rfl ?_
    refine J.iload (pc := 35) C dX8_rowFits_35 rfl ?_
    refine J.sI (pc := 37) C ms_X8_shown wm_RX8_85 (fun l => c_X8_shown l g S a1 a3 x5 a4) ⟨⟨Nat.zero_le _, Nat.zero_le _⟩, rfl, rfl⟩ rfl ⟨Nat.le_of_ble_eq_true rfl, Nat.le_of_ble_eq_true rfl⟩ rfl cat_n (Nat.le_of_ble_eq_true rfl) dX8_rowFits_37 (fun r3 => ?_)
    refine J.aload_n (pc := 40) C (x := a0) dX8_rowFits_40 rfl rfl ?_
    refine J.iload_n (pc := 41) C dX8_rowFits_41 rfl rfl ?_
    refine J.iload_n (pc := 42) C dX8_rowFits_42 rfl rfl ?_
    refine J.iload (pc := 43) C dX8_rowFits_43 rfl ?_
    refine J.vI (pc := 45) C mv_X8_pixelOf wm_RX8_110 (fun l => c_X8_pixelOf l g S a0 a2 a3 x5) ⟨⟨Nat.zero_le _, Nat.zero_le _⟩, rfl, rfl⟩ rfl ⟨Nat.le_of_ble_eq_true rfl, Nat.le_of_ble_eq_true rfl⟩ rfl (cat_i cat_n) (Nat.le_of_ble_eq_true rfl) dX8_rowFits_45 (fun r4 => ?_)
    refine J.icmp_eq (pc := 48) C (tgt := 53) dX8_rowFits_48 rfl ?_ ?_
    · refine J.iinc (pc := 53) C (lv' := [(0, rv g a0), (1, rv g a1), (2, .int a2), (3, .int a3), (4, .int a4), (5, .int (x5 + 1))]) dX8_rowFits_53 rfl (Nat.le_of_ble_eq_true rfl) ki_1 rfl ?_
      refine J.goto (pc := 56) C (tgt := 20) dX8_rowFits_56 rfl ?_
      exact (hk20 _)
    · refine J.iconst (pc := 51) C dX8_rowFits_51 ki_0 ?_
      exact J.zret (pc := 52) C rfl rfl rfl ⟨Nat.le_refl _, Nat.le_refl _⟩ dX8_rowFits_52
def f_X8_rowFits (S : St) (a0 : Nat) (a1 : Nat) (a2 : Int32) (a3 : Int32) : Option Int32 :=
  (chk (okc S 8 a0) (bnd (f_X8_frameValue S a0 a2 0) fun r1 =>
  (chk (okc S 8 a0)
  (chk (ina S 10 (S.2.1 a0 0) 2)
  (vlt (r1 + (a3 * (S.1 (S.2.1 a0 0) (2 : Int32).toNatClampNeg))) fun v2 =>
  (wl1 (f_X8_rowFits_B20 S a0 a1 a2 a3 v2 (some 1)) FU 0))))))
set_option maxRecDepth 100000 in
set_option maxHeartbeats 4000000 in
theorem c_X8_rowFits (l : Launch) (g : GG) (S : St) (a0 : Nat) (a1 : Nat) (a2 : Int32) (a3 : Int32) : Ct l yX8_rowFits cX8_rowFits 6 (some .boolean) rm_X8_rowFits g aI (pK S) [rv g a0, rv g a1, .int a2, .int a3] S (f_X8_rowFits S a0 a1 a2 a3) := by
  refine Ct.mk (cf := cw (0, 0)) (by decide +kernel) (cat_r (cat_r (cat_i (cat_i cat_n)))) (Nat.le_of_ble_eq_true rfl) rfl ?_
  intro X hXl hin C
  show J X g _ _ 0 [(0, rv g a0), (1, rv g a1), (2, .int a2), (3, .int a3)] [] S (f_X8_rowFits S a0 a1 a2 a3)
  unfold f_X8_rowFits
  refine J.aload_n (pc := 0) C (x := a0) dX8_rowFits_0 rfl rfl ?_
  refine J.iload_n (pc := 1) C dX8_rowFits_1 rfl rfl ?_
  refine J.iconst (pc := 2) C dX8_rowFits_2 ki_0 ?_
  refine J.vI (pc := 3) C mv_X8_frameValue wm_RX8_100 (fun l => c_X8_frameValue l g S a0 a2 0) ⟨⟨Nat.zero_le _, Nat.zero_le _⟩, rfl, rfl⟩ rfl ⟨Nat.le_of_ble_eq_true rfl, Nat.le_of_ble_eq_true rfl⟩ rfl cat_n (Nat.le_of_ble_eq_true rfl) dX8_rowFits_3 (fun r1 => ?_)
  refine J.iload_n (pc := 6) C dX8_rowFits_6 rfl rfl ?_
  refine J.aload_n (pc := 7) C (x := a0) dX8_rowFits_7 rfl rfl ?_
  refine J.getR (pc := 8) C fl_RX8_7 rfl dX8_rowFits_8 ?_
  refine J.iconst (pc := 11) C dX8_rowFits_11 ki_2 ?_
  refine J.iald (pc := 12) C dX8_rowFits_12 ?_
  refine J.imul (pc := 13) C dX8_rowFits_13 ?_
  refine J.iadd (pc := 14) C dX8_rowFits_14 ?_
  refine J.topi (fun v2 => ?_)
  refine J.istore (pc := 15) C (lv' := [(0, rv g a0), (1, rv g a1), (2, .int a2), (3, .int a3), (4, .int v2)]) dX8_rowFits_15 (Nat.le_of_ble_eq_true rfl) rfl ?_
  refine J.iconst (pc := 17) C dX8_rowFits_17 ki_0 ?_
  refine J.istore (pc := 18) C (lv' := [(0, rv g a0), (1, rv g a1), (2, .int a2), (3, .int a3), (4, .int v2), (5, .int 0)]) dX8_rowFits_18 (Nat.le_of_ble_eq_true rfl) rfl ?_
  refine w_X8_rowFits_B20 C _ _ _ _ _ _ _ ?_ FU _
  refine J.iconst (pc := 59) C dX8_rowFits_59 ki_1 ?_
  exact J.zret (pc := 60) C rfl rfl rfl ⟨Nat.le_refl _, Nat.le_refl _⟩ dX8_rowFits_60
abbrev rm_X8_fitting : Room := { frames := 4, cells := 0, slots := 0, locals := 100 }
def f_X8_fitting_B15 (S : St) (a0 : Nat) (a1 : Int32) (kx15 : Int32 → Option Int32) (k15 : Int32 → Int32 → Option Int32) (x2 : Int32) (x3 : Int32) : Option Int32 :=
  (chk (okc S 8 a0)
  (chk (ina S 10 (S.2.1 a0 0) 0)
  (if (S.1 (S.2.1 a0 0) (0 : Int32).toNatClampNeg) ≤ x3 then
  (kx15 x2)
  else (chk (okc S 8 a0) (bnd (f_X8_isSeen S a0 a1 x3) fun r2 =>
  (if r2 = 0 then
  (k15 (x2 ||| 0) (x3 + 1))
  else (chk (okc S 8 a0)
  (chk (okc S 8 a0) (bnd (f_X8_rowFits S a0 (S.2.1 a0 0) a1 x3) fun r3 =>
  (if r3 = 0 then
  (k15 (x2 ||| 0) (x3 + 1))
  else (k15 (x2 ||| (1 <<< (x3 &&& 31))) (x3 + 1))))))))))))
set_option maxRecDepth 100000 in
set_option maxHeartbeats 4000000 in
theorem w_X8_fitting_B15 {X : CT} {g : GG} (C : CX X g cX8_fitting RX8 (some .int) 4 rm_X8_fitting) (S : St) (a0 : Nat) (a1 : Int32) (kx15 : Int32 → Option Int32) (hkx15 : ∀ (x2 : Int32), J X g (Qm X g aI (pK S)) (cw (0, 0)) 63 [(2, .int x2)] [] S (kx15 x2)) : ∀ (n : Nat) (x2 : Int32) (x3 : Int32), J X g (Qm X g aI (pK S)) (cw (0, 0)) 15 [(0, rv g a0), (1, .int a1), (2, .int x2), (3, .int x3)] [] S (wl2 (f_X8_fitting_B15 S a0 a1 kx15) n x2 x3) := by
  refine J.loop2 (lvf := fun (x2 : Int32) (x3 : Int32) => [(0, rv g a0), (1, .int a1), (2, .int x2), (3, .int x3)]) (Sf := fun (x2 : Int32) (x3 : Int32) => S) ?_
  intro k15 hk15 x2 x3
  show J X g _ _ 15 [(0, rv g a0), (1, .int a1), (2, .int x2), (3, .int x3)] [] S (f_X8_fitting_B15 S a0 a1 kx15 k15 x2 x3)
  unfold f_X8_fitting_B15
  refine J.iload_n (pc := 15) C dX8_fitting_15 rfl rfl ?_
  refine J.aload_n (pc := 16) C (x := a0) dX8_fitting_16 rfl rfl ?_
  refine J.getR (pc := 17) C fl_RX8_7 rfl dX8_fitting_17 ?_
  refine J.iconst (pc := 20) C dX8_fitting_20 ki_0 ?_
  refine J.iald (pc := 21) C dX8_fitting_21 ?_
  refine J.icmp_ge (pc := 22) C (tgt := 63) dX8_fitting_22 rfl ?_ ?_
  · exact J.pick [2] rfl (hkx15 _)
  · refine J.iload_n (pc := 25) C dX8_fitting_25 rfl rfl ?_
    refine J.aload_n (pc := 26) C (x := a0) dX8_fitting_26 rfl rfl ?_
    refine J.iload_n (pc := 27) C dX8_fitting_27 rfl rfl ?_
    refine J.iload_n (pc := 28) C dX8_fitting_28 rfl rfl ?_
    refine J.vI (pc := 29) C mv_X8_isSeen wm_RX8_107 (fun l => c_X8_isSeen l g S a0 a1 x3) ⟨⟨Nat.zero_le _, Nat.zero_le _⟩, rfl, rfl⟩ rfl ⟨Nat.le_of_ble_eq_true rfl, Nat.le_of_ble_eq_true rfl⟩ rfl (cat_i cat_n) (Nat.le_of_ble_eq_true rfl) dX8_fitting_29 (fun r2 => ?_)
    refine J.if_eq (pc := 32) C (tgt := 54) dX8_fitting_32 rfl ?_ ?_
    · refine J.iconst (pc := 54) C dX8_fitting_54 ki_0 ?_
      refine J.ior (pc := 55) C dX8_fitting_55 ?_
      refine J.istore_n (pc := 56) C (lv' := [(0, rv g a0), (1, .int a1), (2, .int (x2 ||| 0)), (3, .int x3)]) dX8_fitting_56 rfl (Nat.le_of_ble_eq_true rfl) rfl ?_
      refine J.iinc (pc := 57) C (lv' := [(0, rv g a0), (1, .int a1), (2, .int (x2 ||| 0)), (3, .int (x3 + 1))]) dX8_fitting_57 rfl (Nat.le_of_ble_eq_true rfl) ki_1 rfl ?_
      refine J.goto (pc := 60) C (tgt := 15) dX8_fitting_60 rfl ?_
      exact (hk15 _ _)
    · refine J.aload_n (pc := 35) C (x := a0) dX8_fitting_35 rfl rfl ?_
      refine J.aload_n (pc := 36) C (x := a0) dX8_fitting_36 rfl rfl ?_
      refine J.getR (pc := 37) C fl_RX8_7 rfl dX8_fitting_37 ?_
      refine J.iload_n (pc := 40) C dX8_fitting_40 rfl rfl ?_
      refine J.iload_n (pc := 41) C dX8_fitting_41 rfl rfl ?_
      refine J.vI (pc := 42) C mv_X8_rowFits wm_RX8_164 (fun l => c_X8_rowFits l g S a0 (S.2.1 a0 0) a1 x3) ⟨⟨Nat.zero_le _, Nat.zero_le _⟩, rfl, rfl⟩ rfl ⟨Nat.le_of_ble_eq_true rfl, Nat.le_of_ble_eq_true rfl⟩ rfl (cat_i cat_n) (Nat.le_of_ble_eq_true rfl) dX8_fitting_42 (fun r3 => ?_)
      refine J.if_eq (pc := 45) C (tgt := 54) dX8_fitting_45 rfl ?_ ?_
      · refine J.iconst (pc := 54) C dX8_fitting_54 ki_0 ?_
        refine J.ior (pc := 55) C dX8_fitting_55 ?_
        refine J.istore_n (pc := 56) C (lv' := [(0, rv g a0), (1, .int a1), (2, .int (x2 ||| 0)), (3, .int x3)]) dX8_fitting_56 rfl (Nat.le_of_ble_eq_true rfl) rfl ?_
        refine J.iinc (pc := 57) C (lv' := [(0, rv g a0), (1, .int a1), (2, .int (x2 ||| 0)), (3, .int (x3 + 1))]) dX8_fitting_57 rfl (Nat.le_of_ble_eq_true rfl) ki_1 rfl ?_
        refine J.goto (pc := 60) C (tgt := 15) dX8_fitting_60 rfl ?_
        exact (hk15 _ _)
      · refine J.iconst (pc := 48) C dX8_fitting_48 ki_1 ?_
        refine J.iload_n (pc := 49) C dX8_fitting_49 rfl rfl ?_
        refine J.ishl (pc := 50) C dX8_fitting_50 ?_
        refine J.goto (pc := 51) C (tgt := 55) dX8_fitting_51 rfl ?_
        refine J.ior (pc := 55) C dX8_fitting_55 ?_
        refine J.istore_n (pc := 56) C (lv' := [(0, rv g a0), (1, .int a1), (2, .int (x2 ||| (1 <<< (x3 &&& 31)))), (3, .int x3)]) dX8_fitting_56 rfl (Nat.le_of_ble_eq_true rfl) rfl ?_
        refine J.iinc (pc := 57) C (lv' := [(0, rv g a0), (1, .int a1), (2, .int (x2 ||| (1 <<< (x3 &&& 31)))), (3, .int (x3 + 1))]) dX8_fitting_57 rfl (Nat.le_of_ble_eq_true rfl) ki_1 rfl ?_
        refine J.goto (pc := 60) C (tgt := 15) dX8_fitting_60 rfl ?_
        exact (hk15 _ _)
def f_X8_fitting (S : St) (a0 : Nat) (a1 : Int32) : Option Int32 :=
  (chk (okc S 8 a0) (bnd (f_X8_isFrame S a0 a1) fun r1 =>
  (if r1 = 0 then
  (some (-10000001))
  else (wl2 (f_X8_fitting_B15 S a0 a1 (fun (y2_4 : Int32) => (some y2_4))) FU 0 0))))
set_option maxRecDepth 100000 in
set_option maxHeartbeats 4000000 in
theorem c_X8_fitting (l : Launch) (g : GG) (S : St) (a0 : Nat) (a1 : Int32) : Ct l yX8_fitting cX8_fitting 4 (some .int) rm_X8_fitting g aI (pK S) [rv g a0, .int a1] S (f_X8_fitting S a0 a1) := by
  refine Ct.mk (cf := cw (0, 0)) (by decide +kernel) (cat_r (cat_i cat_n)) (Nat.le_of_ble_eq_true rfl) rfl ?_
  intro X hXl hin C
  show J X g _ _ 0 [(0, rv g a0), (1, .int a1)] [] S (f_X8_fitting S a0 a1)
  unfold f_X8_fitting
  refine J.aload_n (pc := 0) C (x := a0) dX8_fitting_0 rfl rfl ?_
  refine J.iload_n (pc := 1) C dX8_fitting_1 rfl rfl ?_
  refine J.vI (pc := 2) C mv_X8_isFrame wm_RX8_97 (fun l => c_X8_isFrame l g S a0 a1) ⟨⟨Nat.zero_le _, Nat.zero_le _⟩, rfl, rfl⟩ rfl ⟨Nat.le_of_ble_eq_true rfl, Nat.le_of_ble_eq_true rfl⟩ rfl cat_n (Nat.le_of_ble_eq_true rfl) dX8_fitting_2 (fun r1 => ?_)
  refine J.if_ne (pc := 5) C (tgt := 11) dX8_fitting_5 rfl ?_ ?_
  · refine J.iconst (pc := 11) C dX8_fitting_11 ki_0 ?_
    refine J.istore_n (pc := 12) C (lv' := [(0, rv g a0), (1, .int a1), (2, .int 0)]) dX8_fitting_12 rfl (Nat.le_of_ble_eq_true rfl) rfl ?_
    refine J.iconst (pc := 13) C dX8_fitting_13 ki_0 ?_
    refine J.istore_n (pc := 14) C (lv' := [(0, rv g a0), (1, .int a1), (2, .int 0), (3, .int 0)]) dX8_fitting_14 rfl (Nat.le_of_ble_eq_true rfl) rfl ?_
    refine w_X8_fitting_B15 C _ _ _ _ (fun y2_4 => ?_) FU _ _
    refine J.iload_n (pc := 63) C dX8_fitting_63 rfl rfl ?_
    exact J.iret (pc := 64) C rfl rfl ⟨Nat.le_refl _, Nat.le_refl _⟩ dX8_fitting_64
  · refine J.ldc (pc := 8) C wc_RX8_44 dX8_fitting_8 ?_
    exact J.iret (pc := 10) C rfl rfl ⟨Nat.le_refl _, Nat.le_refl _⟩ dX8_fitting_10
abbrev rm_X8_forget : Room := { frames := 2, cells := 0, slots := 0, locals := 45 }
def f_X8_forget (S : St) (a0 : Nat) (a1 : Int32) : Option (Int32 × St) :=
  (chk (okc S 8 a0) (bnd (f_X8_isFrame S a0 a1) fun r1 =>
  (if r1 = 0 then
  (some ((-10000001), S))
  else (chk (okc S 8 a0) (bnd (f_X8_notes S a0) fun S_2 =>
  (chk (okc S_2 8 a0)
  (bnd (f_X8_drops S_2 (S_2.2.1 a0 0) a1) fun S_3 =>
  (chk (okc S_3 8 a0)
  (chk (ina S_3 10 (S_3.2.1 a0 0) 36)
  (some (S_3.1 (S_3.2.1 a0 0) (36 : Int32).toNatClampNeg, S_3)))))))))))
set_option maxRecDepth 100000 in
set_option maxHeartbeats 4000000 in
theorem c_X8_forget (l : Launch) (g : GG) (S : St) (a0 : Nat) (a1 : Int32) : Ct l yX8_forget cX8_forget 2 (some .int) rm_X8_forget g aW pW [rv g a0, .int a1] S (f_X8_forget S a0 a1) := by
  refine Ct.mk (cf := cw (0, 0)) (by decide +kernel) (cat_r (cat_i cat_n)) (Nat.le_of_ble_eq_true rfl) rfl ?_
  intro X hXl hin C
  show J X g _ _ 0 [(0, rv g a0), (1, .int a1)] [] S (f_X8_forget S a0 a1)
  unfold f_X8_forget
  refine J.aload_n (pc := 0) C (x := a0) dX8_forget_0 rfl rfl ?_
  refine J.iload_n (pc := 1) C dX8_forget_1 rfl rfl ?_
  refine J.vI (pc := 2) C mv_X8_isFrame wm_RX8_97 (fun l => c_X8_isFrame l g S a0 a1) ⟨⟨Nat.zero_le _, Nat.zero_le _⟩, rfl, rfl⟩ rfl ⟨Nat.le_of_ble_eq_true rfl, Nat.le_of_ble_eq_true rfl⟩ rfl cat_n (Nat.le_of_ble_eq_true rfl) dX8_forget_2 (fun r1 => ?_)
  refine J.if_ne (pc := 5) C (tgt := 11) dX8_forget_5 rfl ?_ ?_
  · refine J.aload_n (pc := 11) C (x := a0) dX8_forget_11 rfl rfl ?_
    refine J.vU (pc := 12) C mv_X8_notes wm_RX8_46 (fun l => c_X8_notes l g S a0) ⟨⟨Nat.zero_le _, Nat.zero_le _⟩, rfl, rfl⟩ rfl ⟨Nat.le_of_ble_eq_true rfl, Nat.le_of_ble_eq_true rfl⟩ rfl cat_n (Nat.le_of_ble_eq_true rfl) dX8_forget_12 (fun S_2 => ?_)
    refine J.aload_n (pc := 15) C (x := a0) dX8_forget_15 rfl rfl ?_
    refine J.getR (pc := 16) C fl_RX8_7 rfl dX8_forget_16 ?_
    refine J.iload_n (pc := 19) C dX8_forget_19 rfl rfl ?_
    refine J.sU (pc := 20) C ms_X8_drops wm_RX8_89 (fun l => c_X8_drops l g S_2 (S_2.2.1 a0 0) a1) ⟨⟨Nat.zero_le _, Nat.zero_le _⟩, rfl, rfl⟩ rfl ⟨Nat.le_of_ble_eq_true rfl, Nat.le_of_ble_eq_true rfl⟩ rfl cat_n (Nat.le_of_ble_eq_true rfl) dX8_forget_20 (fun S_3 => ?_)
    refine J.aload_n (pc := 23) C (x := a0) dX8_forget_23 rfl rfl ?_
    refine J.getR (pc := 24) C fl_RX8_7 rfl dX8_forget_24 ?_
    refine J.bipush (pc := 27) C dX8_forget_27 kb_36 ?_
    refine J.iald (pc := 29) C dX8_forget_29 ?_
    exact J.iret (pc := 30) C rfl rfl ⟨Nat.le_refl _, Nat.le_refl _⟩ dX8_forget_30
  · refine J.ldc (pc := 8) C wc_RX8_44 dX8_forget_8 ?_
    exact J.iret (pc := 10) C rfl rfl ⟨Nat.le_refl _, Nat.le_refl _⟩ dX8_forget_10
abbrev rm_X8_frameOf : Room := { frames := 4, cells := 0, slots := 0, locals := 93 }
def f_X8_frameOf_B61 (S : St) (a0 : Nat) (a1 : Int32) (kx61 : Int32 → Option Int32) (k61 : Int32 → Int32 → Option Int32) (x3 : Int32) (x4 : Int32) : Option Int32 :=
  (chk (okc S 8 a0)
  (chk (ina S 10 (S.2.1 a0 0) 0)
  (if (S.1 (S.2.1 a0 0) (0 : Int32).toNatClampNeg) ≤ x4 then
  (kx61 x3)
  else (chk (okc S 8 a0) (bnd (f_X8_edgesIn S a0 a1 x4) fun r3 =>
  (bnd (f_X8_bits r3) fun r4 =>
  (k61 (x3 + r4) (x4 + 1))))))))
set_option maxRecDepth 100000 in
set_option maxHeartbeats 4000000 in
theorem w_X8_frameOf_B61 {X : CT} {g : GG} (C : CX X g cX8_frameOf RX8 (some .int) 5 rm_X8_frameOf) (S : St) (a0 : Nat) (a1 : Int32) (kx61 : Int32 → Option Int32) (hkx61 : ∀ (x3 : Int32), J X g (Qm X g aI (pK S)) (cw (0, 0)) 91 [(3, .int x3)] [] S (kx61 x3)) : ∀ (n : Nat) (x3 : Int32) (x4 : Int32), J X g (Qm X g aI (pK S)) (cw (0, 0)) 61 [(0, rv g a0), (1, .int a1), (3, .int x3), (4, .int x4)] [] S (wl2 (f_X8_frameOf_B61 S a0 a1 kx61) n x3 x4) := by
  refine J.loop2 (lvf := fun (x3 : Int32) (x4 : Int32) => [(0, rv g a0), (1, .int a1), (3, .int x3), (4, .int x4)]) (Sf := fun (x3 : Int32) (x4 : Int32) => S) ?_
  intro k61 hk61 x3 x4
  show J X g _ _ 61 [(0, rv g a0), (1, .int a1), (3, .int x3), (4, .int x4)] [] S (f_X8_frameOf_B61 S a0 a1 kx61 k61 x3 x4)
  unfold f_X8_frameOf_B61
  refine J.iload (pc := 61) C dX8_frameOf_61 rfl ?_
  refine J.aload_n (pc := 63) C (x := a0) dX8_frameOf_63 rfl rfl ?_
  refine J.getR (pc := 64) C fl_RX8_7 rfl dX8_frameOf_64 ?_
  refine J.iconst (pc := 67) C dX8_frameOf_67 ki_0 ?_
  refine J.iald (pc := 68) C dX8_frameOf_68 ?_
  refine J.icmp_ge (pc := 69) C (tgt := 91) dX8_frameOf_69 rfl ?_ ?_
  · exact J.pick [2] rfl (hkx61 _)
  · refine J.iload_n (pc := 72) C dX8_frameOf_72 rfl rfl ?_
    refine J.aload_n (pc := 73) C (x := a0) dX8_frameOf_73 rfl rfl ?_
    refine J.iload_n (pc := 74) C dX8_frameOf_74 rfl rfl ?_
    refine J.iload (pc := 75) C dX8_frameOf_75 rfl ?_
    refine J.vI (pc := 77) C mv_X8_edgesIn wm_RX8_117 (fun l => c_X8_edgesIn l g S a0 a1 x4) ⟨⟨Nat.zero_le _, Nat.zero_le _⟩, rfl, rfl⟩ rfl ⟨Nat.le_of_ble_eq_true rfl, Nat.le_of_ble_eq_true rfl⟩ rfl (cat_i cat_n) (Nat.le_of_ble_eq_true rfl) dX8_frameOf_77 (fun r3 => ?_)
    refine J.sI (pc := 80) C ms_X8_bits wm_RX8_67 (fun l => c_X8_bits l g S r3) ⟨⟨Nat.zero_le _, Nat.zero_le _⟩, rfl, rfl⟩ rfl ⟨Nat.le_of_ble_eq_true rfl, Nat.le_of_ble_eq_true rfl⟩ rfl (cat_i cat_n) (Nat.le_of_ble_eq_true rfl) dX8_frameOf_80 (fun r4 => ?_)
    refine J.iadd (pc := 83) C dX8_frameOf_83 ?_
    refine J.istore_n (pc := 84) C (lv' := [(0, rv g a0), (1, .int a1), (3, .int (x3 + r4)), (4, .int x4)]) dX8_frameOf_84 rfl (Nat.le_of_ble_eq_true rfl) rfl ?_
    refine J.iinc (pc := 85) C (lv' := [(0, rv g a0), (1, .int a1), (3, .int (x3 + r4)), (4, .int (x4 + 1))]) dX8_frameOf_85 rfl (Nat.le_of_ble_eq_true rfl) ki_1 rfl ?_
    refine J.goto (pc := 88) C (tgt := 61) dX8_frameOf_88 rfl ?_
    exact (hk61 _ _)
def f_X8_frameOf (S : St) (a0 : Nat) (a1 : Int32) (a2 : Int32) : Option Int32 :=
  (chk (okc S 8 a0) (bnd (f_X8_isFrame S a0 a1) fun r1 =>
  (if r1 = 0 then
  (some (-10000001))
  else (bnd (f_X8_in a2 0 2) fun r2 =>
  (if r2 = 0 then
  (some (-10000001))
  else (if (2 : Int32) ≤ a2 then
  (wl2 (f_X8_frameOf_B61 S a0 a1 (fun (y3_5 : Int32) => (some y3_5))) FU 0 0)
  else (if a2 = 0 then
  (chk (okc S 8 a0) (bnd (f_X8_frameValue S a0 a1 0) fun r7 =>
  (some r7)))
  else (chk (okc S 8 a0) (bnd (f_X8_frameValue S a0 a1 1) fun r6 =>
  (chk (okc S 8 a0)
  (chk (ina S 10 (S.2.1 a0 0) 0)
  (some (r6 &&& ((1 <<< ((S.1 (S.2.1 a0 0) (0 : Int32).toNatClampNeg) &&& 31)) - 1))))))))))))))
set_option maxRecDepth 100000 in
set_option maxHeartbeats 4000000 in
theorem c_X8_frameOf (l : Launch) (g : GG) (S : St) (a0 : Nat) (a1 : Int32) (a2 : Int32) : Ct l yX8_frameOf cX8_frameOf 5 (some .int) rm_X8_frameOf g aI (pK S) [rv g a0, .int a1, .int a2] S (f_X8_frameOf S a0 a1 a2) := by
  refine Ct.mk (cf := cw (0, 0)) (by decide +kernel) (cat_r (cat_i (cat_i cat_n))) (Nat.le_of_ble_eq_true rfl) rfl ?_
  intro X hXl hin C
  show J X g _ _ 0 [(0, rv g a0), (1, .int a1), (2, .int a2)] [] S (f_X8_frameOf S a0 a1 a2)
  unfold f_X8_frameOf
  refine J.aload_n (pc := 0) C (x := a0) dX8_frameOf_0 rfl rfl ?_
  refine J.iload_n (pc := 1) C dX8_frameOf_1 rfl rfl ?_
  refine J.vI (pc := 2) C mv_X8_isFrame wm_RX8_97 (fun l => c_X8_isFrame l g S a0 a1) ⟨⟨Nat.zero_le _, Nat.zero_le _⟩, rfl, rfl⟩ rfl ⟨Nat.le_of_ble_eq_true rfl, Nat.le_of_ble_eq_true rfl⟩ rfl cat_n (Nat.le_of_ble_eq_true rfl) dX8_frameOf_2 (fun r1 => ?_)
  refine J.if_eq (pc := 5) C (tgt := 17) dX8_frameOf_5 rfl ?_ ?_
  · refine J.ldc (pc := 17) C wc_RX8_44 dX8_frameOf_17 ?_
    exact J.iret (pc := 19) C rfl rfl ⟨Nat.le_refl _, Nat.le_refl _⟩ dX8_frameOf_19
  · refine J.iload_n (pc := 8) C dX8_frameOf_8 rfl rfl ?_
    refine J.iconst (pc := 9) C dX8_frameOf_9 ki_0 ?_
    refine J.iconst (pc := 10) C dX8_frameOf_10 ki_2 ?_
    refine J.sI (pc := 11) C ms_X8_in wm_RX8_36 (fun l => c_X8_in l g S a2 0 2) ⟨⟨Nat.zero_le _, Nat.zero_le _⟩, rfl, rfl⟩ rfl ⟨Nat.le_of_ble_eq_true rfl, Nat.le_of_ble_eq_true rfl⟩ rfl cat_n (Nat.le_of_ble_eq_true rfl) dX8_frameOf_11 (fun r2 => ?_)
    refine J.if_ne (pc := 14) C (tgt := 20) dX8_frameOf_14 rfl ?_ ?_
    · refine J.iload_n (pc := 20) C dX8_frameOf_20 rfl rfl ?_
      refine J.iconst (pc := 21) C dX8_frameOf_21 ki_2 ?_
      refine J.icmp_ge (pc := 22) C (tgt := 56) dX8_frameOf_22 rfl ?_ ?_
      · refine J.iconst (pc := 56) C dX8_frameOf_56 ki_0 ?_
        refine J.istore_n (pc := 57) C (lv' := [(0, rv g a0), (1, .int a1), (2, .int a2), (3, .int 0)]) dX8_frameOf_57 rfl (Nat.le_of_ble_eq_true rfl) rfl ?_
        refine J.iconst (pc := 58) C dX8_frameOf_58 ki_0 ?_
        refine J.istore (pc := 59) C (lv' := [(0, rv g a0), (1, .int a1), (2, .int a2), (3, .int 0), (4, .int 0)]) dX8_frameOf_59 (Nat.le_of_ble_eq_true rfl) rfl ?_
        refine J.pick [0, 1, 3, 4] rfl ?_
        refine w_X8_frameOf_B61 C _ _ _ _ (fun y3_5 => ?_) FU _ _
        refine J.iload_n (pc := 91) C dX8_frameOf_91 rfl rfl ?_
        exact J.iret (pc := 92) C rfl rfl ⟨Nat.le_refl _, Nat.le_refl _⟩ dX8_frameOf_92
      · refine J.iload_n (pc := 25) C dX8_frameOf_25 rfl rfl ?_
        refine J.if_ne (pc := 26) C (tgt := 38) dX8_frameOf_26 rfl ?_ ?_
        · refine J.aload_n (pc := 38) C (x := a0) dX8_frameOf_38 rfl rfl ?_
          refine J.iload_n (pc := 39) C dX8_frameOf_39 rfl rfl ?_
          refine J.iconst (pc := 40) C dX8_frameOf_40 ki_1 ?_
          refine J.vI (pc := 41) C mv_X8_frameValue wm_RX8_100 (fun l => c_X8_frameValue l g S a0 a1 1) ⟨⟨Nat.zero_le _, Nat.zero_le _⟩, rfl, rfl⟩ rfl ⟨Nat.le_of_ble_eq_true rfl, Nat.le_of_ble_eq_true rfl⟩ rfl cat_n (Nat.le_of_ble_eq_true rfl) dX8_frameOf_41 (fun r6 => ?_)
          refine J.iconst (pc := 44) C dX8_frameOf_44 ki_1 ?_
          refine J.aload_n (pc := 45) C (x := a0) dX8_frameOf_45 rfl rfl ?_
          refine J.getR (pc := 46) C fl_RX8_7 rfl dX8_frameOf_46 ?_
          refine J.iconst (pc := 49) C dX8_frameOf_49 ki_0 ?_
          refine J.iald (pc := 50) C dX8_frameOf_50 ?_
          refine J.ishl (pc := 51) C dX8_frameOf_51 ?_
          refine J.iconst (pc := 52) C dX8_frameOf_52 ki_1 ?_
          refine J.isub (pc := 53) C dX8_frameOf_53 ?_
          refine J.iand (pc := 54) C dX8_frameOf_54 ?_
          exact J.iret (pc := 55) C rfl rfl ⟨Nat.le_refl _, Nat.le_refl _⟩ dX8_frameOf_55
        · refine J.aload_n (pc := 29) C (x := a0) dX8_frameOf_29 rfl rfl ?_
          refine J.iload_n (pc := 30) C dX8_frameOf_30 rfl rfl ?_
          refine J.iconst (pc := 31) C dX8_frameOf_31 ki_0 ?_
          refine J.vI (pc := 32) C mv_X8_frameValue wm_RX8_100 (fun l => c_X8_frameValue l g S a0 a1 0) ⟨⟨Nat.zero_le _, Nat.zero_le _⟩, rfl, rfl⟩ rfl ⟨Nat.le_of_ble_eq_true rfl, Nat.le_of_ble_eq_true rfl⟩ rfl cat_n (Nat.le_of_ble_eq_true rfl) dX8_frameOf_32 (fun r7 => ?_)
          refine J.goto (pc := 35) C (tgt := 55) dX8_frameOf_35 rfl ?_
          exact J.iret (pc := 55) C rfl rfl ⟨Nat.le_refl _, Nat.le_refl _⟩ dX8_frameOf_55
    · refine J.ldc (pc := 17) C wc_RX8_44 dX8_frameOf_17 ?_
      exact J.iret (pc := 19) C rfl rfl ⟨Nat.le_refl _, Nat.le_refl _⟩ dX8_frameOf_19
abbrev rm_X8_init : Room := { frames := 1, cells := 6, slots := 5305, locals := 20 }
def f_X8_init (S : St) (a0 : Nat) : Option St :=
  (chk (¬ a0 = 0)
  (chk ((kd S.2.2 = 10 ∧ ln S.2.2 = 867) ∧ nok S.2.2 6 5305 S.2.2 867) (vlt (newS S) fun S_1 =>
  (chk (okc S_1 8 a0) (vlt (upR S_1 a0 0 S.2.2) fun S_2 =>
  (chk ((kd S_2.2.2 = 10 ∧ ln S_2.2.2 = 3468) ∧ nok S.2.2 6 5305 S_2.2.2 3468) (vlt (newS S_2) fun S_3 =>
  (chk (okc S_3 8 a0) (vlt (upR S_3 a0 1 S_2.2.2) fun S_4 =>
  (chk ((kd S_4.2.2 = 10 ∧ ln S_4.2.2 = 867) ∧ nok S.2.2 6 5305 S_4.2.2 867) (vlt (newS S_4) fun S_5 =>
  (chk (okc S_5 8 a0) (vlt (upR S_5 a0 3 S_4.2.2) fun S_6 =>
  (chk ((kd S_6.2.2 = 10 ∧ ln S_6.2.2 = 80) ∧ nok S.2.2 6 5305 S_6.2.2 80) (vlt (newS S_6) fun S_7 =>
  (chk (okc S_7 8 a0) (vlt (upR S_7 a0 4 S_6.2.2) fun S_8 =>
  (chk ((kd S_8.2.2 = 10 ∧ ln S_8.2.2 = 17) ∧ nok S.2.2 6 5305 S_8.2.2 17) (vlt (newS S_8) fun S_9 =>
  (chk (okc S_9 8 a0) (vlt (upR S_9 a0 6 S_8.2.2) fun S_10 =>
  (chk ((kd S_10.2.2 = 10 ∧ ln S_10.2.2 = 6) ∧ nok S.2.2 6 5305 S_10.2.2 6) (vlt (newS S_10) fun S_11 =>
  (chk (okc S_11 8 a0) (vlt (upR S_11 a0 13 S_10.2.2) fun S_12 =>
  (chk (okc S_12 8 a0)
  (chk (inw S_12 10 (S_12.2.1 a0 0) 0) (vlt (upI S_12 (S_12.2.1 a0 0) (0 : Int32).toNatClampNeg 6) fun S_13 =>
  (chk (okc S_13 8 a0)
  (chk (inw S_13 10 (S_13.2.1 a0 0) 1) (vlt (upI S_13 (S_13.2.1 a0 0) (1 : Int32).toNatClampNeg 12) fun S_14 =>
  (chk (okc S_14 8 a0)
  (chk (inw S_14 10 (S_14.2.1 a0 0) 2) (vlt (upI S_14 (S_14.2.1 a0 0) (2 : Int32).toNatClampNeg 1) fun S_15 =>
  (chk (okc S_15 8 a0)
  (chk (inw S_15 10 (S_15.2.1 a0 0) 3) (vlt (upI S_15 (S_15.2.1 a0 0) (3 : Int32).toNatClampNeg 40) fun S_16 =>
  (chk (okc S_16 8 a0)
  (chk (inw S_16 10 (S_16.2.1 a0 0) 4) (vlt (upI S_16 (S_16.2.1 a0 0) (4 : Int32).toNatClampNeg 20) fun S_17 =>
  (chk (okc S_17 8 a0)
  (chk (inw S_17 10 (S_17.2.1 a0 0) 7) (vlt (upI S_17 (S_17.2.1 a0 0) (7 : Int32).toNatClampNeg 50) fun S_18 =>
  (chk (rok S.2.2 6 5305 S_18.2.2) (some S_18)))))))))))))))))))))))))))))))))))))))))))))
set_option maxRecDepth 100000 in
set_option maxHeartbeats 4000000 in
theorem c_X8_init (l : Launch) (g : GG) (S : St) (a0 : Nat) : Ct l yX8_init cX8_init 1 none rm_X8_init g aU pU [rv g a0] S (f_X8_init S a0) := by
  refine Ct.mk (cf := cfC S.2.2) (by decide +kernel) (cat_r cat_n) (Nat.le_of_ble_eq_true rfl) (cfC_0 _) ?_
  intro X hXl hin C
  show J X g _ _ 0 [(0, rv g a0)] [] S (f_X8_init S a0)
  have hin : X.2.2.2.2.2.2.2.2.1.name = "<init>" := hin
  unfold f_X8_init
  refine J.aload_n (pc := 0) C (x := a0) dX8_init_0 rfl rfl ?_
  refine J.objInit (pc := 1) C wm_RX8_1 w_oi w_oc cat_n ⟨Nat.le_of_ble_eq_true rfl, Nat.le_of_ble_eq_true rfl⟩ dX8_init_1 ?_
  refine J.aload_n (pc := 4) C (x := a0) dX8_init_4 rfl rfl ?_
  refine J.sipush (pc := 5) C dX8_init_5 ks_867 ?_
  refine J.newa (atype := .int) (ty := .int) (n := 867) (c := 10) (N := 867) C rfl ⟨by decide, by decide, rfl, fun _ => rfl, (fun D h => by cases h), rfl⟩ wa_int (by decide) (by decide) (by decide) dX8_init_8 (fun S_1 _ => ?_)
  refine J.putRs (pc := 10) C fl_RX8_7 rfl (fun r h => by cases h; exact ⟨rfl, rfl⟩) hin nar_ra fit_ra dX8_init_10 (fun S_2 => ?_)
  refine J.aload_n (pc := 13) C (x := a0) dX8_init_13 rfl rfl ?_
  refine J.sipush (pc := 14) C dX8_init_14 ks_3468 ?_
  refine J.newa (atype := .int) (ty := .int) (n := 3468) (c := 10) (N := 3468) C rfl ⟨by decide, by decide, rfl, fun _ => rfl, (fun D h => by cases h), rfl⟩ wa_int (by decide) (by decide) (by decide) dX8_init_17 (fun S_3 _ => ?_)
  refine J.putRs (pc := 19) C fl_RX8_13 rfl (fun r h => by cases h; exact ⟨rfl, rfl⟩) hin nar_ra fit_ra dX8_init_19 (fun S_4 => ?_)
  refine J.aload_n (pc := 22) C (x := a0) dX8_init_22 rfl rfl ?_
  refine J.sipush (pc := 23) C dX8_init_23 ks_867 ?_
  refine J.newa (atype := .int) (ty := .int) (n := 867) (c := 10) (N := 867) C rfl ⟨by decide, by decide, rfl, fun _ => rfl, (fun D h => by cases h), rfl⟩ wa_int (by decide) (by decide) (by decide) dX8_init_26 (fun S_5 _ => ?_)
  refine J.putRs (pc := 28) C fl_RX8_16 rfl (fun r h => by cases h; exact ⟨rfl, rfl⟩) hin nar_ra fit_ra dX8_init_28 (fun S_6 => ?_)
  refine J.aload_n (pc := 31) C (x := a0) dX8_init_31 rfl rfl ?_
  refine J.bipush (pc := 32) C dX8_init_32 kb_80 ?_
  refine J.newa (atype := .int) (ty := .int) (n := 80) (c := 10) (N := 80) C rfl ⟨by decide, by decide, rfl, fun _ => rfl, (fun D h => by cases h), rfl⟩ wa_int (by decide) (by decide) (by decide) dX8_init_34 (fun S_7 _ => ?_)
  refine J.putRs (pc := 36) C fl_RX8_19 rfl (fun r h => by cases h; exact ⟨rfl, rfl⟩) hin nar_ra fit_ra dX8_init_36 (fun S_8 => ?_)
  refine J.aload_n (pc := 39) C (x := a0) dX8_init_39 rfl rfl ?_
  refine J.bipush (pc := 40) C dX8_init_40 kb_17 ?_
  refine J.newa (atype := .int) (ty := .int) (n := 17) (c := 10) (N := 17) C rfl ⟨by decide, by decide, rfl, fun _ => rfl, (fun D h => by cases h), rfl⟩ wa_int (by decide) (by decide) (by decide) dX8_init_42 (fun S_9 _ => ?_)
  refine J.putRs (pc := 44) C fl_RX8_22 rfl (fun r h => by cases h; exact ⟨rfl, rfl⟩) hin nar_ra fit_ra dX8_init_44 (fun S_10 => ?_)
  refine J.aload_n (pc := 47) C (x := a0) dX8_init_47 rfl rfl ?_
  refine J.bipush (pc := 48) C dX8_init_48 kb_6 ?_
  refine J.newa (atype := .int) (ty := .int) (n := 6) (c := 10) (N := 6) C rfl ⟨by decide, by decide, rfl, fun _ => rfl, (fun D h => by cases h), rfl⟩ wa_int (by decide) (by decide) (by decide) dX8_init_50 (fun S_11 _ => ?_)
  refine J.putRs (pc := 52) C fl_RX8_25 rfl (fun r h => by cases h; exact ⟨rfl, rfl⟩) hin nar_ra fit_ra dX8_init_52 (fun S_12 => ?_)
  refine J.aload_n (pc := 55) C (x := a0) dX8_init_55 rfl rfl ?_
  refine J.getR (pc := 56) C fl_RX8_7 rfl dX8_init_56 ?_
  refine J.iconst (pc := 59) C dX8_init_59 ki_0 ?_
  refine J.bipush (pc := 60) C dX8_init_60 kb_6 ?_
  refine J.iasts (pc := 62) C dX8_init_62 (fun S_13 => ?_)
  refine J.aload_n (pc := 63) C (x := a0) dX8_init_63 rfl rfl ?_
  refine J.getR (pc := 64) C fl_RX8_7 rfl dX8_init_64 ?_
  refine J.iconst (pc := 67) C dX8_init_67 ki_1 ?_
  refine J.bipush (pc := 68) C dX8_init_68 kb_12 ?_
  refine J.iasts (pc := 70) C dX8_init_70 (fun S_14 => ?_)
  refine J.aload_n (pc := 71) C (x := a0) dX8_init_71 rfl rfl ?_
  refine J.getR (pc := 72) C fl_RX8_7 rfl dX8_init_72 ?_
  refine J.iconst (pc := 75) C dX8_init_75 ki_2 ?_
  refine J.iconst (pc := 76) C dX8_init_76 ki_1 ?_
  refine J.iasts (pc := 77) C dX8_init_77 (fun S_15 => ?_)
  refine J.aload_n (pc := 78) C (x := a0) dX8_init_78 rfl rfl ?_
  refine J.getR (pc := 79) C fl_RX8_7 rfl dX8_init_79 ?_
  refine J.iconst (pc := 82) C dX8_init_82 ki_3 ?_
  refine J.bipush (pc := 83) C dX8_init_83 kb_40 ?_
  refine J.iasts (pc := 85) C dX8_init_85 (fun S_16 => ?_)
  refine J.aload_n (pc := 86) C (x := a0) dX8_init_86 rfl rfl ?_
  refine J.getR (pc := 87) C fl_RX8_7 rfl dX8_init_87 ?_
  refine J.iconst (pc := 90) C dX8_init_90 ki_4 ?_
  refine J.bipush (pc := 91) C dX8_init_91 kb_20 ?_
  refine J.iasts (pc := 93) C dX8_init_93 (fun S_17 => ?_)
  refine J.aload_n (pc := 94) C (x := a0) dX8_init_94 rfl rfl ?_
  refine J.getR (pc := 95) C fl_RX8_7 rfl dX8_init_95 ?_
  refine J.bipush (pc := 98) C dX8_init_98 kb_7 ?_
  refine J.bipush (pc := 100) C dX8_init_100 kb_50 ?_
  refine J.iasts (pc := 102) C dX8_init_102 (fun S_18 => ?_)
  refine J.ck (fun hr => ?_)
  exact J.vret (pc := 103) C rfl rfl (rok_le hr) dX8_init_103
abbrev rm_X8_judge : Room := { frames := 6, cells := 0, slots := 0, locals := 143 }
def f_X8_judge_B56 (a0 : Nat) (a4 : Int32) (a5 : Int32) (kx56 : St → Option (Int32 × St)) (k56 : St → Int32 → Option (Int32 × St)) (S : St) (x6 : Int32) : Option (Int32 × St) :=
  (if (10 : Int32) ≤ x6 then
  (kx56 S)
  else (chk (okc S 8 a0)
  (chk (ina S 10 (S.2.1 a0 0) (847 + x6))
  (chk (inw S 10 (S.2.1 a0 0) (847 + x6)) (vlt (upI S (S.2.1 a0 0) (847 + x6).toNatClampNeg ((S.1 (S.2.1 a0 0) (847 + x6).toNatClampNeg) + ((a4 >>> (x6 &&& 31)) &&& 1))) fun S_7 =>
  (chk (okc S_7 8 a0)
  (chk (ina S_7 10 (S_7.2.1 a0 0) (857 + x6))
  (chk (inw S_7 10 (S_7.2.1 a0 0) (857 + x6)) (vlt (upI S_7 (S_7.2.1 a0 0) (857 + x6).toNatClampNeg ((S_7.1 (S_7.2.1 a0 0) (857 + x6).toNatClampNeg) + ((a5 >>> (x6 &&& 31)) &&& 1))) fun S_8 =>
  (k56 S_8 (x6 + 1)))))))))))
set_option maxRecDepth 100000 in
set_option maxHeartbeats 4000000 in
theorem w_X8_judge_B56 {X : CT} {g : GG} (C : CX X g cX8_judge RX8 (some .int) 7 rm_X8_judge) (a0 : Nat) (a4 : Int32) (a5 : Int32) (kx56 : St → Option (Int32 × St)) (hkx56 : ∀ (S : St), J X g (Qm X g aW pW) (cw (0, 0)) 111 [(4, .int a4), (5, .int a5)] [] S (kx56 S)) : ∀ (n : Nat) (S : St) (x6 : Int32), J X g (Qm X g aW pW) (cw (0, 0)) 56 [(0, rv g a0), (4, .int a4), (5, .int a5), (6, .int x6)] [] S (wl2 (f_X8_judge_B56 a0 a4 a5 kx56) n S x6) := by
  refine J.loop2 (lvf := fun (S : St) (x6 : Int32) => [(0, rv g a0), (4, .int a4), (5, .int a5), (6, .int x6)]) (Sf := fun (S : St) (x6 : Int32) => S) ?_
  intro k56 hk56 S x6
  show J X g _ _ 56 [(0, rv g a0), (4, .int a4), (5, .int a5), (6, .int x6)] [] S (f_X8_judge_B56 a0 a4 a5 kx56 k56 S x6)
  unfold f_X8_judge_B56
  refine J.iload (pc := 56) C dX8_judge_56 rfl ?_
  refine J.bipush (pc := 58) C dX8_judge_58 kb_10 ?_
  refine J.icmp_ge (pc := 60) C (tgt := 111) dX8_judge_60 rfl ?_ ?_
  · exact J.pick [1, 2] rfl (hkx56 _)
  · refine J.aload_n (pc := 63) C (x := a0) dX8_judge_63 rfl rfl ?_
    refine J.getR (pc := 64) C fl_RX8_7 rfl dX8_judge_64 ?_
    refine J.sipush (pc := 67) C dX8_judge_67 ks_847 ?_
    refine J.iload (pc := 70) C dX8_judge_70 rfl ?_
    refine J.iadd (pc := 72) C dX8_judge_72 ?_
    refine J.dup2 (pc := 73) C dX8_judge_73 rfl (rv_cat g _) ?_
    refine J.iald (pc := 74) C dX8_judge_74 ?_
    refine J.iload (pc := 75) C dX8_judge_75 rfl ?_
    refine J.iload (pc := 77) C dX8_judge_77 rfl ?_
    refine J.ishr (pc := 79) C dX8_judge_79 ?_
    refine J.iconst (pc := 80) C dX8_judge_80 ki_1 ?_
    refine J.iand (pc := 81) C dX8_judge_81 ?_
    refine J.iadd (pc := 82) C dX8_judge_82 ?_
    refine J.iasts (pc := 83) C dX8_judge_83 (fun S_7 => ?_)
    refine J.aload_n (pc := 84) C (x := a0) dX8_judge_84 rfl rfl ?_
    refine J.getR (pc := 85) C fl_RX8_7 rfl dX8_judge_85 ?_
    refine J.sipush (pc := 88) C dX8_judge_88 ks_857 ?_
    refine J.iload (pc := 91) C dX8_judge_91 rfl ?_
    refine J.iadd (pc := 93) C dX8_judge_93 ?_
    refine J.dup2 (pc := 94) C dX8_judge_94 rfl (rv_cat g _) ?_
    refine J.iald (pc := 95) C dX8_judge_95 ?_
    refine J.iload (pc := 96) C dX8_judge_96 rfl ?_
    refine J.iload (pc := 98) C dX8_judge_98 rfl ?_
    refine J.ishr (pc := 100) C dX8_judge_100 ?_
    refine J.iconst (pc := 101) C dX8_judge_101 ki_1 ?_
    refine J.iand (pc := 102) C dX8_judge_102 ?_
    refine J.iadd (pc := 103) C dX8_judge_103 ?_
    refine J.iasts (pc := 104) C dX8_judge_104 (fun S_8 => ?_)
    refine J.iinc (pc := 105) C (lv' := [(0, rv g a0), (4, .int a4), (5, .int a5), (6, .int (x6 + 1))]) dX8_judge_105 rfl (Nat.le_of_ble_eq_true rfl) ki_1 rfl ?_
    refine J.goto (pc := 108) C (tgt := 56) dX8_judge_108 rfl ?_
    exact (hk56 _ _)
def f_X8_judge (S : St) (a0 : Nat) (a1 : Int32) (a2 : Int32) : Option (Int32 × St) :=
  (chk (okc S 8 a0) (bnd (f_X8_areFrames S a0 a1 a2) fun r1 =>
  (if r1 = 0 then
  (some ((-10000001), S))
  else (chk (okc S 8 a0) (bnd2 (f_X8_toldBy S a0 a1 a2 0) fun r2 S_3 =>
  (if r2 = (-1000000) then
  (some ((-10000004), S_3))
  else (chk (okc S_3 8 a0) (bnd (f_X8_votersOf S_3 a0 a1 a2 r2 1) fun r4 =>
  (chk (okc S_3 8 a0) (bnd (f_X8_votersOf S_3 a0 a1 a2 r2 0) fun r5 =>
  (chk (okc S_3 8 a0) (bnd (f_X8_notes S_3 a0) fun S_6 =>
  (wl2 (f_X8_judge_B56 a0 r4 r5 (fun (S_9 : St) => (bnd (f_X8_bits r4) fun r10 =>
  (bnd (f_X8_bits r5) fun r11 =>
  (some (r10 + r11, S_9)))))) FU S_6 0)))))))))))))
set_option maxRecDepth 100000 in
set_option maxHeartbeats 4000000 in
theorem c_X8_judge (l : Launch) (g : GG) (S : St) (a0 : Nat) (a1 : Int32) (a2 : Int32) : Ct l yX8_judge cX8_judge 7 (some .int) rm_X8_judge g aW pW [rv g a0, .int a1, .int a2] S (f_X8_judge S a0 a1 a2) := by
  refine Ct.mk (cf := cw (0, 0)) (by decide +kernel) (cat_r (cat_i (cat_i cat_n))) (Nat.le_of_ble_eq_true rfl) rfl ?_
  intro X hXl hin C
  show J X g _ _ 0 [(0, rv g a0), (1, .int a1), (2, .int a2)] [] S (f_X8_judge S a0 a1 a2)
  unfold f_X8_judge
  refine J.aload_n (pc := 0) C (x := a0) dX8_judge_0 rfl rfl ?_
  refine J.iload_n (pc := 1) C dX8_judge_1 rfl rfl ?_
  refine J.iload_n (pc := 2) C dX8_judge_2 rfl rfl ?_
  refine J.vI (pc := 3) C mv_X8_areFrames wm_RX8_130 (fun l => c_X8_areFrames l g S a0 a1 a2) ⟨⟨Nat.zero_le _, Nat.zero_le _⟩, rfl, rfl⟩ rfl ⟨Nat.le_of_ble_eq_true rfl, Nat.le_of_ble_eq_true rfl⟩ rfl cat_n (Nat.le_of_ble_eq_true rfl) dX8_judge_3 (fun r1 => ?_)
  refine J.if_ne (pc := 6) C (tgt := 12) dX8_judge_6 rfl ?_ ?_
  · refine J.aload_n (pc := 12) C (x := a0) dX8_judge_12 rfl rfl ?_
    refine J.iload_n (pc := 13) C dX8_judge_13 rfl rfl ?_
    refine J.iload_n (pc := 14) C dX8_judge_14 rfl rfl ?_
    refine J.iconst (pc := 15) C dX8_judge_15 ki_0 ?_
    refine J.vW (pc := 16) C mv_X8_toldBy wm_RX8_150 (fun l => c_X8_toldBy l g S a0 a1 a2 0) ⟨⟨Nat.zero_le _, Nat.zero_le _⟩, rfl, rfl⟩ rfl ⟨Nat.le_of_ble_eq_true rfl, Nat.le_of_ble_eq_true rfl⟩ rfl cat_n (Nat.le_of_ble_eq_true rfl) dX8_judge_16 (fun r2 S_3 => ?_)
    refine J.istore_n (pc := 19) C (lv' := [(0, rv g a0), (1, .int a1), (2, .int a2), (3, .int r2)]) dX8_judge_19 rfl (Nat.le_of_ble_eq_true rfl) rfl ?_
    refine J.iload_n (pc := 20) C dX8_judge_20 rfl rfl ?_
    refine J.ldc (pc := 21) C wc_RX8_49 dX8_judge_21 ?_
    refine J.icmp_ne (pc := 23) C (tgt := 29) dX8_judge_23 rfl ?_ ?_
    · refine J.aload_n (pc := 29) C (x := a0) dX8_judge_29 rfl rfl ?_
      refine J.iload_n (pc := 30) C dX8_judge_30 rfl rfl ?_
      refine J.iload_n (pc := 31) C dX8_judge_31 rfl rfl ?_
      refine J.iload_n (pc := 32) C dX8_judge_32 rfl rfl ?_
      refine J.iconst (pc := 33) C dX8_judge_33 ki_1 ?_
      refine J.vI (pc := 34) C mv_X8_votersOf wm_RX8_154 (fun l => c_X8_votersOf l g S_3 a0 a1 a2 r2 1) ⟨⟨Nat.zero_le _, Nat.zero_le _⟩, rfl, rfl⟩ rfl ⟨Nat.le_of_ble_eq_true rfl, Nat.le_of_ble_eq_true rfl⟩ rfl cat_n (Nat.le_of_ble_eq_true rfl) dX8_judge_34 (fun r4 => ?_)
      refine J.istore (pc := 37) C (lv' := [(0, rv g a0), (1, .int a1), (2, .int a2), (3, .int r2), (4, .int r4)]) dX8_judge_37 (Nat.le_of_ble_eq_true rfl) rfl ?_
      refine J.aload_n (pc := 39) C (x := a0) dX8_judge_39 rfl rfl ?_
      refine J.iload_n (pc := 40) C dX8_judge_40 rfl rfl ?_
      refine J.iload_n (pc := 41) C dX8_judge_41 rfl rfl ?_
      refine J.iload_n (pc := 42) C dX8_judge_42 rfl rfl ?_
      refine J.iconst (pc := 43) C dX8_judge_43 ki_0 ?_
      refine J.vI (pc := 44) C mv_X8_votersOf wm_RX8_154 (fun l => c_X8_votersOf l g S_3 a0 a1 a2 r2 0) ⟨⟨Nat.zero_le _, Nat.zero_le _⟩, rfl, rfl⟩ rfl ⟨Nat.le_of_ble_eq_true rfl, Nat.le_of_ble_eq_true rfl⟩ rfl cat_n (Nat.le_of_ble_eq_true rfl) dX8_judge_44 (fun r5 => ?_)
      refine J.istore (pc := 47) C (lv' := [(0, rv g a0), (1, .int a1), (2, .int a2), (3, .int r2), (4, .int r4), (5, .int r5)]) dX8_judge_47 (Nat.le_of_ble_eq_true rfl) rfl ?_
      refine J.aload_n (pc := 49) C (x := a0) dX8_judge_49 rfl rfl ?_
      refine J.vU (pc := 50) C mv_X8_notes wm_RX8_46 (fun l => c_X8_notes l g S_3 a0) ⟨⟨Nat.zero_le _, Nat.zero_le _⟩, rfl, rfl⟩ rfl ⟨Nat.le_of_ble_eq_true rfl, Nat.le_of_ble_eq_true rfl⟩ rfl cat_n (Nat.le_of_ble_eq_true rfl) dX8_judge_50 (fun S_6 => ?_)
      refine J.iconst (pc := 53) C dX8_judge_53 ki_0 ?_
      refine J.istore (pc := 54) C (lv' := [(0, rv g a0), (1, .int a1), (2, .int a2), (3, .int r2), (4, .int r4), (5, .int r5), (6, .int 0)]) dX8_judge_54 (Nat.le_of_ble_eq_true rfl) rfl ?_
      refine J.pick [0, 4, 5, 6] rfl ?_
      refine w_X8_judge_B56 C _ _ _ _ (fun S_9 => ?_) FU _ _
      refine J.iload (pc := 111) C dX8_judge_111 rfl ?_
      refine J.sI (pc := 113) C ms_X8_bits wm_RX8_67 (fun l => c_X8_bits l g S_9 r4) ⟨⟨Nat.zero_le _, Nat.zero_le _⟩, rfl, rfl⟩ rfl ⟨Nat.le_of_ble_eq_true rfl, Nat.le_of_ble_eq_true rfl⟩ rfl cat_n (Nat.le_of_ble_eq_true rfl) dX8_judge_113 (fun r10 => ?_)
      refine J.iload (pc := 116) C dX8_judge_116 rfl ?_
      refine J.sI (pc := 118) C ms_X8_bits wm_RX8_67 (fun l => c_X8_bits l g S_9 r5) ⟨⟨Nat.zero_le _, Nat.zero_le _⟩, rfl, rfl⟩ rfl ⟨Nat.le_of_ble_eq_true rfl, Nat.le_of_ble_eq_true rfl⟩ rfl (cat_i cat_n) (Nat.le_of_ble_eq_true rfl) dX8_judge_118 (fun r11 => ?_)
      refine J.iadd (pc := 121) C dX8_judge_121 ?_
      exact J.iret (pc := 122) C rfl rfl ⟨Nat.le_refl _, Nat.le_refl _⟩ dX8_judge_122
    · refine J.ldc (pc := 26) C wc_RX8_120 dX8_judge_26 ?_
      exact J.iret (pc := 28) C rfl rfl ⟨Nat.le_refl _, Nat.le_refl _⟩ dX8_judge_28
  · refine J.ldc (pc := 9) C wc_RX8_44 dX8_judge_9 ?_
    exact J.iret (pc := 11) C rfl rfl ⟨Nat.le_refl _, Nat.le_refl _⟩ dX8_judge_11
abbrev rm_X8_isThing : Room := { frames := 1, cells := 0, slots := 0, locals := 22 }
def f_X8_isThing (S : St) (a0 : Nat) (a1 : Int32) : Option Int32 :=
  (chk (okc S 8 a0)
  (chk (ina S 10 (S.2.1 a0 0) 8)
  (bnd (f_X8_in a1 0 ((S.1 (S.2.1 a0 0) (8 : Int32).toNatClampNeg) - 1)) fun r1 =>
  (chk (r1 = 0 ∨ r1 = 1) (some r1)))))
set_option maxRecDepth 100000 in
set_option maxHeartbeats 4000000 in
theorem c_X8_isThing (l : Launch) (g : GG) (S : St) (a0 : Nat) (a1 : Int32) : Ct l yX8_isThing cX8_isThing 2 (some .boolean) rm_X8_isThing g aI (pK S) [rv g a0, .int a1] S (f_X8_isThing S a0 a1) := by
  refine Ct.mk (cf := cw (0, 0)) (by decide +kernel) (cat_r (cat_i cat_n)) (Nat.le_of_ble_eq_true rfl) rfl ?_
  intro X hXl hin C
  show J X g _ _ 0 [(0, rv g a0), (1, .int a1)] [] S (f_X8_isThing S a0 a1)
  unfold f_X8_isThing
  refine J.iload_n (pc := 0) C dX8_isThing_0 rfl rfl ?_
  refine J.iconst (pc := 1) C dX8_isThing_1 ki_0 ?_
  refine J.aload_n (pc := 2) C (x := a0) dX8_isThing_2 rfl rfl ?_
  refine J.getR (pc := 3) C fl_RX8_7 rfl dX8_isThing_3 ?_
  refine J.bipush (pc := 6) C dX8_isThing_6 kb_8 ?_
  refine J.iald (pc := 8) C dX8_isThing_8 ?_
  refine J.iconst (pc := 9) C dX8_isThing_9 ki_1 ?_
  refine J.isub (pc := 10) C dX8_isThing_10 ?_
  refine J.sI (pc := 11) C ms_X8_in wm_RX8_36 (fun l => c_X8_in l g S a1 0 ((S.1 (S.2.1 a0 0) (8 : Int32).toNatClampNeg) - 1)) ⟨⟨Nat.zero_le _, Nat.zero_le _⟩, rfl, rfl⟩ rfl ⟨Nat.le_of_ble_eq_true rfl, Nat.le_of_ble_eq_true rfl⟩ rfl cat_n (Nat.le_of_ble_eq_true rfl) dX8_isThing_11 (fun r1 => ?_)
  refine J.ck (fun hz => ?_)
  exact J.zret (pc := 14) C (nar_z hz) rfl rfl ⟨Nat.le_refl _, Nat.le_refl _⟩ dX8_isThing_14
abbrev rm_X8_allFit : Room := { frames := 4, cells := 0, slots := 0, locals := 100 }
def f_X8_allFit_B15 (S : St) (a0 : Nat) (a1 : Nat) (a2 : Int32) (kx15 : Option Int32) (k15 : Int32 → Option Int32) (x3 : Int32) : Option Int32 :=
  (chk (okc S 8 a0)
  (chk (ina S 10 (S.2.1 a0 0) 0)
  (if (S.1 (S.2.1 a0 0) (0 : Int32).toNatClampNeg) ≤ x3 then
  kx15
  else (chk (okc S 8 a0) (bnd (f_X8_isSeen S a0 a2 x3) fun r1 =>
  (if r1 = 0 then
  (k15 (x3 + 1))
  else (chk (okc S 8 a0) (bnd (f_X8_rowFits S a0 a1 a2 x3) fun r2 =>
  (if r2 = 0 then
  (some 0)
  else (k15 (x3 + 1)))))))))))
set_option maxRecDepth 100000 in
set_option maxHeartbeats 4000000 in
theorem w_X8_allFit_B15 {X : CT} {g : GG} (C : CX X g cX8_allFit RX8 (some .boolean) 4 rm_X8_allFit) (S : St) (a0 : Nat) (a1 : Nat) (a2 : Int32) (kx15 : Option Int32) (hkx15 : J X g (Qm X g aI (pK S)) (cw (0, 0)) 52 [(0, rv g a0), (1, rv g a1), (2, .int a2)] [] S (kx15)) : ∀ (n : Nat) (x3 : Int32), J X g (Qm X g aI (pK S)) (cw (0, 0)) 15 [(0, rv g a0), (1, rv g a1), (2, .int a2), (3, .int x3)] [] S (wl1 (f_X8_allFit_B15 S a0 a1 a2 kx15) n x3) := by
  refine J.loop1 (lvf := fun (x3 : Int32) => [(0, rv g a0), (1, rv g a1), (2, .int a2), (3, .int x3)]) (Sf := fun (x3 : Int32) => S) ?_
  intro k15 hk15 x3
  show J X g _ _ 15 [(0, rv g a0), (1, rv g a1), (2, .int a2), (3, .int x3)] [] S (f_X8_allFit_B15 S a0 a1 a2 kx15 k15 x3)
  unfold f_X8_allFit_B15
  refine J.iload_n (pc := 15) C dX8_allFit_15 rfl rfl ?_
  refine J.aload_n (pc := 16) C (x := a0) dX8_allFit_16 rfl rfl ?_
  refine J.getR (pc := 17) C fl_RX8_7 rfl dX8_allFit_17 ?_
  refine J.iconst (pc := 20) C dX8_allFit_20 ki_0 ?_
  refine J.iald (pc := 21) C dX8_allFit_21 ?_
  refine J.icmp_ge (pc := 22) C (tgt := 52) dX8_allFit_22 rfl ?_ ?_
  · exact J.pick [0, 1, 2] rfl hkx15
  · refine J.aload_n (pc := 25) C (x := a0) dX8_allFit_25 rfl rfl ?_
    refine J.iload_n (pc := 26) C dX8_allFit_26 rfl rfl ?_
    refine J.iload_n (pc := 27) C dX8_allFit_27 rfl rfl ?_
    refine J.vI (pc := 28) C mv_X8_isSeen wm_RX8_107 (fun l => c_X8_isSeen l g S a0 a2 x3) ⟨⟨Nat.zero_le _, Nat.zero_le _⟩, rfl, rfl⟩ rfl ⟨Nat.le_of_ble_eq_true rfl, Nat.le_of_ble_eq_true rfl⟩ rfl cat_n (Nat.le_of_ble_eq_true rfl) dX8_allFit_28 (fun r1 => ?_)
    refine J.if_eq (pc := 31) C (tgt := 46) dX8_allFit_31 rfl ?_ ?_
    · refine J.iinc (pc := 46) C (lv' := [(0, rv g a0), (1, rv g a1), (2, .int a2), (3, .int (x3 + 1))]) dX8_allFit_46 rfl (Nat.le_of_ble_eq_true rfl) ki_1 rfl ?_
      refine J.goto (pc := 49) C (tgt := 15) dX8_allFit_49 rfl ?_
      exact (hk15 _)
    · refine J.aload_n (pc := 34) C (x := a0) dX8_allFit_34 rfl rfl ?_
      refine J.aload_n (pc := 35) C (x := a1) dX8_allFit_35 rfl rfl ?_
      refine J.iload_n (pc := 36) C dX8_allFit_36 rfl rfl ?_
      refine J.iload_n (pc := 37) C dX8_allFit_37 rfl rfl ?_
      refine J.vI (pc := 38) C mv_X8_rowFits wm_RX8_164 (fun l => c_X8_rowFits l g S a0 a1 a2 x3) ⟨⟨Nat.zero_le _, Nat.zero_le _⟩, rfl, rfl⟩ rfl ⟨Nat.le_of_ble_eq_true rfl, Nat.le_of_ble_eq_true rfl⟩ rfl cat_n (Nat.le_of_ble_eq_true rfl) dX8_allFit_38 (fun r2 => ?_)
      refine J.if_ne (pc := 41) C (tgt := 46) dX8_allFit_41 rfl ?_ ?_
      · refine J.iinc (pc := 46) C (lv' := [(0, rv g a0), (1, rv g a1), (2, .int a2), (3, .int (x3 + 1))]) dX8_allFit_46 rfl (Nat.le_of_ble_eq_true rfl) ki_1 rfl ?_
        refine J.goto (pc := 49) C (tgt := 15) dX8_allFit_49 rfl ?_
        exact (hk15 _)
      · refine J.iconst (pc := 44) C dX8_allFit_44 ki_0 ?_
        exact J.zret (pc := 45) C rfl rfl rfl ⟨Nat.le_refl _, Nat.le_refl _⟩ dX8_allFit_45
def f_X8_allFit_B2 (S : St) (a0 : Nat) (a1 : Nat) (kx2 : Option Int32) (k2 : Int32 → Option Int32) (x2 : Int32) : Option Int32 :=
  (chk (okc S 8 a0)
  (chk (ina S 10 (S.2.1 a0 0) 36)
  (if (S.1 (S.2.1 a0 0) (36 : Int32).toNatClampNeg) ≤ x2 then
  kx2
  else (wl1 (f_X8_allFit_B15 S a0 a1 x2 (k2 (x2 + 1))) FU 0))))
set_option maxRecDepth 100000 in
set_option maxHeartbeats 4000000 in
theorem w_X8_allFit_B2 {X : CT} {g : GG} (C : CX X g cX8_allFit RX8 (some .boolean) 4 rm_X8_allFit) (S : St) (a0 : Nat) (a1 : Nat) (kx2 : Option Int32) (hkx2 : J X g (Qm X g aI (pK S)) (cw (0, 0)) 58 [] [] S (kx2)) : ∀ (n : Nat) (x2 : Int32), J X g (Qm X g aI (pK S)) (cw (0, 0)) 2 [(0, rv g a0), (1, rv g a1), (2, .int x2)] [] S (wl1 (f_X8_allFit_B2 S a0 a1 kx2) n x2) := by
  refine J.loop1 (lvf := fun (x2 : Int32) => [(0, rv g a0), (1, rv g a1), (2, .int x2)]) (Sf := fun (x2 : Int32) => S) ?_
  intro k2 hk2 x2
  show J X g _ _ 2 [(0, rv g a0), (1, rv g a1), (2, .int x2)] [] S (f_X8_allFit_B2 S a0 a1 kx2 k2 x2)
  unfold f_X8_allFit_B2
  refine J.iload_n (pc := 2) C dX8_allFit_2 rfl rfl ?_
  refine J.aload_n (pc := 3) C (x := a0) dX8_allFit_3 rfl rfl ?_
  refine J.getR (pc := 4) C fl_RX8_7 rfl dX8_allFit_4 ?_
  refine J.bipush (pc := 7) C dX8_allFit_7 kb_36 ?_
  refine J.iald (pc := 9) C dX8_allFit_9 ?_
  refine J.icmp_ge (pc := 10) C (tgt := 58) dX8_allFit_10 rfl ?_ ?_
  · exact J.pick [] rfl hkx2
  · refine J.iconst (pc := 13) C dX8_allFit_13 ki_0 ?_
    refine J.istore_n (pc := 14) C (lv' := [(0, rv g a0), (1, rv g a1), (2, .int x2), (3, .int 0)]) dX8_allFit_14 rfl (Nat.le_of_ble_eq_true rfl) rfl ?_
    refine w_X8_allFit_B15 C _ _ _ _ _ ?_ FU _
    refine J.iinc (pc := 52) C (lv' := [(0, rv g a0), (1, rv g a1), (2, .int (x2 + 1))]) dX8_allFit_52 rfl (Nat.le_of_ble_eq_true rfl) ki_1 rfl ?_
    refine J.goto (pc := 55) C (tgt := 2) dX8_allFit_55 rfl ?_
    exact (hk2 _)
def f_X8_allFit (S : St) (a0 : Nat) (a1 : Nat) : Option Int32 :=
  (wl1 (f_X8_allFit_B2 S a0 a1 (some 1)) FU 0)
set_option maxRecDepth 100000 in
set_option maxHeartbeats 4000000 in
theorem c_X8_allFit (l : Launch) (g : GG) (S : St) (a0 : Nat) (a1 : Nat) : Ct l yX8_allFit cX8_allFit 4 (some .boolean) rm_X8_allFit g aI (pK S) [rv g a0, rv g a1] S (f_X8_allFit S a0 a1) := by
  refine Ct.mk (cf := cw (0, 0)) (by decide +kernel) (cat_r (cat_r cat_n)) (Nat.le_of_ble_eq_true rfl) rfl ?_
  intro X hXl hin C
  show J X g _ _ 0 [(0, rv g a0), (1, rv g a1)] [] S (f_X8_allFit S a0 a1)
  unfold f_X8_allFit
  refine J.iconst (pc := 0) C dX8_allFit_0 ki_0 ?_
  refine J.istore_n (pc := 1) C (lv' := [(0, rv g a0), (1, rv g a1), (2, .int 0)]) dX8_allFit_1 rfl (Nat.le_of_ble_eq_true rfl) rfl ?_
  refine w_X8_allFit_B2 C _ _ _ _ ?_ FU _
  refine J.iconst (pc := 58) C dX8_allFit_58 ki_1 ?_
  exact J.zret (pc := 59) C rfl rfl rfl ⟨Nat.le_refl _, Nat.le_refl _⟩ dX8_allFit_59
abbrev rm_X8_tries : Room := { frames := 5, cells := 0, slots := 0, locals := 123 }
def f_X8_tries_J117 (S : St) (a0 : Nat) (a2 : Int32) (a3 : Int32) (kx41 : St → Option St) (k41 : St → Int32 → Option St) (x4 : Int32) (t0 : Int32) (t1 : Nat) : Option St :=
  (chk (okc S 8 t1) (vlt (upI S t1 9 t0) fun S_7 =>
  (chk (okc S_7 8 a0) (vlt (upI S_7 a0 10 a3) fun S_8 =>
  (chk (okc S_8 8 a0) (vlt (upI S_8 a0 11 x4) fun S_9 =>
  (chk (okc S_9 8 a0)
  (chk (okc S_9 8 a0) (vlt (upI S_9 a0 7 ((S_9.1 a0 7) + 1)) fun S_10 =>
  (k41 S_10 (x4 + 10)))))))))))
set_option maxRecDepth 100000 in
set_option maxHeartbeats 4000000 in
theorem w_X8_tries_J117 {X : CT} {g : GG} (C : CX X g cX8_tries RX8 none 5 rm_X8_tries) (S : St) (a0 : Nat) (a2 : Int32) (a3 : Int32) (kx41 : St → Option St) (k41 : St → Int32 → Option St) (x4 : Int32) (t0 : Int32) (t1 : Nat) (hkx41 : ∀ (S : St), J X g (Qm X g aU pU) (cw (0, 0)) 147 [(0, rv g a0), (2, .int a2), (3, .int a3)] [] S (kx41 S)) (hk41 : ∀ (S : St) (x4 : Int32), J X g (Qm X g aU pU) (cw (0, 0)) 41 [(0, rv g a0), (2, .int a2), (3, .int a3), (4, .int x4)] [] S (k41 S x4)) : J X g (Qm X g aU pU) (cw (0, 0)) 117 [(0, rv g a0), (2, .int a2), (3, .int a3), (4, .int x4)] [.int t0, rv g t1] S (f_X8_tries_J117 S a0 a2 a3 kx41 k41 x4 t0 t1) := by
  unfold f_X8_tries_J117
  refine J.putIs (pc := 117) C fl_RX8_178 rfl (fun r h => by cases h; rfl) rfl rfl dX8_tries_117 (fun S_7 => ?_)
  refine J.aload_n (pc := 120) C (x := a0) dX8_tries_120 rfl rfl ?_
  refine J.iload_n (pc := 121) C dX8_tries_121 rfl rfl ?_
  refine J.putIs (pc := 122) C fl_RX8_181 rfl (fun r h => by cases h; rfl) rfl rfl dX8_tries_122 (fun S_8 => ?_)
  refine J.aload_n (pc := 125) C (x := a0) dX8_tries_125 rfl rfl ?_
  refine J.iload (pc := 126) C dX8_tries_126 rfl ?_
  refine J.putIs (pc := 128) C fl_RX8_184 rfl (fun r h => by cases h; rfl) rfl rfl dX8_tries_128 (fun S_9 => ?_)
  refine J.aload_n (pc := 131) C (x := a0) dX8_tries_131 rfl rfl ?_
  refine J.dup (pc := 132) C dX8_tries_132 (rv_cat g _) ?_
  refine J.getI (pc := 133) C fl_RX8_168 rfl dX8_tries_133 ?_
  refine J.iconst (pc := 136) C dX8_tries_136 ki_1 ?_
  refine J.iadd (pc := 137) C dX8_tries_137 ?_
  refine J.putIs (pc := 138) C fl_RX8_168 rfl (fun r h => by cases h; rfl) rfl rfl dX8_tries_138 (fun S_10 => ?_)
  refine J.iinc (pc := 141) C (lv' := [(0, rv g a0), (2, .int a2), (3, .int a3), (4, .int (x4 + 10))]) dX8_tries_141 rfl (Nat.le_of_ble_eq_true rfl) ki_10 rfl ?_
  refine J.goto (pc := 144) C (tgt := 41) dX8_tries_144 rfl ?_
  exact (hk41 _ _)
def f_X8_tries_J97 (S : St) (a0 : Nat) (a2 : Int32) (a3 : Int32) (kx41 : St → Option St) (k41 : St → Int32 → Option St) (x4 : Int32) (t0 : Int32) (t1 : Nat) : Option St :=
  (chk (okc S 8 t1) (vlt (upI S t1 8 t0) fun S_6 =>
  (chk (okc S_6 8 a0)
  (if (S_6.1 a0 7) = 0 then
  (f_X8_tries_J117 S_6 a0 a2 a3 kx41 k41 x4 x4 a0)
  else (chk (okc S_6 8 a0)
  (f_X8_tries_J117 S_6 a0 a2 a3 kx41 k41 x4 (S_6.1 a0 9) a0))))))
set_option maxRecDepth 100000 in
set_option maxHeartbeats 4000000 in
theorem w_X8_tries_J97 {X : CT} {g : GG} (C : CX X g cX8_tries RX8 none 5 rm_X8_tries) (S : St) (a0 : Nat) (a2 : Int32) (a3 : Int32) (kx41 : St → Option St) (k41 : St → Int32 → Option St) (x4 : Int32) (t0 : Int32) (t1 : Nat) (hkx41 : ∀ (S : St), J X g (Qm X g aU pU) (cw (0, 0)) 147 [(0, rv g a0), (2, .int a2), (3, .int a3)] [] S (kx41 S)) (hk41 : ∀ (S : St) (x4 : Int32), J X g (Qm X g aU pU) (cw (0, 0)) 41 [(0, rv g a0), (2, .int a2), (3, .int a3), (4, .int x4)] [] S (k41 S x4)) : J X g (Qm X g aU pU) (cw (0, 0)) 97 [(0, rv g a0), (2, .int a2), (3, .int a3), (4, .int x4)] [.int t0, rv g t1] S (f_X8_tries_J97 S a0 a2 a3 kx41 k41 x4 t0 t1) := by
  unfold f_X8_tries_J97
  refine J.putIs (pc := 97) C fl_RX8_175 rfl (fun r h => by cases h; rfl) rfl rfl dX8_tries_97 (fun S_6 => ?_)
  refine J.aload_n (pc := 100) C (x := a0) dX8_tries_100 rfl rfl ?_
  refine J.aload_n (pc := 101) C (x := a0) dX8_tries_101 rfl rfl ?_
  refine J.getI (pc := 102) C fl_RX8_168 rfl dX8_tries_102 ?_
  refine J.if_ne (pc := 105) C (tgt := 113) dX8_tries_105 rfl ?_ ?_
  · refine J.aload_n (pc := 113) C (x := a0) dX8_tries_113 rfl rfl ?_
    refine J.getI (pc := 114) C fl_RX8_178 rfl dX8_tries_114 ?_
    exact (w_X8_tries_J117 C _ _ _ _ _ _ _ _ _ hkx41 hk41)
  · refine J.iload (pc := 108) C dX8_tries_108 rfl ?_
    refine J.goto (pc := 110) C (tgt := 117) dX8_tries_110 rfl ?_
    exact (w_X8_tries_J117 C _ _ _ _ _ _ _ _ _ hkx41 hk41)
def f_X8_tries_B41 (a0 : Nat) (a2 : Int32) (a3 : Int32) (kx41 : St → Option St) (k41 : St → Int32 → Option St) (S : St) (x4 : Int32) : Option St :=
  (if (101 : Int32) ≤ x4 then
  (kx41 S)
  else (chk (okc S 8 a0)
  (chk (inw S 10 (S.2.1 a0 3) (a2 + 2)) (vlt (upI S (S.2.1 a0 3) (a2 + 2).toNatClampNeg a3) fun S_3 =>
  (chk (okc S_3 8 a0)
  (chk (inw S_3 10 (S_3.2.1 a0 3) (a2 + 3)) (vlt (upI S_3 (S_3.2.1 a0 3) (a2 + 3).toNatClampNeg x4) fun S_4 =>
  (chk (okc S_4 8 a0)
  (chk (okc S_4 8 a0) (bnd (f_X8_allFit S_4 a0 (S_4.2.1 a0 3)) fun r5 =>
  (if r5 = 0 then
  (k41 S_4 (x4 + 10))
  else (chk (okc S_4 8 a0)
  (if (S_4.1 a0 7) = 0 then
  (f_X8_tries_J97 S_4 a0 a2 a3 kx41 k41 x4 a3 a0)
  else (chk (okc S_4 8 a0)
  (f_X8_tries_J97 S_4 a0 a2 a3 kx41 k41 x4 (S_4.1 a0 8) a0)))))))))))))))
set_option maxRecDepth 100000 in
set_option maxHeartbeats 4000000 in
theorem w_X8_tries_B41 {X : CT} {g : GG} (C : CX X g cX8_tries RX8 none 5 rm_X8_tries) (a0 : Nat) (a2 : Int32) (a3 : Int32) (kx41 : St → Option St) (hkx41 : ∀ (S : St), J X g (Qm X g aU pU) (cw (0, 0)) 147 [(0, rv g a0), (2, .int a2), (3, .int a3)] [] S (kx41 S)) : ∀ (n : Nat) (S : St) (x4 : Int32), J X g (Qm X g aU pU) (cw (0, 0)) 41 [(0, rv g a0), (2, .int a2), (3, .int a3), (4, .int x4)] [] S (wl2 (f_X8_tries_B41 a0 a2 a3 kx41) n S x4) := by
  refine J.loop2 (lvf := fun (S : St) (x4 : Int32) => [(0, rv g a0), (2, .int a2), (3, .int a3), (4, .int x4)]) (Sf := fun (S : St) (x4 : Int32) => S) ?_
  intro k41 hk41 S x4
  show J X g _ _ 41 [(0, rv g a0), (2, .int a2), (3, .int a3), (4, .int x4)] [] S (f_X8_tries_B41 a0 a2 a3 kx41 k41 S x4)
  unfold f_X8_tries_B41
  refine J.iload (pc := 41) C dX8_tries_41 rfl ?_
  refine J.bipush (pc := 43) C dX8_tries_43 kb_101 ?_
  refine J.icmp_ge (pc := 45) C (tgt := 147) dX8_tries_45 rfl ?_ ?_
  · exact J.pick [0, 1, 2] rfl (hkx41 _)
  · refine J.aload_n (pc := 48) C (x := a0) dX8_tries_48 rfl rfl ?_
    refine J.getR (pc := 49) C fl_RX8_16 rfl dX8_tries_49 ?_
    refine J.iload_n (pc := 52) C dX8_tries_52 rfl rfl ?_
    refine J.iconst (pc := 53) C dX8_tries_53 ki_2 ?_
    refine J.iadd (pc := 54) C dX8_tries_54 ?_
    refine J.iload_n (pc := 55) C dX8_tries_55 rfl rfl ?_
    refine J.iasts (pc := 56) C dX8_tries_56 (fun S_3 => ?_)
    refine J.aload_n (pc := 57) C (x := a0) dX8_tries_57 rfl rfl ?_
    refine J.getR (pc := 58) C fl_RX8_16 rfl dX8_tries_58 ?_
    refine J.iload_n (pc := 61) C dX8_tries_61 rfl rfl ?_
    refine J.iconst (pc := 62) C dX8_tries_62 ki_3 ?_
    refine J.iadd (pc := 63) C dX8_tries_63 ?_
    refine J.iload (pc := 64) C dX8_tries_64 rfl ?_
    refine J.iasts (pc := 66) C dX8_tries_66 (fun S_4 => ?_)
    refine J.aload_n (pc := 67) C (x := a0) dX8_tries_67 rfl rfl ?_
    refine J.aload_n (pc := 68) C (x := a0) dX8_tries_68 rfl rfl ?_
    refine J.getR (pc := 69) C fl_RX8_16 rfl dX8_tries_69 ?_
    refine J.vI (pc := 72) C mv_X8_allFit wm_RX8_171 (fun l => c_X8_allFit l g S_4 a0 (S_4.2.1 a0 3)) ⟨⟨Nat.zero_le _, Nat.zero_le _⟩, rfl, rfl⟩ rfl ⟨Nat.le_of_ble_eq_true rfl, Nat.le_of_ble_eq_true rfl⟩ rfl cat_n (Nat.le_of_ble_eq_true rfl) dX8_tries_72 (fun r5 => ?_)
    refine J.if_ne (pc := 75) C (tgt := 81) dX8_tries_75 rfl ?_ ?_
    · refine J.aload_n (pc := 81) C (x := a0) dX8_tries_81 rfl rfl ?_
      refine J.aload_n (pc := 82) C (x := a0) dX8_tries_82 rfl rfl ?_
      refine J.getI (pc := 83) C fl_RX8_168 rfl dX8_tries_83 ?_
      refine J.if_ne (pc := 86) C (tgt := 93) dX8_tries_86 rfl ?_ ?_
      · refine J.aload_n (pc := 93) C (x := a0) dX8_tries_93 rfl rfl ?_
        refine J.getI (pc := 94) C fl_RX8_175 rfl dX8_tries_94 ?_
        exact (w_X8_tries_J97 C _ _ _ _ _ _ _ _ _ hkx41 hk41)
      · refine J.iload_n (pc := 89) C dX8_tries_89 rfl rfl ?_
        refine J.goto (pc := 90) C (tgt := 97) dX8_tries_90 rfl ?_
        exact (w_X8_tries_J97 C _ _ _ _ _ _ _ _ _ hkx41 hk41)
    · refine J.goto (pc := 78) C (tgt := 141) dX8_tries_78 rfl ?_
      refine J.iinc (pc := 141) C (lv' := [(0, rv g a0), (2, .int a2), (3, .int a3), (4, .int (x4 + 10))]) dX8_tries_141 rfl (Nat.le_of_ble_eq_true rfl) ki_10 rfl ?_
      refine J.goto (pc := 144) C (tgt := 41) dX8_tries_144 rfl ?_
      exact (hk41 _ _)
def f_X8_tries_B30 (a0 : Nat) (a2 : Int32) (kx30 : St → Option St) (k30 : St → Int32 → Option St) (S : St) (x3 : Int32) : Option St :=
  (if (2401 : Int32) ≤ x3 then
  (kx30 S)
  else (wl2 (f_X8_tries_B41 a0 a2 x3 (fun (S_11 : St) => (k30 S_11 (x3 + 100)))) FU S (-100)))
set_option maxRecDepth 100000 in
set_option maxHeartbeats 4000000 in
theorem w_X8_tries_B30 {X : CT} {g : GG} (C : CX X g cX8_tries RX8 none 5 rm_X8_tries) (a0 : Nat) (a2 : Int32) (kx30 : St → Option St) (hkx30 : ∀ (S : St), J X g (Qm X g aU pU) (cw (0, 0)) 153 [] [] S (kx30 S)) : ∀ (n : Nat) (S : St) (x3 : Int32), J X g (Qm X g aU pU) (cw (0, 0)) 30 [(0, rv g a0), (2, .int a2), (3, .int x3)] [] S (wl2 (f_X8_tries_B30 a0 a2 kx30) n S x3) := by
  refine J.loop2 (lvf := fun (S : St) (x3 : Int32) => [(0, rv g a0), (2, .int a2), (3, .int x3)]) (Sf := fun (S : St) (x3 : Int32) => S) ?_
  intro k30 hk30 S x3
  show J X g _ _ 30 [(0, rv g a0), (2, .int a2), (3, .int x3)] [] S (f_X8_tries_B30 a0 a2 kx30 k30 S x3)
  unfold f_X8_tries_B30
  refine J.iload_n (pc := 30) C dX8_tries_30 rfl rfl ?_
  refine J.sipush (pc := 31) C dX8_tries_31 ks_2401 ?_
  refine J.icmp_ge (pc := 34) C (tgt := 153) dX8_tries_34 rfl ?_ ?_
  · exact J.pick [] rfl (hkx30 _)
  · refine J.bipush (pc := 37) C dX8_tries_37 kb_m100 ?_
    refine J.istore (pc := 39) C (lv' := [(0, rv g a0), (2, .int a2), (3, .int x3), (4, .int (-100))]) dX8_tries_39 (Nat.le_of_ble_eq_true rfl) rfl ?_
    refine w_X8_tries_B41 C _ _ _ _ (fun S_11 => ?_) FU _ _
    refine J.iinc (pc := 147) C (lv' := [(0, rv g a0), (2, .int a2), (3, .int (x3 + 100))]) dX8_tries_147 rfl (Nat.le_of_ble_eq_true rfl) ki_100 rfl ?_
    refine J.goto (pc := 150) C (tgt := 30) dX8_tries_150 rfl ?_
    exact (hk30 _ _)
def f_X8_tries (S : St) (a0 : Nat) (a1 : Int32) : Option St :=
  (chk (okc S 8 a0)
  (chk (okc S 8 a0)
  (bnd (f_X8_copies S (S.2.1 a0 0) 0 (S.2.1 a0 3) 0) fun S_1 =>
  (chk (okc S_1 8 a0) (vlt (upI S_1 a0 7 0) fun S_2 =>
  (wl2 (f_X8_tries_B30 a0 (9 + (6 * a1)) (fun (S_12 : St) => (some S_12))) FU S_2 (-1000)))))))
set_option maxRecDepth 100000 in
set_option maxHeartbeats 4000000 in
theorem c_X8_tries (l : Launch) (g : GG) (S : St) (a0 : Nat) (a1 : Int32) : Ct l yX8_tries cX8_tries 5 none rm_X8_tries g aU pU [rv g a0, .int a1] S (f_X8_tries S a0 a1) := by
  refine Ct.mk (cf := cw (0, 0)) (by decide +kernel) (cat_r (cat_i cat_n)) (Nat.le_of_ble_eq_true rfl) rfl ?_
  intro X hXl hin C
  show J X g _ _ 0 [(0, rv g a0), (1, .int a1)] [] S (f_X8_tries S a0 a1)
  unfold f_X8_tries
  refine J.aload_n (pc := 0) C (x := a0) dX8_tries_0 rfl rfl ?_
  refine J.getR (pc := 1) C fl_RX8_7 rfl dX8_tries_1 ?_
  refine J.iconst (pc := 4) C dX8_tries_4 ki_0 ?_
  refine J.aload_n (pc := 5) C (x := a0) dX8_tries_5 rfl rfl ?_
  refine J.getR (pc := 6) C fl_RX8_16 rfl dX8_tries_6 ?_
  refine J.iconst (pc := 9) C dX8_tries_9 ki_0 ?_
  refine J.sU (pc := 10) C ms_X8_copies wm_RX8_32 (fun l => c_X8_copies l g S (S.2.1 a0 0) 0 (S.2.1 a0 3) 0) ⟨⟨Nat.zero_le _, Nat.zero_le _⟩, rfl, rfl⟩ rfl ⟨Nat.le_of_ble_eq_true rfl, Nat.le_of_ble_eq_true rfl⟩ rfl cat_n (Nat.le_of_ble_eq_true rfl) dX8_tries_10 (fun S_1 => ?_)
  refine J.aload_n (pc := 13) C (x := a0) dX8_tries_13 rfl rfl ?_
  refine J.iconst (pc := 14) C dX8_tries_14 ki_0 ?_
  refine J.putIs (pc := 15) C fl_RX8_168 rfl (fun r h => by cases h; rfl) rfl rfl dX8_tries_15 (fun S_2 => ?_)
  refine J.bipush (pc := 18) C dX8_tries_18 kb_9 ?_
  refine J.bipush (pc := 20) C dX8_tries_20 kb_6 ?_
  refine J.iload_n (pc := 22) C dX8_tries_22 rfl rfl ?_
  refine J.imul (pc := 23) C dX8_tries_23 ?_
  refine J.iadd (pc := 24) C dX8_tries_24 ?_
  refine J.istore_n (pc := 25) C (lv' := [(0, rv g a0), (1, .int a1), (2, .int (9 + (6 * a1)))]) dX8_tries_25 rfl (Nat.le_of_ble_eq_true rfl) rfl ?_
  refine J.sipush (pc := 26) C dX8_tries_26 ks_m1000 ?_
  refine J.istore_n (pc := 29) C (lv' := [(0, rv g a0), (1, .int a1), (2, .int (9 + (6 * a1))), (3, .int (-1000))]) dX8_tries_29 rfl (Nat.le_of_ble_eq_true rfl) rfl ?_
  refine J.pick [0, 2, 3] rfl ?_
  refine w_X8_tries_B30 C _ _ _ (fun S_12 => ?_) FU _ _
  exact J.vret (pc := 153) C rfl rfl ⟨Nat.le_refl _, Nat.le_refl _⟩ dX8_tries_153
abbrev rm_X8_motions : Room := { frames := 6, cells := 0, slots := 0, locals := 147 }
def f_X8_motions_J39 (S : St) (x0 : Nat) (x2 : Int32) : Option (Int32 × St) :=
  (if x2 = 0 then
  (chk (okc S 8 x0)
  (some (S.1 x0 7, S)))
  else (if x2 = 1 then
  (chk (okc S 8 x0)
  (some (S.1 x0 8, S)))
  else (if x2 = 2 then
  (chk (okc S 8 x0)
  (some (S.1 x0 9, S)))
  else (if x2 = 3 then
  (chk (okc S 8 x0)
  (some (S.1 x0 10, S)))
  else (chk (okc S 8 x0)
  (some (S.1 x0 11, S)))))))
set_option maxRecDepth 100000 in
set_option maxHeartbeats 4000000 in
theorem w_X8_motions_J39 {X : CT} {g : GG} (C : CX X g cX8_motions RX8 (some .int) 3 rm_X8_motions) (S : St) (x0 : Nat) (x2 : Int32) : J X g (Qm X g aW pW) (cw (0, 0)) 39 [(0, rv g x0), (2, .int x2)] [] S (f_X8_motions_J39 S x0 x2) := by
  unfold f_X8_motions_J39
  refine J.iload_n (pc := 39) C dX8_motions_39 rfl rfl ?_
  refine J.ite (fun h0 => ?_) (fun h0 => ?_)
  · refine J.tswIn (pc := 40) C (tgt := 72) 0 dX8_motions_40 h0 (by decide) (by decide) rfl rfl ?_
    refine J.aload_n (pc := 72) C (x := x0) dX8_motions_72 rfl rfl ?_
    refine J.getI (pc := 73) C fl_RX8_168 rfl dX8_motions_73 ?_
    exact J.iret (pc := 76) C rfl rfl ⟨Nat.le_refl _, Nat.le_refl _⟩ dX8_motions_76
  · refine J.ite (fun h1 => ?_) (fun h1 => ?_)
    · refine J.tswIn (pc := 40) C (tgt := 77) 1 dX8_motions_40 h1 (by decide) (by decide) rfl rfl ?_
      refine J.aload_n (pc := 77) C (x := x0) dX8_motions_77 rfl rfl ?_
      refine J.getI (pc := 78) C fl_RX8_175 rfl dX8_motions_78 ?_
      exact J.iret (pc := 81) C rfl rfl ⟨Nat.le_refl _, Nat.le_refl _⟩ dX8_motions_81
    · refine J.ite (fun h2 => ?_) (fun h2 => ?_)
      · refine J.tswIn (pc := 40) C (tgt := 82) 2 dX8_motions_40 h2 (by decide) (by decide) rfl rfl ?_
        refine J.aload_n (pc := 82) C (x := x0) dX8_motions_82 rfl rfl ?_
        refine J.getI (pc := 83) C fl_RX8_178 rfl dX8_motions_83 ?_
        exact J.iret (pc := 86) C rfl rfl ⟨Nat.le_refl _, Nat.le_refl _⟩ dX8_motions_86
      · refine J.ite (fun h3 => ?_) (fun h3 => ?_)
        · refine J.tswIn (pc := 40) C (tgt := 87) 3 dX8_motions_40 h3 (by decide) (by decide) rfl rfl ?_
          refine J.aload_n (pc := 87) C (x := x0) dX8_motions_87 rfl rfl ?_
          refine J.getI (pc := 88) C fl_RX8_181 rfl dX8_motions_88 ?_
          exact J.iret (pc := 91) C rfl rfl ⟨Nat.le_refl _, Nat.le_refl _⟩ dX8_motions_91
        · refine J.tswOut (pc := 40) C (tgt := 92) dX8_motions_40 (by have e0 := lv_neT h0 (a := 0) rfl; have e1 := lv_neT h1 (a := 1) rfl; have e2 := lv_neT h2 (a := 2) rfl; have e3 := lv_neT h3 (a := 3) rfl; omega) rfl ?_
          refine J.aload_n (pc := 92) C (x := x0) dX8_motions_92 rfl rfl ?_
          refine J.getI (pc := 93) C fl_RX8_184 rfl dX8_motions_93 ?_
          exact J.iret (pc := 96) C rfl rfl ⟨Nat.le_refl _, Nat.le_refl _⟩ dX8_motions_96
def f_X8_motions (S : St) (a0 : Nat) (a1 : Int32) (a2 : Int32) : Option (Int32 × St) :=
  (chk (okc S 8 a0) (bnd (f_X8_isThing S a0 a1) fun r1 =>
  (if r1 = 0 then
  (some ((-10000001), S))
  else (bnd (f_X8_in a2 0 4) fun r2 =>
  (if r2 = 0 then
  (some ((-10000001), S))
  else (chk (okc S 8 a0) (bnd (f_X8_tries S a0 a1) fun S_3 =>
  (if a2 ≤ 0 then
  (f_X8_motions_J39 S_3 a0 a2)
  else (chk (okc S_3 8 a0)
  (if (S_3.1 a0 7) = 0 then
  (some ((-10000004), S_3))
  else (f_X8_motions_J39 S_3 a0 a2)))))))))))
set_option maxRecDepth 100000 in
set_option maxHeartbeats 4000000 in
theorem c_X8_motions (l : Launch) (g : GG) (S : St) (a0 : Nat) (a1 : Int32) (a2 : Int32) : Ct l yX8_motions cX8_motions 3 (some .int) rm_X8_motions g aW pW [rv g a0, .int a1, .int a2] S (f_X8_motions S a0 a1 a2) := by
  refine Ct.mk (cf := cw (0, 0)) (by decide +kernel) (cat_r (cat_i (cat_i cat_n))) (Nat.le_of_ble_eq_true rfl) rfl ?_
  intro X hXl hin C
  show J X g _ _ 0 [(0, rv g a0), (1, .int a1), (2, .int a2)] [] S (f_X8_motions S a0 a1 a2)
  unfold f_X8_motions
  refine J.aload_n (pc := 0) C (x := a0) dX8_motions_0 rfl rfl ?_
  refine J.iload_n (pc := 1) C dX8_motions_1 rfl rfl ?_
  refine J.vI (pc := 2) C mv_X8_isThing wm_RX8_59 (fun l => c_X8_isThing l g S a0 a1) ⟨⟨Nat.zero_le _, Nat.zero_le _⟩, rfl, rfl⟩ rfl ⟨Nat.le_of_ble_eq_true rfl, Nat.le_of_ble_eq_true rfl⟩ rfl cat_n (Nat.le_of_ble_eq_true rfl) dX8_motions_2 (fun r1 => ?_)
  refine J.if_eq (pc := 5) C (tgt := 17) dX8_motions_5 rfl ?_ ?_
  · refine J.ldc (pc := 17) C wc_RX8_44 dX8_motions_17 ?_
    exact J.iret (pc := 19) C rfl rfl ⟨Nat.le_refl _, Nat.le_refl _⟩ dX8_motions_19
  · refine J.iload_n (pc := 8) C dX8_motions_8 rfl rfl ?_
    refine J.iconst (pc := 9) C dX8_motions_9 ki_0 ?_
    refine J.iconst (pc := 10) C dX8_motions_10 ki_4 ?_
    refine J.sI (pc := 11) C ms_X8_in wm_RX8_36 (fun l => c_X8_in l g S a2 0 4) ⟨⟨Nat.zero_le _, Nat.zero_le _⟩, rfl, rfl⟩ rfl ⟨Nat.le_of_ble_eq_true rfl, Nat.le_of_ble_eq_true rfl⟩ rfl cat_n (Nat.le_of_ble_eq_true rfl) dX8_motions_11 (fun r2 => ?_)
    refine J.if_ne (pc := 14) C (tgt := 20) dX8_motions_14 rfl ?_ ?_
    · refine J.aload_n (pc := 20) C (x := a0) dX8_motions_20 rfl rfl ?_
      refine J.iload_n (pc := 21) C dX8_motions_21 rfl rfl ?_
      refine J.vU (pc := 22) C mv_X8_tries wm_RX8_187 (fun l => c_X8_tries l g S a0 a1) ⟨⟨Nat.zero_le _, Nat.zero_le _⟩, rfl, rfl⟩ rfl ⟨Nat.le_of_ble_eq_true rfl, Nat.le_of_ble_eq_true rfl⟩ rfl cat_n (Nat.le_of_ble_eq_true rfl) dX8_motions_22 (fun S_3 => ?_)
      refine J.iload_n (pc := 25) C dX8_motions_25 rfl rfl ?_
      refine J.if_le (pc := 26) C (tgt := 39) dX8_motions_26 rfl ?_ ?_
      · exact J.pick [0, 2] rfl (w_X8_motions_J39 C _ _ _)
      · refine J.aload_n (pc := 29) C (x := a0) dX8_motions_29 rfl rfl ?_
        refine J.getI (pc := 30) C fl_RX8_168 rfl dX8_motions_30 ?_
        refine J.if_ne (pc := 33) C (tgt := 39) dX8_motions_33 rfl ?_ ?_
        · exact J.pick [0, 2] rfl (w_X8_motions_J39 C _ _ _)
        · refine J.ldc (pc := 36) C wc_RX8_120 dX8_motions_36 ?_
          exact J.iret (pc := 38) C rfl rfl ⟨Nat.le_refl _, Nat.le_refl _⟩ dX8_motions_38
    · refine J.ldc (pc := 17) C wc_RX8_44 dX8_motions_17 ?_
      exact J.iret (pc := 19) C rfl rfl ⟨Nat.le_refl _, Nat.le_refl _⟩ dX8_motions_19
abbrev rm_X8_pass : Room := { frames := 2, cells := 0, slots := 0, locals := 45 }
def f_X8_pass (S : St) (a0 : Nat) (a1 : Int32) : Option (Int32 × St) :=
  (bnd (f_X8_in a1 1 200) fun r1 =>
  (if r1 = 0 then
  (some ((-10000001), S))
  else (chk (okc S 8 a0)
  (chk (ina S 10 (S.2.1 a0 0) 33)
  (if ((S.1 (S.2.1 a0 0) (33 : Int32).toNatClampNeg) + a1) ≤ 20000 then
  (chk (okc S 8 a0) (bnd (f_X8_notes S a0) fun S_2 =>
  (chk (okc S_2 8 a0)
  (chk (ina S_2 10 (S_2.2.1 a0 0) 33)
  (chk (inw S_2 10 (S_2.2.1 a0 0) 33) (vlt (upI S_2 (S_2.2.1 a0 0) (33 : Int32).toNatClampNeg ((S_2.1 (S_2.2.1 a0 0) (33 : Int32).toNatClampNeg) + a1)) fun S_3 =>
  (chk (okc S_3 8 a0)
  (chk (ina S_3 10 (S_3.2.1 a0 0) 33)
  (some (S_3.1 (S_3.2.1 a0 0) (33 : Int32).toNatClampNeg, S_3))))))))))
  else (some ((-10000003), S)))))))
set_option maxRecDepth 100000 in
set_option maxHeartbeats 4000000 in
theorem c_X8_pass (l : Launch) (g : GG) (S : St) (a0 : Nat) (a1 : Int32) : Ct l yX8_pass cX8_pass 2 (some .int) rm_X8_pass g aW pW [rv g a0, .int a1] S (f_X8_pass S a0 a1) := by
  refine Ct.mk (cf := cw (0, 0)) (by decide +kernel) (cat_r (cat_i cat_n)) (Nat.le_of_ble_eq_true rfl) rfl ?_
  intro X hXl hin C
  show J X g _ _ 0 [(0, rv g a0), (1, .int a1)] [] S (f_X8_pass S a0 a1)
  unfold f_X8_pass
  refine J.iload_n (pc := 0) C dX8_pass_0 rfl rfl ?_
  refine J.iconst (pc := 1) C dX8_pass_1 ki_1 ?_
  refine J.sipush (pc := 2) C dX8_pass_2 ks_200 ?_
  refine J.sI (pc := 5) C ms_X8_in wm_RX8_36 (fun l => c_X8_in l g S a1 1 200) ⟨⟨Nat.zero_le _, Nat.zero_le _⟩, rfl, rfl⟩ rfl ⟨Nat.le_of_ble_eq_true rfl, Nat.le_of_ble_eq_true rfl⟩ rfl cat_n (Nat.le_of_ble_eq_true rfl) dX8_pass_5 (fun r1 => ?_)
  refine J.if_ne (pc := 8) C (tgt := 14) dX8_pass_8 rfl ?_ ?_
  · refine J.aload_n (pc := 14) C (x := a0) dX8_pass_14 rfl rfl ?_
    refine J.getR (pc := 15) C fl_RX8_7 rfl dX8_pass_15 ?_
    refine J.bipush (pc := 18) C dX8_pass_18 kb_33 ?_
    refine J.iald (pc := 20) C dX8_pass_20 ?_
    refine J.iload_n (pc := 21) C dX8_pass_21 rfl rfl ?_
    refine J.iadd (pc := 22) C dX8_pass_22 ?_
    refine J.sipush (pc := 23) C dX8_pass_23 ks_20000 ?_
    refine J.icmp_le (pc := 26) C (tgt := 32) dX8_pass_26 rfl ?_ ?_
    · refine J.aload_n (pc := 32) C (x := a0) dX8_pass_32 rfl rfl ?_
      refine J.vU (pc := 33) C mv_X8_notes wm_RX8_46 (fun l => c_X8_notes l g S a0) ⟨⟨Nat.zero_le _, Nat.zero_le _⟩, rfl, rfl⟩ rfl ⟨Nat.le_of_ble_eq_true rfl, Nat.le_of_ble_eq_true rfl⟩ rfl cat_n (Nat.le_of_ble_eq_true rfl) dX8_pass_33 (fun S_2 => ?_)
      refine J.aload_n (pc := 36) C (x := a0) dX8_pass_36 rfl rfl ?_
      refine J.getR (pc := 37) C fl_RX8_7 rfl dX8_pass_37 ?_
      refine J.bipush (pc := 40) C dX8_pass_40 kb_33 ?_
      refine J.dup2 (pc := 42) C dX8_pass_42 rfl (rv_cat g _) ?_
      refine J.iald (pc := 43) C dX8_pass_43 ?_
      refine J.iload_n (pc := 44) C dX8_pass_44 rfl rfl ?_
      refine J.iadd (pc := 45) C dX8_pass_45 ?_
      refine J.iasts (pc := 46) C dX8_pass_46 (fun S_3 => ?_)
      refine J.aload_n (pc := 47) C (x := a0) dX8_pass_47 rfl rfl ?_
      refine J.getR (pc := 48) C fl_RX8_7 rfl dX8_pass_48 ?_
      refine J.bipush (pc := 51) C dX8_pass_51 kb_33 ?_
      refine J.iald (pc := 53) C dX8_pass_53 ?_
      exact J.iret (pc := 54) C rfl rfl ⟨Nat.le_refl _, Nat.le_refl _⟩ dX8_pass_54
    · refine J.ldc (pc := 29) C wc_RX8_54 dX8_pass_29 ?_
      exact J.iret (pc := 31) C rfl rfl ⟨Nat.le_refl _, Nat.le_refl _⟩ dX8_pass_31
  · refine J.ldc (pc := 11) C wc_RX8_44 dX8_pass_11 ?_
    exact J.iret (pc := 13) C rfl rfl ⟨Nat.le_refl _, Nat.le_refl _⟩ dX8_pass_13
abbrev rm_X8_periods : Room := { frames := 5, cells := 0, slots := 0, locals := 123 }
def f_X8_periods_B17 (a0 : Nat) (kx17 : St → Int32 → Option (Int32 × St)) (k17 : St → Int32 → Int32 → Option (Int32 × St)) (S : St) (x1 : Int32) (x2 : Int32) : Option (Int32 × St) :=
  (if (21 : Int32) ≤ x2 then
  (kx17 S x1)
  else (chk (okc S 8 a0)
  (chk (inw S 10 (S.2.1 a0 3) 5) (vlt (upI S (S.2.1 a0 3) (5 : Int32).toNatClampNeg x2) fun S_2 =>
  (chk (okc S_2 8 a0)
  (chk (okc S_2 8 a0) (bnd (f_X8_allFit S_2 a0 (S_2.2.1 a0 3)) fun r3 =>
  (if r3 = 0 then
  (k17 S_2 (x1 ||| 0) (x2 + 1))
  else (k17 S_2 (x1 ||| (1 <<< (x2 &&& 31))) (x2 + 1))))))))))
set_option maxRecDepth 100000 in
set_option maxHeartbeats 4000000 in
theorem w_X8_periods_B17 {X : CT} {g : GG} (C : CX X g cX8_periods RX8 (some .int) 3 rm_X8_periods) (a0 : Nat) (kx17 : St → Int32 → Option (Int32 × St)) (hkx17 : ∀ (S : St) (x1 : Int32), J X g (Qm X g aW pW) (cw (0, 0)) 57 [(1, .int x1)] [] S (kx17 S x1)) : ∀ (n : Nat) (S : St) (x1 : Int32) (x2 : Int32), J X g (Qm X g aW pW) (cw (0, 0)) 17 [(0, rv g a0), (1, .int x1), (2, .int x2)] [] S (wl3 (f_X8_periods_B17 a0 kx17) n S x1 x2) := by
  refine J.loop3 (lvf := fun (S : St) (x1 : Int32) (x2 : Int32) => [(0, rv g a0), (1, .int x1), (2, .int x2)]) (Sf := fun (S : St) (x1 : Int32) (x2 : Int32) => S) ?_
  intro k17 hk17 S x1 x2
  show J X g _ _ 17 [(0, rv g a0), (1, .int x1), (2, .int x2)] [] S (f_X8_periods_B17 a0 kx17 k17 S x1 x2)
  unfold f_X8_periods_B17
  refine J.iload_n (pc := 17) C dX8_periods_17 rfl rfl ?_
  refine J.bipush (pc := 18) C dX8_periods_18 kb_21 ?_
  refine J.icmp_ge (pc := 20) C (tgt := 57) dX8_periods_20 rfl ?_ ?_
  · exact J.pick [1] rfl (hkx17 _ _)
  · refine J.aload_n (pc := 23) C (x := a0) dX8_periods_23 rfl rfl ?_
    refine J.getR (pc := 24) C fl_RX8_16 rfl dX8_periods_24 ?_
    refine J.iconst (pc := 27) C dX8_periods_27 ki_5 ?_
    refine J.iload_n (pc := 28) C dX8_periods_28 rfl rfl ?_
    refine J.iasts (pc := 29) C dX8_periods_29 (fun S_2 => ?_)
    refine J.iload_n (pc := 30) C dX8_periods_30 rfl rfl ?_
    refine J.aload_n (pc := 31) C (x := a0) dX8_periods_31 rfl rfl ?_
    refine J.aload_n (pc := 32) C (x := a0) dX8_periods_32 rfl rfl ?_
    refine J.getR (pc := 33) C fl_RX8_16 rfl dX8_periods_33 ?_
    refine J.vI (pc := 36) C mv_X8_allFit wm_RX8_171 (fun l => c_X8_allFit l g S_2 a0 (S_2.2.1 a0 3)) ⟨⟨Nat.zero_le _, Nat.zero_le _⟩, rfl, rfl⟩ rfl ⟨Nat.le_of_ble_eq_true rfl, Nat.le_of_ble_eq_true rfl⟩ rfl (cat_i cat_n) (Nat.le_of_ble_eq_true rfl) dX8_periods_36 (fun r3 => ?_)
    refine J.if_eq (pc := 39) C (tgt := 48) dX8_periods_39 rfl ?_ ?_
    · refine J.iconst (pc := 48) C dX8_periods_48 ki_0 ?_
      refine J.ior (pc := 49) C dX8_periods_49 ?_
      refine J.istore_n (pc := 50) C (lv' := [(0, rv g a0), (1, .int (x1 ||| 0)), (2, .int x2)]) dX8_periods_50 rfl (Nat.le_of_ble_eq_true rfl) rfl ?_
      refine J.iinc (pc := 51) C (lv' := [(0, rv g a0), (1, .int (x1 ||| 0)), (2, .int (x2 + 1))]) dX8_periods_51 rfl (Nat.le_of_ble_eq_true rfl) ki_1 rfl ?_
      refine J.goto (pc := 54) C (tgt := 17) dX8_periods_54 rfl ?_
      exact (hk17 _ _ _)
    · refine J.iconst (pc := 42) C dX8_periods_42 ki_1 ?_
      refine J.iload_n (pc := 43) C dX8_periods_43 rfl rfl ?_
      refine J.ishl (pc := 44) C dX8_periods_44 ?_
      refine J.goto (pc := 45) C (tgt := 49) dX8_periods_45 rfl ?_
      refine J.ior (pc := 49) C dX8_periods_49 ?_
      refine J.istore_n (pc := 50) C (lv' := [(0, rv g a0), (1, .int (x1 ||| (1 <<< (x2 &&& 31)))), (2, .int x2)]) dX8_periods_50 rfl (Nat.le_of_ble_eq_true rfl) rfl ?_
      refine J.iinc (pc := 51) C (lv' := [(0, rv g a0), (1, .int (x1 ||| (1 <<< (x2 &&& 31)))), (2, .int (x2 + 1))]) dX8_periods_51 rfl (Nat.le_of_ble_eq_true rfl) ki_1 rfl ?_
      refine J.goto (pc := 54) C (tgt := 17) dX8_periods_54 rfl ?_
      exact (hk17 _ _ _)
def f_X8_periods (S : St) (a0 : Nat) : Option (Int32 × St) :=
  (chk (okc S 8 a0)
  (chk (okc S 8 a0)
  (bnd (f_X8_copies S (S.2.1 a0 0) 0 (S.2.1 a0 3) 0) fun S_1 =>
  (wl3 (f_X8_periods_B17 a0 (fun (S_5 : St) (y1_4 : Int32) => (some (y1_4, S_5)))) FU S_1 0 0))))
set_option maxRecDepth 100000 in
set_option maxHeartbeats 4000000 in
theorem c_X8_periods (l : Launch) (g : GG) (S : St) (a0 : Nat) : Ct l yX8_periods cX8_periods 3 (some .int) rm_X8_periods g aW pW [rv g a0] S (f_X8_periods S a0) := by
  refine Ct.mk (cf := cw (0, 0)) (by decide +kernel) (cat_r cat_n) (Nat.le_of_ble_eq_true rfl) rfl ?_
  intro X hXl hin C
  show J X g _ _ 0 [(0, rv g a0)] [] S (f_X8_periods S a0)
  unfold f_X8_periods
  refine J.aload_n (pc := 0) C (x := a0) dX8_periods_0 rfl rfl ?_
  refine J.getR (pc := 1) C fl_RX8_7 rfl dX8_periods_1 ?_
  refine J.iconst (pc := 4) C dX8_periods_4 ki_0 ?_
  refine J.aload_n (pc := 5) C (x := a0) dX8_periods_5 rfl rfl ?_
  refine J.getR (pc := 6) C fl_RX8_16 rfl dX8_periods_6 ?_
  refine J.iconst (pc := 9) C dX8_periods_9 ki_0 ?_
  refine J.sU (pc := 10) C ms_X8_copies wm_RX8_32 (fun l => c_X8_copies l g S (S.2.1 a0 0) 0 (S.2.1 a0 3) 0) ⟨⟨Nat.zero_le _, Nat.zero_le _⟩, rfl, rfl⟩ rfl ⟨Nat.le_of_ble_eq_true rfl, Nat.le_of_ble_eq_true rfl⟩ rfl cat_n (Nat.le_of_ble_eq_true rfl) dX8_periods_10 (fun S_1 => ?_)
  refine J.iconst (pc := 13) C dX8_periods_13 ki_0 ?_
  refine J.istore_n (pc := 14) C (lv' := [(0, rv g a0), (1, .int 0)]) dX8_periods_14 rfl (Nat.le_of_ble_eq_true rfl) rfl ?_
  refine J.iconst (pc := 15) C dX8_periods_15 ki_0 ?_
  refine J.istore_n (pc := 16) C (lv' := [(0, rv g a0), (1, .int 0), (2, .int 0)]) dX8_periods_16 rfl (Nat.le_of_ble_eq_true rfl) rfl ?_
  refine w_X8_periods_B17 C _ _ (fun S_5 y1_4 => ?_) FU _ _ _
  refine J.iload_n (pc := 57) C dX8_periods_57 rfl rfl ?_
  exact J.iret (pc := 58) C rfl rfl ⟨Nat.le_refl _, Nat.le_refl _⟩ dX8_periods_58
abbrev rm_X8_isColumn : Room := { frames := 1, cells := 0, slots := 0, locals := 22 }
def f_X8_isColumn (S : St) (a0 : Nat) (a1 : Int32) : Option Int32 :=
  (chk (okc S 8 a0)
  (chk (ina S 10 (S.2.1 a0 0) 1)
  (bnd (f_X8_in a1 0 ((S.1 (S.2.1 a0 0) (1 : Int32).toNatClampNeg) - 1)) fun r1 =>
  (chk (r1 = 0 ∨ r1 = 1) (some r1)))))
set_option maxRecDepth 100000 in
set_option maxHeartbeats 4000000 in
theorem c_X8_isColumn (l : Launch) (g : GG) (S : St) (a0 : Nat) (a1 : Int32) : Ct l yX8_isColumn cX8_isColumn 2 (some .boolean) rm_X8_isColumn g aI (pK S) [rv g a0, .int a1] S (f_X8_isColumn S a0 a1) := by
  refine Ct.mk (cf := cw (0, 0)) (by decide +kernel) (cat_r (cat_i cat_n)) (Nat.le_of_ble_eq_true rfl) rfl ?_
  intro X hXl hin C
  show J X g _ _ 0 [(0, rv g a0), (1, .int a1)] [] S (f_X8_isColumn S a0 a1)
  unfold f_X8_isColumn
  refine J.iload_n (pc := 0) C dX8_isColumn_0 rfl rfl ?_
  refine J.iconst (pc := 1) C dX8_isColumn_1 ki_0 ?_
  refine J.aload_n (pc := 2) C (x := a0) dX8_isColumn_2 rfl rfl ?_
  refine J.getR (pc := 3) C fl_RX8_7 rfl dX8_isColumn_3 ?_
  refine J.iconst (pc := 6) C dX8_isColumn_6 ki_1 ?_
  refine J.iald (pc := 7) C dX8_isColumn_7 ?_
  refine J.iconst (pc := 8) C dX8_isColumn_8 ki_1 ?_
  refine J.isub (pc := 9) C dX8_isColumn_9 ?_
  refine J.sI (pc := 10) C ms_X8_in wm_RX8_36 (fun l => c_X8_in l g S a1 0 ((S.1 (S.2.1 a0 0) (1 : Int32).toNatClampNeg) - 1)) ⟨⟨Nat.zero_le _, Nat.zero_le _⟩, rfl, rfl⟩ rfl ⟨Nat.le_of_ble_eq_true rfl, Nat.le_of_ble_eq_true rfl⟩ rfl cat_n (Nat.le_of_ble_eq_true rfl) dX8_isColumn_10 (fun r1 => ?_)
  refine J.ck (fun hz => ?_)
  exact J.zret (pc := 13) C (nar_z hz) rfl rfl ⟨Nat.le_refl _, Nat.le_refl _⟩ dX8_isColumn_13
abbrev rm_X8_pixel : Room := { frames := 2, cells := 0, slots := 0, locals := 45 }
def f_X8_pixel (S : St) (a0 : Nat) (a1 : Int32) (a2 : Int32) (a3 : Int32) : Option Int32 :=
  (chk (okc S 8 a0) (bnd (f_X8_isFrame S a0 a1) fun r1 =>
  (if r1 = 0 then
  (some (-10000001))
  else (chk (okc S 8 a0) (bnd (f_X8_isRow S a0 a2) fun r2 =>
  (if r2 = 0 then
  (some (-10000001))
  else (chk (okc S 8 a0) (bnd (f_X8_isColumn S a0 a3) fun r3 =>
  (if r3 = 0 then
  (some (-10000001))
  else (chk (okc S 8 a0) (bnd (f_X8_isSeen S a0 a1 a2) fun r4 =>
  (if r4 = 0 then
  (some (-10000004))
  else (chk (okc S 8 a0) (bnd (f_X8_pixelOf S a0 a1 a2 a3) fun r5 =>
  (some r5)))))))))))))))
set_option maxRecDepth 100000 in
set_option maxHeartbeats 4000000 in
theorem c_X8_pixel (l : Launch) (g : GG) (S : St) (a0 : Nat) (a1 : Int32) (a2 : Int32) (a3 : Int32) : Ct l yX8_pixel cX8_pixel 4 (some .int) rm_X8_pixel g aI (pK S) [rv g a0, .int a1, .int a2, .int a3] S (f_X8_pixel S a0 a1 a2 a3) := by
  refine Ct.mk (cf := cw (0, 0)) (by decide +kernel) (cat_r (cat_i (cat_i (cat_i cat_n)))) (Nat.le_of_ble_eq_true rfl) rfl ?_
  intro X hXl hin C
  show J X g _ _ 0 [(0, rv g a0), (1, .int a1), (2, .int a2), (3, .int a3)] [] S (f_X8_pixel S a0 a1 a2 a3)
  unfold f_X8_pixel
  refine J.aload_n (pc := 0) C (x := a0) dX8_pixel_0 rfl rfl ?_
  refine J.iload_n (pc := 1) C dX8_pixel_1 rfl rfl ?_
  refine J.vI (pc := 2) C mv_X8_isFrame wm_RX8_97 (fun l => c_X8_isFrame l g S a0 a1) ⟨⟨Nat.zero_le _, Nat.zero_le _⟩, rfl, rfl⟩ rfl ⟨Nat.le_of_ble_eq_true rfl, Nat.le_of_ble_eq_true rfl⟩ rfl cat_n (Nat.le_of_ble_eq_true rfl) dX8_pixel_2 (fun r1 => ?_)
  refine J.if_eq (pc := 5) C (tgt := 24) dX8_pixel_5 rfl ?_ ?_
  · refine J.ldc (pc := 24) C wc_RX8_44 dX8_pixel_24 ?_
    exact J.iret (pc := 26) C rfl rfl ⟨Nat.le_refl _, Nat.le_refl _⟩ dX8_pixel_26
  · refine J.aload_n (pc := 8) C (x := a0) dX8_pixel_8 rfl rfl ?_
    refine J.iload_n (pc := 9) C dX8_pixel_9 rfl rfl ?_
    refine J.vI (pc := 10) C mv_X8_isRow wm_RX8_79 (fun l => c_X8_isRow l g S a0 a2) ⟨⟨Nat.zero_le _, Nat.zero_le _⟩, rfl, rfl⟩ rfl ⟨Nat.le_of_ble_eq_true rfl, Nat.le_of_ble_eq_true rfl⟩ rfl cat_n (Nat.le_of_ble_eq_true rfl) dX8_pixel_10 (fun r2 => ?_)
    refine J.if_eq (pc := 13) C (tgt := 24) dX8_pixel_13 rfl ?_ ?_
    · refine J.ldc (pc := 24) C wc_RX8_44 dX8_pixel_24 ?_
      exact J.iret (pc := 26) C rfl rfl ⟨Nat.le_refl _, Nat.le_refl _⟩ dX8_pixel_26
    · refine J.aload_n (pc := 16) C (x := a0) dX8_pixel_16 rfl rfl ?_
      refine J.iload_n (pc := 17) C dX8_pixel_17 rfl rfl ?_
      refine J.vI (pc := 18) C mv_X8_isColumn wm_RX8_82 (fun l => c_X8_isColumn l g S a0 a3) ⟨⟨Nat.zero_le _, Nat.zero_le _⟩, rfl, rfl⟩ rfl ⟨Nat.le_of_ble_eq_true rfl, Nat.le_of_ble_eq_true rfl⟩ rfl cat_n (Nat.le_of_ble_eq_true rfl) dX8_pixel_18 (fun r3 => ?_)
      refine J.if_ne (pc := 21) C (tgt := 27) dX8_pixel_21 rfl ?_ ?_
      · refine J.aload_n (pc := 27) C (x := a0) dX8_pixel_27 rfl rfl ?_
        refine J.iload_n (pc := 28) C dX8_pixel_28 rfl rfl ?_
        refine J.iload_n (pc := 29) C dX8_pixel_29 rfl rfl ?_
        refine J.vI (pc := 30) C mv_X8_isSeen wm_RX8_107 (fun l => c_X8_isSeen l g S a0 a1 a2) ⟨⟨Nat.zero_le _, Nat.zero_le _⟩, rfl, rfl⟩ rfl ⟨Nat.le_of_ble_eq_true rfl, Nat.le_of_ble_eq_true rfl⟩ rfl cat_n (Nat.le_of_ble_eq_true rfl) dX8_pixel_30 (fun r4 => ?_)
        refine J.if_eq (pc := 33) C (tgt := 46) dX8_pixel_33 rfl ?_ ?_
        · refine J.ldc (pc := 46) C wc_RX8_120 dX8_pixel_46 ?_
          exact J.iret (pc := 48) C rfl rfl ⟨Nat.le_refl _, Nat.le_refl _⟩ dX8_pixel_48
        · refine J.aload_n (pc := 36) C (x := a0) dX8_pixel_36 rfl rfl ?_
          refine J.iload_n (pc := 37) C dX8_pixel_37 rfl rfl ?_
          refine J.iload_n (pc := 38) C dX8_pixel_38 rfl rfl ?_
          refine J.iload_n (pc := 39) C dX8_pixel_39 rfl rfl ?_
          refine J.vI (pc := 40) C mv_X8_pixelOf wm_RX8_110 (fun l => c_X8_pixelOf l g S a0 a1 a2 a3) ⟨⟨Nat.zero_le _, Nat.zero_le _⟩, rfl, rfl⟩ rfl ⟨Nat.le_of_ble_eq_true rfl, Nat.le_of_ble_eq_true rfl⟩ rfl cat_n (Nat.le_of_ble_eq_true rfl) dX8_pixel_40 (fun r5 => ?_)
          refine J.goto (pc := 43) C (tgt := 48) dX8_pixel_43 rfl ?_
          exact J.iret (pc := 48) C rfl rfl ⟨Nat.le_refl _, Nat.le_refl _⟩ dX8_pixel_48
      · refine J.ldc (pc := 24) C wc_RX8_44 dX8_pixel_24 ?_
        exact J.iret (pc := 26) C rfl rfl ⟨Nat.le_refl _, Nat.le_refl _⟩ dX8_pixel_26
abbrev rm_X8_play : Room := { frames := 6, cells := 0, slots := 0, locals := 144 }
def f_X8_play (S : St) (a0 : Nat) : Option (Int32 × St) :=
  (chk (okc S 8 a0) (bnd2 (f_X8_done S a0) fun r1 S_2 =>
  (chk (okc S_2 8 a0)
  (if (S_2.1 a0 16) = 0 then
  (chk (okc S_2 8 a0) (bnd (f_X8_notes S_2 a0) fun S_3 =>
  (chk (okc S_3 8 a0)
  (chk (okc S_3 8 a0)
  (bnd (f_X8_copies S_3 (S_3.2.1 a0 3) 0 (S_3.2.1 a0 0) 0) fun S_4 =>
  (some (r1, S_4)))))))
  else (some ((-10000002), S_2))))))
set_option maxRecDepth 100000 in
set_option maxHeartbeats 4000000 in
theorem c_X8_play (l : Launch) (g : GG) (S : St) (a0 : Nat) : Ct l yX8_play cX8_play 2 (some .int) rm_X8_play g aW pW [rv g a0] S (f_X8_play S a0) := by
  refine Ct.mk (cf := cw (0, 0)) (by decide +kernel) (cat_r cat_n) (Nat.le_of_ble_eq_true rfl) rfl ?_
  intro X hXl hin C
  show J X g _ _ 0 [(0, rv g a0)] [] S (f_X8_play S a0)
  unfold f_X8_play
  refine J.aload_n (pc := 0) C (x := a0) dX8_play_0 rfl rfl ?_
  refine J.vW (pc := 1) C mv_X8_done wm_RX8_234 (fun l => c_X8_done l g S a0) ⟨⟨Nat.zero_le _, Nat.zero_le _⟩, rfl, rfl⟩ rfl ⟨Nat.le_of_ble_eq_true rfl, Nat.le_of_ble_eq_true rfl⟩ rfl cat_n (Nat.le_of_ble_eq_true rfl) dX8_play_1 (fun r1 S_2 => ?_)
  refine J.istore_n (pc := 4) C (lv' := [(0, rv g a0), (1, .int r1)]) dX8_play_4 rfl (Nat.le_of_ble_eq_true rfl) rfl ?_
  refine J.aload_n (pc := 5) C (x := a0) dX8_play_5 rfl rfl ?_
  refine J.getI (pc := 6) C fl_RX8_212 rfl dX8_play_6 ?_
  refine J.if_eq (pc := 9) C (tgt := 15) dX8_play_9 rfl ?_ ?_
  · refine J.aload_n (pc := 15) C (x := a0) dX8_play_15 rfl rfl ?_
    refine J.vU (pc := 16) C mv_X8_notes wm_RX8_46 (fun l => c_X8_notes l g S_2 a0) ⟨⟨Nat.zero_le _, Nat.zero_le _⟩, rfl, rfl⟩ rfl ⟨Nat.le_of_ble_eq_true rfl, Nat.le_of_ble_eq_true rfl⟩ rfl cat_n (Nat.le_of_ble_eq_true rfl) dX8_play_16 (fun S_3 => ?_)
    refine J.aload_n (pc := 19) C (x := a0) dX8_play_19 rfl rfl ?_
    refine J.getR (pc := 20) C fl_RX8_16 rfl dX8_play_20 ?_
    refine J.iconst (pc := 23) C dX8_play_23 ki_0 ?_
    refine J.aload_n (pc := 24) C (x := a0) dX8_play_24 rfl rfl ?_
    refine J.getR (pc := 25) C fl_RX8_7 rfl dX8_play_25 ?_
    refine J.iconst (pc := 28) C dX8_play_28 ki_0 ?_
    refine J.sU (pc := 29) C ms_X8_copies wm_RX8_32 (fun l => c_X8_copies l g S_3 (S_3.2.1 a0 3) 0 (S_3.2.1 a0 0) 0) ⟨⟨Nat.zero_le _, Nat.zero_le _⟩, rfl, rfl⟩ rfl ⟨Nat.le_of_ble_eq_true rfl, Nat.le_of_ble_eq_true rfl⟩ rfl cat_n (Nat.le_of_ble_eq_true rfl) dX8_play_29 (fun S_4 => ?_)
    refine J.iload_n (pc := 32) C dX8_play_32 rfl rfl ?_
    exact J.iret (pc := 33) C rfl rfl ⟨Nat.le_refl _, Nat.le_refl _⟩ dX8_play_33
  · refine J.ldc (pc := 12) C wc_RX8_45 dX8_play_12 ?_
    exact J.iret (pc := 14) C rfl rfl ⟨Nat.le_refl _, Nat.le_refl _⟩ dX8_play_14
abbrev rm_X8_rowOf : Room := { frames := 1, cells := 0, slots := 0, locals := 22 }
def f_X8_rowOf (S : St) (a0 : Nat) (a1 : Int32) (a2 : Int32) : Option Int32 :=
  (bnd (f_X8_in a1 0 9) fun r1 =>
  (if r1 = 0 then
  (some (-10000001))
  else (if a2 = 0 then
  (chk (okc S 8 a0)
  (chk (ina S 10 (S.2.1 a0 0) 34)
  (some (((S.1 (S.2.1 a0 0) (34 : Int32).toNatClampNeg) >>> (a1 &&& 31)) &&& 1))))
  else (if a2 = 1 then
  (chk (okc S 8 a0)
  (chk (ina S 10 (S.2.1 a0 0) (847 + a1))
  (some (S.1 (S.2.1 a0 0) (847 + a1).toNatClampNeg))))
  else (if a2 = 2 then
  (chk (okc S 8 a0)
  (chk (ina S 10 (S.2.1 a0 0) (857 + a1))
  (some (S.1 (S.2.1 a0 0) (857 + a1).toNatClampNeg))))
  else (if a2 = 3 then
  (chk (okc S 8 a0) (bnd (f_X8_weightOf S a0 a1) fun r2 =>
  (some r2)))
  else (some (-10000001))))))))
set_option maxRecDepth 100000 in
set_option maxHeartbeats 4000000 in
theorem c_X8_rowOf (l : Launch) (g : GG) (S : St) (a0 : Nat) (a1 : Int32) (a2 : Int32) : Ct l yX8_rowOf cX8_rowOf 3 (some .int) rm_X8_rowOf g aI (pK S) [rv g a0, .int a1, .int a2] S (f_X8_rowOf S a0 a1 a2) := by
  refine Ct.mk (cf := cw (0, 0)) (by decide +kernel) (cat_r (cat_i (cat_i cat_n))) (Nat.le_of_ble_eq_true rfl) rfl ?_
  intro X hXl hin C
  show J X g _ _ 0 [(0, rv g a0), (1, .int a1), (2, .int a2)] [] S (f_X8_rowOf S a0 a1 a2)
  unfold f_X8_rowOf
  refine J.iload_n (pc := 0) C dX8_rowOf_0 rfl rfl ?_
  refine J.iconst (pc := 1) C dX8_rowOf_1 ki_0 ?_
  refine J.bipush (pc := 2) C dX8_rowOf_2 kb_9 ?_
  refine J.sI (pc := 4) C ms_X8_in wm_RX8_36 (fun l => c_X8_in l g S a1 0 9) ⟨⟨Nat.zero_le _, Nat.zero_le _⟩, rfl, rfl⟩ rfl ⟨Nat.le_of_ble_eq_true rfl, Nat.le_of_ble_eq_true rfl⟩ rfl cat_n (Nat.le_of_ble_eq_true rfl) dX8_rowOf_4 (fun r1 => ?_)
  refine J.if_ne (pc := 7) C (tgt := 13) dX8_rowOf_7 rfl ?_ ?_
  · refine J.iload_n (pc := 13) C dX8_rowOf_13 rfl rfl ?_
    refine J.ite (fun h0 => ?_) (fun h0 => ?_)
    · refine J.tswIn (pc := 14) C (tgt := 44) 0 dX8_rowOf_14 h0 (by decide) (by decide) rfl rfl ?_
      refine J.aload_n (pc := 44) C (x := a0) dX8_rowOf_44 rfl rfl ?_
      refine J.getR (pc := 45) C fl_RX8_7 rfl dX8_rowOf_45 ?_
      refine J.bipush (pc := 48) C dX8_rowOf_48 kb_34 ?_
      refine J.iald (pc := 50) C dX8_rowOf_50 ?_
      refine J.iload_n (pc := 51) C dX8_rowOf_51 rfl rfl ?_
      refine J.ishr (pc := 52) C dX8_rowOf_52 ?_
      refine J.iconst (pc := 53) C dX8_rowOf_53 ki_1 ?_
      refine J.iand (pc := 54) C dX8_rowOf_54 ?_
      exact J.iret (pc := 55) C rfl rfl ⟨Nat.le_refl _, Nat.le_refl _⟩ dX8_rowOf_55
    · refine J.ite (fun h1 => ?_) (fun h1 => ?_)
      · refine J.tswIn (pc := 14) C (tgt := 56) 1 dX8_rowOf_14 h1 (by decide) (by decide) rfl rfl ?_
        refine J.aload_n (pc := 56) C (x := a0) dX8_rowOf_56 rfl rfl ?_
        refine J.getR (pc := 57) C fl_RX8_7 rfl dX8_rowOf_57 ?_
        refine J.sipush (pc := 60) C dX8_rowOf_60 ks_847 ?_
        refine J.iload_n (pc := 63) C dX8_rowOf_63 rfl rfl ?_
        refine J.iadd (pc := 64) C dX8_rowOf_64 ?_
        refine J.iald (pc := 65) C dX8_rowOf_65 ?_
        exact J.iret (pc := 66) C rfl rfl ⟨Nat.le_refl _, Nat.le_refl _⟩ dX8_rowOf_66
      · refine J.ite (fun h2 => ?_) (fun h2 => ?_)
        · refine J.tswIn (pc := 14) C (tgt := 67) 2 dX8_rowOf_14 h2 (by decide) (by decide) rfl rfl ?_
          refine J.aload_n (pc := 67) C (x := a0) dX8_rowOf_67 rfl rfl ?_
          refine J.getR (pc := 68) C fl_RX8_7 rfl dX8_rowOf_68 ?_
          refine J.sipush (pc := 71) C dX8_rowOf_71 ks_857 ?_
          refine J.iload_n (pc := 74) C dX8_rowOf_74 rfl rfl ?_
          refine J.iadd (pc := 75) C dX8_rowOf_75 ?_
          refine J.iald (pc := 76) C dX8_rowOf_76 ?_
          exact J.iret (pc := 77) C rfl rfl ⟨Nat.le_refl _, Nat.le_refl _⟩ dX8_rowOf_77
        · refine J.ite (fun h3 => ?_) (fun h3 => ?_)
          · refine J.tswIn (pc := 14) C (tgt := 78) 3 dX8_rowOf_14 h3 (by decide) (by decide) rfl rfl ?_
            refine J.aload_n (pc := 78) C (x := a0) dX8_rowOf_78 rfl rfl ?_
            refine J.iload_n (pc := 79) C dX8_rowOf_79 rfl rfl ?_
            refine J.vI (pc := 80) C mv_X8_weightOf wm_RX8_139 (fun l => c_X8_weightOf l g S a0 a1) ⟨⟨Nat.zero_le _, Nat.zero_le _⟩, rfl, rfl⟩ rfl ⟨Nat.le_of_ble_eq_true rfl, Nat.le_of_ble_eq_true rfl⟩ rfl cat_n (Nat.le_of_ble_eq_true rfl) dX8_rowOf_80 (fun r2 => ?_)
            exact J.iret (pc := 83) C rfl rfl ⟨Nat.le_refl _, Nat.le_refl _⟩ dX8_rowOf_83
          · refine J.tswOut (pc := 14) C (tgt := 84) dX8_rowOf_14 (by have e0 := lv_neT h0 (a := 0) rfl; have e1 := lv_neT h1 (a := 1) rfl; have e2 := lv_neT h2 (a := 2) rfl; have e3 := lv_neT h3 (a := 3) rfl; omega) rfl ?_
            refine J.ldc (pc := 84) C wc_RX8_44 dX8_rowOf_84 ?_
            exact J.iret (pc := 86) C rfl rfl ⟨Nat.le_refl _, Nat.le_refl _⟩ dX8_rowOf_86
  · refine J.ldc (pc := 10) C wc_RX8_44 dX8_rowOf_10 ?_
    exact J.iret (pc := 12) C rfl rfl ⟨Nat.le_refl _, Nat.le_refl _⟩ dX8_rowOf_12
abbrev rm_X8_isSetting : Room := { frames := 1, cells := 0, slots := 0, locals := 22 }
def f_X8_isSetting (a0 : Int32) (a1 : Int32) : Option Int32 :=
  (if a0 = 0 then
  (bnd (f_X8_in a1 1 10) fun r1 =>
  (chk (r1 = 0 ∨ r1 = 1) (some r1)))
  else (if a0 = 1 then
  (bnd (f_X8_in a1 4 16) fun r2 =>
  (chk (r2 = 0 ∨ r2 = 1) (some r2)))
  else (if a0 = 2 then
  (bnd (f_X8_in a1 0 9) fun r3 =>
  (chk (r3 = 0 ∨ r3 = 1) (some r3)))
  else (if a0 = 3 then
  (bnd (f_X8_in a1 1 255) fun r4 =>
  (chk (r4 = 0 ∨ r4 = 1) (some r4)))
  else (if a0 = 4 then
  (bnd (f_X8_in a1 0 255) fun r5 =>
  (chk (r5 = 0 ∨ r5 = 1) (some r5)))
  else (if a0 = 5 then
  (bnd (f_X8_in a1 0 20) fun r6 =>
  (chk (r6 = 0 ∨ r6 = 1) (some r6)))
  else (if a0 = 6 then
  (bnd (f_X8_in a1 0 20) fun r7 =>
  (chk (r7 = 0 ∨ r7 = 1) (some r7)))
  else (if a0 = 7 then
  (bnd (f_X8_in a1 0 100) fun r8 =>
  (chk (r8 = 0 ∨ r8 = 1) (some r8)))
  else (some 0)))))))))
set_option maxRecDepth 100000 in
set_option maxHeartbeats 4000000 in
theorem c_X8_isSetting (l : Launch) (g : GG) (S : St) (a0 : Int32) (a1 : Int32) : Ct l yX8_isSetting cX8_isSetting 2 (some .boolean) rm_X8_isSetting g aI (pK S) [.int a0, .int a1] S (f_X8_isSetting a0 a1) := by
  refine Ct.mk (cf := cw (0, 0)) (by decide +kernel) (cat_i (cat_i cat_n)) (Nat.le_of_ble_eq_true rfl) rfl ?_
  intro X hXl hin C
  show J X g _ _ 0 [(0, .int a0), (1, .int a1)] [] S (f_X8_isSetting a0 a1)
  unfold f_X8_isSetting
  refine J.iload_n (pc := 0) C dX8_isSetting_0 rfl rfl ?_
  refine J.ite (fun h0 => ?_) (fun h0 => ?_)
  · refine J.tswIn (pc := 1) C (tgt := 48) 0 dX8_isSetting_1 h0 (by decide) (by decide) rfl rfl ?_
    refine J.iload_n (pc := 48) C dX8_isSetting_48 rfl rfl ?_
    refine J.iconst (pc := 49) C dX8_isSetting_49 ki_1 ?_
    refine J.bipush (pc := 50) C dX8_isSetting_50 kb_10 ?_
    refine J.sI (pc := 52) C ms_X8_in wm_RX8_36 (fun l => c_X8_in l g S a1 1 10) ⟨⟨Nat.zero_le _, Nat.zero_le _⟩, rfl, rfl⟩ rfl ⟨Nat.le_of_ble_eq_true rfl, Nat.le_of_ble_eq_true rfl⟩ rfl cat_n (Nat.le_of_ble_eq_true rfl) dX8_isSetting_52 (fun r1 => ?_)
    refine J.ck (fun hz => ?_)
    exact J.zret (pc := 55) C (nar_z hz) rfl rfl ⟨Nat.le_refl _, Nat.le_refl _⟩ dX8_isSetting_55
  · refine J.ite (fun h1 => ?_) (fun h1 => ?_)
    · refine J.tswIn (pc := 1) C (tgt := 56) 1 dX8_isSetting_1 h1 (by decide) (by decide) rfl rfl ?_
      refine J.iload_n (pc := 56) C dX8_isSetting_56 rfl rfl ?_
      refine J.iconst (pc := 57) C dX8_isSetting_57 ki_4 ?_
      refine J.bipush (pc := 58) C dX8_isSetting_58 kb_16 ?_
      refine J.sI (pc := 60) C ms_X8_in wm_RX8_36 (fun l => c_X8_in l g S a1 4 16) ⟨⟨Nat.zero_le _, Nat.zero_le _⟩, rfl, rfl⟩ rfl ⟨Nat.le_of_ble_eq_true rfl, Nat.le_of_ble_eq_true rfl⟩ rfl cat_n (Nat.le_of_ble_eq_true rfl) dX8_isSetting_60 (fun r2 => ?_)
      refine J.ck (fun hz => ?_)
      exact J.zret (pc := 63) C (nar_z hz) rfl rfl ⟨Nat.le_refl _, Nat.le_refl _⟩ dX8_isSetting_63
    · refine J.ite (fun h2 => ?_) (fun h2 => ?_)
      · refine J.tswIn (pc := 1) C (tgt := 64) 2 dX8_isSetting_1 h2 (by decide) (by decide) rfl rfl ?_
        refine J.iload_n (pc := 64) C dX8_isSetting_64 rfl rfl ?_
        refine J.iconst (pc := 65) C dX8_isSetting_65 ki_0 ?_
        refine J.bipush (pc := 66) C dX8_isSetting_66 kb_9 ?_
        refine J.sI (pc := 68) C ms_X8_in wm_RX8_36 (fun l => c_X8_in l g S a1 0 9) ⟨⟨Nat.zero_le _, Nat.zero_le _⟩, rfl, rfl⟩ rfl ⟨Nat.le_of_ble_eq_true rfl, Nat.le_of_ble_eq_true rfl⟩ rfl cat_n (Nat.le_of_ble_eq_true rfl) dX8_isSetting_68 (fun r3 => ?_)
        refine J.ck (fun hz => ?_)
        exact J.zret (pc := 71) C (nar_z hz) rfl rfl ⟨Nat.le_refl _, Nat.le_refl _⟩ dX8_isSetting_71
      · refine J.ite (fun h3 => ?_) (fun h3 => ?_)
        · refine J.tswIn (pc := 1) C (tgt := 72) 3 dX8_isSetting_1 h3 (by decide) (by decide) rfl rfl ?_
          refine J.iload_n (pc := 72) C dX8_isSetting_72 rfl rfl ?_
          refine J.iconst (pc := 73) C dX8_isSetting_73 ki_1 ?_
          refine J.sipush (pc := 74) C dX8_isSetting_74 ks_255 ?_
          refine J.sI (pc := 77) C ms_X8_in wm_RX8_36 (fun l => c_X8_in l g S a1 1 255) ⟨⟨Nat.zero_le _, Nat.zero_le _⟩, rfl, rfl⟩ rfl ⟨Nat.le_of_ble_eq_true rfl, Nat.le_of_ble_eq_true rfl⟩ rfl cat_n (Nat.le_of_ble_eq_true rfl) dX8_isSetting_77 (fun r4 => ?_)
          refine J.ck (fun hz => ?_)
          exact J.zret (pc := 80) C (nar_z hz) rfl rfl ⟨Nat.le_refl _, Nat.le_refl _⟩ dX8_isSetting_80
        · refine J.ite (fun h4 => ?_) (fun h4 => ?_)
          · refine J.tswIn (pc := 1) C (tgt := 81) 4 dX8_isSetting_1 h4 (by decide) (by decide) rfl rfl ?_
            refine J.iload_n (pc := 81) C dX8_isSetting_81 rfl rfl ?_
            refine J.iconst (pc := 82) C dX8_isSetting_82 ki_0 ?_
            refine J.sipush (pc := 83) C dX8_isSetting_83 ks_255 ?_
            refine J.sI (pc := 86) C ms_X8_in wm_RX8_36 (fun l => c_X8_in l g S a1 0 255) ⟨⟨Nat.zero_le _, Nat.zero_le _⟩, rfl, rfl⟩ rfl ⟨Nat.le_of_ble_eq_true rfl, Nat.le_of_ble_eq_true rfl⟩ rfl cat_n (Nat.le_of_ble_eq_true rfl) dX8_isSetting_86 (fun r5 => ?_)
            refine J.ck (fun hz => ?_)
            exact J.zret (pc := 89) C (nar_z hz) rfl rfl ⟨Nat.le_refl _, Nat.le_refl _⟩ dX8_isSetting_89
          · refine J.ite (fun h5 => ?_) (fun h5 => ?_)
            · refine J.tswIn (pc := 1) C (tgt := 90) 5 dX8_isSetting_1 h5 (by decide) (by decide) rfl rfl ?_
              refine J.iload_n (pc := 90) C dX8_isSetting_90 rfl rfl ?_
              refine J.iconst (pc := 91) C dX8_isSetting_91 ki_0 ?_
              refine J.bipush (pc := 92) C dX8_isSetting_92 kb_20 ?_
              refine J.sI (pc := 94) C ms_X8_in wm_RX8_36 (fun l => c_X8_in l g S a1 0 20) ⟨⟨Nat.zero_le _, Nat.zero_le _⟩, rfl, rfl⟩ rfl ⟨Nat.le_of_ble_eq_true rfl, Nat.le_of_ble_eq_true rfl⟩ rfl cat_n (Nat.le_of_ble_eq_true rfl) dX8_isSetting_94 (fun r6 => ?_)
              refine J.ck (fun hz => ?_)
              exact J.zret (pc := 97) C (nar_z hz) rfl rfl ⟨Nat.le_refl _, Nat.le_refl _⟩ dX8_isSetting_97
            · refine J.ite (fun h6 => ?_) (fun h6 => ?_)
              · refine J.tswIn (pc := 1) C (tgt := 98) 6 dX8_isSetting_1 h6 (by decide) (by decide) rfl rfl ?_
                refine J.iload_n (pc := 98) C dX8_isSetting_98 rfl rfl ?_
                refine J.iconst (pc := 99) C dX8_isSetting_99 ki_0 ?_
                refine J.bipush (pc := 100) C dX8_isSetting_100 kb_20 ?_
                refine J.sI (pc := 102) C ms_X8_in wm_RX8_36 (fun l => c_X8_in l g S a1 0 20) ⟨⟨Nat.zero_le _, Nat.zero_le _⟩, rfl, rfl⟩ rfl ⟨Nat.le_of_ble_eq_true rfl, Nat.le_of_ble_eq_true rfl⟩ rfl cat_n (Nat.le_of_ble_eq_true rfl) dX8_isSetting_102 (fun r7 => ?_)
                refine J.ck (fun hz => ?_)
                exact J.zret (pc := 105) C (nar_z hz) rfl rfl ⟨Nat.le_refl _, Nat.le_refl _⟩ dX8_isSetting_105
              · refine J.ite (fun h7 => ?_) (fun h7 => ?_)
                · refine J.tswIn (pc := 1) C (tgt := 106) 7 dX8_isSetting_1 h7 (by decide) (by decide) rfl rfl ?_
                  refine J.iload_n (pc := 106) C dX8_isSetting_106 rfl rfl ?_
                  refine J.iconst (pc := 107) C dX8_isSetting_107 ki_0 ?_
                  refine J.bipush (pc := 108) C dX8_isSetting_108 kb_100 ?_
                  refine J.sI (pc := 110) C ms_X8_in wm_RX8_36 (fun l => c_X8_in l g S a1 0 100) ⟨⟨Nat.zero_le _, Nat.zero_le _⟩, rfl, rfl⟩ rfl ⟨Nat.le_of_ble_eq_true rfl, Nat.le_of_ble_eq_true rfl⟩ rfl cat_n (Nat.le_of_ble_eq_true rfl) dX8_isSetting_110 (fun r8 => ?_)
                  refine J.ck (fun hz => ?_)
                  exact J.zret (pc := 113) C (nar_z hz) rfl rfl ⟨Nat.le_refl _, Nat.le_refl _⟩ dX8_isSetting_113
                · refine J.tswOut (pc := 1) C (tgt := 114) dX8_isSetting_1 (by have e0 := lv_neT h0 (a := 0) rfl; have e1 := lv_neT h1 (a := 1) rfl; have e2 := lv_neT h2 (a := 2) rfl; have e3 := lv_neT h3 (a := 3) rfl; have e4 := lv_neT h4 (a := 4) rfl; have e5 := lv_neT h5 (a := 5) rfl; have e6 := lv_neT h6 (a := 6) rfl; have e7 := lv_neT h7 (a := 7) rfl; omega) rfl ?_
                  refine J.iconst (pc := 114) C dX8_isSetting_114 ki_0 ?_
                  exact J.zret (pc := 115) C rfl rfl rfl ⟨Nat.le_refl _, Nat.le_refl _⟩ dX8_isSetting_115
abbrev rm_X8_set : Room := { frames := 2, cells := 0, slots := 0, locals := 45 }
def f_X8_set_J29 (S : St) (x0 : Nat) (x1 : Int32) (x2 : Int32) : Option (Int32 × St) :=
  (chk (okc S 8 x0) (bnd (f_X8_notes S x0) fun S_2 =>
  (chk (okc S_2 8 x0)
  (chk (ina S_2 10 (S_2.2.1 x0 0) x1)
  (chk (okc S_2 8 x0)
  (chk (inw S_2 10 (S_2.2.1 x0 0) x1) (vlt (upI S_2 (S_2.2.1 x0 0) x1.toNatClampNeg x2) fun S_3 =>
  (some (S_2.1 (S_2.2.1 x0 0) x1.toNatClampNeg, S_3)))))))))
set_option maxRecDepth 100000 in
set_option maxHeartbeats 4000000 in
theorem w_X8_set_J29 {X : CT} {g : GG} (C : CX X g cX8_set RX8 (some .int) 4 rm_X8_set) (S : St) (x0 : Nat) (x1 : Int32) (x2 : Int32) : J X g (Qm X g aW pW) (cw (0, 0)) 29 [(0, rv g x0), (1, .int x1), (2, .int x2)] [] S (f_X8_set_J29 S x0 x1 x2) := by
  unfold f_X8_set_J29
  refine J.aload_n (pc := 29) C (x := x0) dX8_set_29 rfl rfl ?_
  refine J.vU (pc := 30) C mv_X8_notes wm_RX8_46 (fun l => c_X8_notes l g S x0) ⟨⟨Nat.zero_le _, Nat.zero_le _⟩, rfl, rfl⟩ rfl ⟨Nat.le_of_ble_eq_true rfl, Nat.le_of_ble_eq_true rfl⟩ rfl cat_n (Nat.le_of_ble_eq_true rfl) dX8_set_30 (fun S_2 => ?_)
  refine J.aload_n (pc := 33) C (x := x0) dX8_set_33 rfl rfl ?_
  refine J.getR (pc := 34) C fl_RX8_7 rfl dX8_set_34 ?_
  refine J.iload_n (pc := 37) C dX8_set_37 rfl rfl ?_
  refine J.iald (pc := 38) C dX8_set_38 ?_
  refine J.istore_n (pc := 39) C (lv' := [(0, rv g x0), (1, .int x1), (2, .int x2), (3, .int (S_2.1 (S_2.2.1 x0 0) x1.toNatClampNeg))]) dX8_set_39 rfl (Nat.le_of_ble_eq_true rfl) rfl ?_
  refine J.aload_n (pc := 40) C (x := x0) dX8_set_40 rfl rfl ?_
  refine J.getR (pc := 41) C fl_RX8_7 rfl dX8_set_41 ?_
  refine J.iload_n (pc := 44) C dX8_set_44 rfl rfl ?_
  refine J.iload_n (pc := 45) C dX8_set_45 rfl rfl ?_
  refine J.iasts (pc := 46) C dX8_set_46 (fun S_3 => ?_)
  refine J.iload_n (pc := 47) C dX8_set_47 rfl rfl ?_
  exact J.iret (pc := 48) C rfl rfl ⟨Nat.le_refl _, Nat.le_refl _⟩ dX8_set_48
def f_X8_set (S : St) (a0 : Nat) (a1 : Int32) (a2 : Int32) : Option (Int32 × St) :=
  (bnd (f_X8_isSetting a1 a2) fun r1 =>
  (if r1 = 0 then
  (some ((-10000001), S))
  else (if (2 : Int32) < a1 then
  (f_X8_set_J29 S a0 a1 a2)
  else (chk (okc S 8 a0)
  (chk (ina S 10 (S.2.1 a0 0) 36)
  (if (S.1 (S.2.1 a0 0) (36 : Int32).toNatClampNeg) ≤ 0 then
  (f_X8_set_J29 S a0 a1 a2)
  else (some ((-10000002), S))))))))
set_option maxRecDepth 100000 in
set_option maxHeartbeats 4000000 in
theorem c_X8_set (l : Launch) (g : GG) (S : St) (a0 : Nat) (a1 : Int32) (a2 : Int32) : Ct l yX8_set cX8_set 4 (some .int) rm_X8_set g aW pW [rv g a0, .int a1, .int a2] S (f_X8_set S a0 a1 a2) := by
  refine Ct.mk (cf := cw (0, 0)) (by decide +kernel) (cat_r (cat_i (cat_i cat_n))) (Nat.le_of_ble_eq_true rfl) rfl ?_
  intro X hXl hin C
  show J X g _ _ 0 [(0, rv g a0), (1, .int a1), (2, .int a2)] [] S (f_X8_set S a0 a1 a2)
  unfold f_X8_set
  refine J.iload_n (pc := 0) C dX8_set_0 rfl rfl ?_
  refine J.iload_n (pc := 1) C dX8_set_1 rfl rfl ?_
  refine J.sI (pc := 2) C ms_X8_isSetting wm_RX8_40 (fun l => c_X8_isSetting l g S a1 a2) ⟨⟨Nat.zero_le _, Nat.zero_le _⟩, rfl, rfl⟩ rfl ⟨Nat.le_of_ble_eq_true rfl, Nat.le_of_ble_eq_true rfl⟩ rfl cat_n (Nat.le_of_ble_eq_true rfl) dX8_set_2 (fun r1 => ?_)
  refine J.if_ne (pc := 5) C (tgt := 11) dX8_set_5 rfl ?_ ?_
  · refine J.iload_n (pc := 11) C dX8_set_11 rfl rfl ?_
    refine J.iconst (pc := 12) C dX8_set_12 ki_2 ?_
    refine J.icmp_gt (pc := 13) C (tgt := 29) dX8_set_13 rfl ?_ ?_
    · exact (w_X8_set_J29 C _ _ _ _)
    · refine J.aload_n (pc := 16) C (x := a0) dX8_set_16 rfl rfl ?_
      refine J.getR (pc := 17) C fl_RX8_7 rfl dX8_set_17 ?_
      refine J.bipush (pc := 20) C dX8_set_20 kb_36 ?_
      refine J.iald (pc := 22) C dX8_set_22 ?_
      refine J.if_le (pc := 23) C (tgt := 29) dX8_set_23 rfl ?_ ?_
      · exact (w_X8_set_J29 C _ _ _ _)
      · refine J.ldc (pc := 26) C wc_RX8_45 dX8_set_26 ?_
        exact J.iret (pc := 28) C rfl rfl ⟨Nat.le_refl _, Nat.le_refl _⟩ dX8_set_28
  · refine J.ldc (pc := 8) C wc_RX8_44 dX8_set_8 ?_
    exact J.iret (pc := 10) C rfl rfl ⟨Nat.le_refl _, Nat.le_refl _⟩ dX8_set_10
abbrev rm_X8_shift : Room := { frames := 6, cells := 0, slots := 0, locals := 140 }
def f_X8_shift (S : St) (a0 : Nat) (a1 : Int32) (a2 : Int32) : Option (Int32 × St) :=
  (chk (okc S 8 a0) (bnd (f_X8_areFrames S a0 a1 a2) fun r1 =>
  (if r1 = 0 then
  (some ((-10000001), S))
  else (chk (okc S 8 a0) (bnd2 (f_X8_toldBy S a0 a1 a2 0) fun r2 S_3 =>
  (if r2 = (-1000000) then
  (some ((-10000004), S_3))
  else (some (r2, S_3))))))))
set_option maxRecDepth 100000 in
set_option maxHeartbeats 4000000 in
theorem c_X8_shift (l : Launch) (g : GG) (S : St) (a0 : Nat) (a1 : Int32) (a2 : Int32) : Ct l yX8_shift cX8_shift 4 (some .int) rm_X8_shift g aW pW [rv g a0, .int a1, .int a2] S (f_X8_shift S a0 a1 a2) := by
  refine Ct.mk (cf := cw (0, 0)) (by decide +kernel) (cat_r (cat_i (cat_i cat_n))) (Nat.le_of_ble_eq_true rfl) rfl ?_
  intro X hXl hin C
  show J X g _ _ 0 [(0, rv g a0), (1, .int a1), (2, .int a2)] [] S (f_X8_shift S a0 a1 a2)
  unfold f_X8_shift
  refine J.aload_n (pc := 0) C (x := a0) dX8_shift_0 rfl rfl ?_
  refine J.iload_n (pc := 1) C dX8_shift_1 rfl rfl ?_
  refine J.iload_n (pc := 2) C dX8_shift_2 rfl rfl ?_
  refine J.vI (pc := 3) C mv_X8_areFrames wm_RX8_130 (fun l => c_X8_areFrames l g S a0 a1 a2) ⟨⟨Nat.zero_le _, Nat.zero_le _⟩, rfl, rfl⟩ rfl ⟨Nat.le_of_ble_eq_true rfl, Nat.le_of_ble_eq_true rfl⟩ rfl cat_n (Nat.le_of_ble_eq_true rfl) dX8_shift_3 (fun r1 => ?_)
  refine J.if_ne (pc := 6) C (tgt := 12) dX8_shift_6 rfl ?_ ?_
  · refine J.aload_n (pc := 12) C (x := a0) dX8_shift_12 rfl rfl ?_
    refine J.iload_n (pc := 13) C dX8_shift_13 rfl rfl ?_
    refine J.iload_n (pc := 14) C dX8_shift_14 rfl rfl ?_
    refine J.iconst (pc := 15) C dX8_shift_15 ki_0 ?_
    refine J.vW (pc := 16) C mv_X8_toldBy wm_RX8_150 (fun l => c_X8_toldBy l g S a0 a1 a2 0) ⟨⟨Nat.zero_le _, Nat.zero_le _⟩, rfl, rfl⟩ rfl ⟨Nat.le_of_ble_eq_true rfl, Nat.le_of_ble_eq_true rfl⟩ rfl cat_n (Nat.le_of_ble_eq_true rfl) dX8_shift_16 (fun r2 S_3 => ?_)
    refine J.istore_n (pc := 19) C (lv' := [(0, rv g a0), (1, .int a1), (2, .int a2), (3, .int r2)]) dX8_shift_19 rfl (Nat.le_of_ble_eq_true rfl) rfl ?_
    refine J.iload_n (pc := 20) C dX8_shift_20 rfl rfl ?_
    refine J.ldc (pc := 21) C wc_RX8_49 dX8_shift_21 ?_
    refine J.icmp_ne (pc := 23) C (tgt := 31) dX8_shift_23 rfl ?_ ?_
    · refine J.iload_n (pc := 31) C dX8_shift_31 rfl rfl ?_
      exact J.iret (pc := 32) C rfl rfl ⟨Nat.le_refl _, Nat.le_refl _⟩ dX8_shift_32
    · refine J.ldc (pc := 26) C wc_RX8_120 dX8_shift_26 ?_
      refine J.goto (pc := 28) C (tgt := 32) dX8_shift_28 rfl ?_
      exact J.iret (pc := 32) C rfl rfl ⟨Nat.le_refl _, Nat.le_refl _⟩ dX8_shift_32
  · refine J.ldc (pc := 9) C wc_RX8_44 dX8_shift_9 ?_
    exact J.iret (pc := 11) C rfl rfl ⟨Nat.le_refl _, Nat.le_refl _⟩ dX8_shift_11
abbrev rm_X8_shoot : Room := { frames := 4, cells := 0, slots := 0, locals := 98 }
def f_X8_shoot (S : St) (a0 : Nat) : Option (Int32 × St) :=
  (chk (okc S 8 a0) (bnd (f_X8_notes S a0) fun S_1 =>
  (chk (okc S_1 8 a0)
  (bnd (f_X8_takes S_1 (S_1.2.1 a0 0)) fun S_2 =>
  (chk (okc S_2 8 a0)
  (chk (ina S_2 10 (S_2.2.1 a0 0) 36)
  (some (S_2.1 (S_2.2.1 a0 0) (36 : Int32).toNatClampNeg, S_2))))))))
set_option maxRecDepth 100000 in
set_option maxHeartbeats 4000000 in
theorem c_X8_shoot (l : Launch) (g : GG) (S : St) (a0 : Nat) : Ct l yX8_shoot cX8_shoot 1 (some .int) rm_X8_shoot g aW pW [rv g a0] S (f_X8_shoot S a0) := by
  refine Ct.mk (cf := cw (0, 0)) (by decide +kernel) (cat_r cat_n) (Nat.le_of_ble_eq_true rfl) rfl ?_
  intro X hXl hin C
  show J X g _ _ 0 [(0, rv g a0)] [] S (f_X8_shoot S a0)
  unfold f_X8_shoot
  refine J.aload_n (pc := 0) C (x := a0) dX8_shoot_0 rfl rfl ?_
  refine J.vU (pc := 1) C mv_X8_notes wm_RX8_46 (fun l => c_X8_notes l g S a0) ⟨⟨Nat.zero_le _, Nat.zero_le _⟩, rfl, rfl⟩ rfl ⟨Nat.le_of_ble_eq_true rfl, Nat.le_of_ble_eq_true rfl⟩ rfl cat_n (Nat.le_of_ble_eq_true rfl) dX8_shoot_1 (fun S_1 => ?_)
  refine J.aload_n (pc := 4) C (x := a0) dX8_shoot_4 rfl rfl ?_
  refine J.getR (pc := 5) C fl_RX8_7 rfl dX8_shoot_5 ?_
  refine J.sU (pc := 8) C ms_X8_takes wm_RX8_93 (fun l => c_X8_takes l g S_1 (S_1.2.1 a0 0)) ⟨⟨Nat.zero_le _, Nat.zero_le _⟩, rfl, rfl⟩ rfl ⟨Nat.le_of_ble_eq_true rfl, Nat.le_of_ble_eq_true rfl⟩ rfl cat_n (Nat.le_of_ble_eq_true rfl) dX8_shoot_8 (fun S_2 => ?_)
  refine J.aload_n (pc := 11) C (x := a0) dX8_shoot_11 rfl rfl ?_
  refine J.getR (pc := 12) C fl_RX8_7 rfl dX8_shoot_12 ?_
  refine J.bipush (pc := 15) C dX8_shoot_15 kb_36 ?_
  refine J.iald (pc := 17) C dX8_shoot_17 ?_
  exact J.iret (pc := 18) C rfl rfl ⟨Nat.le_refl _, Nat.le_refl _⟩ dX8_shoot_18
abbrev rm_X8_shows : Room := { frames := 3, cells := 0, slots := 0, locals := 75 }
def f_X8_shows (S : St) (a0 : Nat) (a1 : Int32) (a2 : Int32) (a3 : Int32) : Option Int32 :=
  (chk (okc S 8 a0) (bnd (f_X8_isRow S a0 a1) fun r1 =>
  (if r1 = 0 then
  (some (-10000001))
  else (chk (okc S 8 a0) (bnd (f_X8_isColumn S a0 a2) fun r2 =>
  (if r2 = 0 then
  (some (-10000001))
  else (bnd (f_X8_in a3 0 20000) fun r3 =>
  (if r3 = 0 then
  (some (-10000001))
  else (chk (okc S 8 a0)
  (bnd (f_X8_shown S (S.2.1 a0 0) a1 a2 a3) fun r4 =>
  (some r4)))))))))))
set_option maxRecDepth 100000 in
set_option maxHeartbeats 4000000 in
theorem c_X8_shows (l : Launch) (g : GG) (S : St) (a0 : Nat) (a1 : Int32) (a2 : Int32) (a3 : Int32) : Ct l yX8_shows cX8_shows 4 (some .int) rm_X8_shows g aI (pK S) [rv g a0, .int a1, .int a2, .int a3] S (f_X8_shows S a0 a1 a2 a3) := by
  refine Ct.mk (cf := cw (0, 0)) (by decide +kernel) (cat_r (cat_i (cat_i (cat_i cat_n)))) (Nat.le_of_ble_eq_true rfl) rfl ?_
  intro X hXl hin C
  show J X g _ _ 0 [(0, rv g a0), (1, .int a1), (2, .int a2), (3, .int a3)] [] S (f_X8_shows S a0 a1 a2 a3)
  unfold f_X8_shows
  refine J.aload_n (pc := 0) C (x := a0) dX8_shows_0 rfl rfl ?_
  refine J.iload_n (pc := 1) C dX8_shows_1 rfl rfl ?_
  refine J.vI (pc := 2) C mv_X8_isRow wm_RX8_79 (fun l => c_X8_isRow l g S a0 a1) ⟨⟨Nat.zero_le _, Nat.zero_le _⟩, rfl, rfl⟩ rfl ⟨Nat.le_of_ble_eq_true rfl, Nat.le_of_ble_eq_true rfl⟩ rfl cat_n (Nat.le_of_ble_eq_true rfl) dX8_shows_2 (fun r1 => ?_)
  refine J.if_eq (pc := 5) C (tgt := 40) dX8_shows_5 rfl ?_ ?_
  · refine J.ldc (pc := 40) C wc_RX8_44 dX8_shows_40 ?_
    exact J.iret (pc := 42) C rfl rfl ⟨Nat.le_refl _, Nat.le_refl _⟩ dX8_shows_42
  · refine J.aload_n (pc := 8) C (x := a0) dX8_shows_8 rfl rfl ?_
    refine J.iload_n (pc := 9) C dX8_shows_9 rfl rfl ?_
    refine J.vI (pc := 10) C mv_X8_isColumn wm_RX8_82 (fun l => c_X8_isColumn l g S a0 a2) ⟨⟨Nat.zero_le _, Nat.zero_le _⟩, rfl, rfl⟩ rfl ⟨Nat.le_of_ble_eq_true rfl, Nat.le_of_ble_eq_true rfl⟩ rfl cat_n (Nat.le_of_ble_eq_true rfl) dX8_shows_10 (fun r2 => ?_)
    refine J.if_eq (pc := 13) C (tgt := 40) dX8_shows_13 rfl ?_ ?_
    · refine J.ldc (pc := 40) C wc_RX8_44 dX8_shows_40 ?_
      exact J.iret (pc := 42) C rfl rfl ⟨Nat.le_refl _, Nat.le_refl _⟩ dX8_shows_42
    · refine J.iload_n (pc := 16) C dX8_shows_16 rfl rfl ?_
      refine J.iconst (pc := 17) C dX8_shows_17 ki_0 ?_
      refine J.sipush (pc := 18) C dX8_shows_18 ks_20000 ?_
      refine J.sI (pc := 21) C ms_X8_in wm_RX8_36 (fun l => c_X8_in l g S a3 0 20000) ⟨⟨Nat.zero_le _, Nat.zero_le _⟩, rfl, rfl⟩ rfl ⟨Nat.le_of_ble_eq_true rfl, Nat.le_of_ble_eq_true rfl⟩ rfl cat_n (Nat.le_of_ble_eq_true rfl) dX8_shows_21 (fun r3 => ?_)
      refine J.if_eq (pc := 24) C (tgt := 40) dX8_shows_24 rfl ?_ ?_
      · refine J.ldc (pc := 40) C wc_RX8_44 dX8_shows_40 ?_
        exact J.iret (pc := 42) C rfl rfl ⟨Nat.le_refl _, Nat.le_refl _⟩ dX8_shows_42
      · refine J.aload_n (pc := 27) C (x := a0) dX8_shows_27 rfl rfl ?_
        refine J.getR (pc := 28) C fl_RX8_7 rfl dX8_shows_28 ?_
        refine J.iload_n (pc := 31) C dX8_shows_31 rfl rfl ?_
        refine J.iload_n (pc := 32) C dX8_shows_32 rfl rfl ?_
        refine J.iload_n (pc := 33) C dX8_shows_33 rfl rfl ?_
        refine J.sI (pc := 34) C ms_X8_shown wm_RX8_85 (fun l => c_X8_shown l g S (S.2.1 a0 0) a1 a2 a3) ⟨⟨Nat.zero_le _, Nat.zero_le _⟩, rfl, rfl⟩ rfl ⟨Nat.le_of_ble_eq_true rfl, Nat.le_of_ble_eq_true rfl⟩ rfl cat_n (Nat.le_of_ble_eq_true rfl) dX8_shows_34 (fun r4 => ?_)
        refine J.goto (pc := 37) C (tgt := 42) dX8_shows_37 rfl ?_
        exact J.iret (pc := 42) C rfl rfl ⟨Nat.le_refl _, Nat.le_refl _⟩ dX8_shows_42
abbrev rm_X8_slantOf : Room := { frames := 4, cells := 0, slots := 0, locals := 93 }
def f_X8_slantOf_B6 (a0 : Nat) (a1 : Int32) (kx6 : St → Option (Int32 × St)) (k6 : St → Int32 → Option (Int32 × St)) (S : St) (x2 : Int32) : Option (Int32 × St) :=
  (chk (okc S 8 a0)
  (chk (ina S 10 (S.2.1 a0 0) 0)
  (if ((S.1 (S.2.1 a0 0) (0 : Int32).toNatClampNeg) - 1) ≤ x2 then
  (kx6 S)
  else (chk (okc S 8 a0) (bnd (f_X8_edgesIn S a0 a1 x2) fun r2 =>
  (chk (okc S 8 a0) (bnd (f_X8_edgesIn S a0 a1 (x2 + 1)) fun r3 =>
  (bnd (f_X8_voteBy r2 r3) fun r4 =>
  (chk (okc S 8 a0) (bnd (f_X8_counts S a0 r4 1) fun S_5 =>
  (k6 S_5 (x2 + 1))))))))))))
set_option maxRecDepth 100000 in
set_option maxHeartbeats 4000000 in
theorem w_X8_slantOf_B6 {X : CT} {g : GG} (C : CX X g cX8_slantOf RX8 (some .int) 3 rm_X8_slantOf) (a0 : Nat) (a1 : Int32) (kx6 : St → Option (Int32 × St)) (hkx6 : ∀ (S : St), J X g (Qm X g aW pW) (cw (0, 0)) 46 [(0, rv g a0)] [] S (kx6 S)) : ∀ (n : Nat) (S : St) (x2 : Int32), J X g (Qm X g aW pW) (cw (0, 0)) 6 [(0, rv g a0), (1, .int a1), (2, .int x2)] [] S (wl2 (f_X8_slantOf_B6 a0 a1 kx6) n S x2) := by
  refine J.loop2 (lvf := fun (S : St) (x2 : Int32) => [(0, rv g a0), (1, .int a1), (2, .int x2)]) (Sf := fun (S : St) (x2 : Int32) => S) ?_
  intro k6 hk6 S x2
  show J X g _ _ 6 [(0, rv g a0), (1, .int a1), (2, .int x2)] [] S (f_X8_slantOf_B6 a0 a1 kx6 k6 S x2)
  unfold f_X8_slantOf_B6
  refine J.iload_n (pc := 6) C dX8_slantOf_6 rfl rfl ?_
  refine J.aload_n (pc := 7) C (x := a0) dX8_slantOf_7 rfl rfl ?_
  refine J.getR (pc := 8) C fl_RX8_7 rfl dX8_slantOf_8 ?_
  refine J.iconst (pc := 11) C dX8_slantOf_11 ki_0 ?_
  refine J.iald (pc := 12) C dX8_slantOf_12 ?_
  refine J.iconst (pc := 13) C dX8_slantOf_13 ki_1 ?_
  refine J.isub (pc := 14) C dX8_slantOf_14 ?_
  refine J.icmp_ge (pc := 15) C (tgt := 46) dX8_slantOf_15 rfl ?_ ?_
  · exact J.pick [0] rfl (hkx6 _)
  · refine J.aload_n (pc := 18) C (x := a0) dX8_slantOf_18 rfl rfl ?_
    refine J.aload_n (pc := 19) C (x := a0) dX8_slantOf_19 rfl rfl ?_
    refine J.iload_n (pc := 20) C dX8_slantOf_20 rfl rfl ?_
    refine J.iload_n (pc := 21) C dX8_slantOf_21 rfl rfl ?_
    refine J.vI (pc := 22) C mv_X8_edgesIn wm_RX8_117 (fun l => c_X8_edgesIn l g S a0 a1 x2) ⟨⟨Nat.zero_le _, Nat.zero_le _⟩, rfl, rfl⟩ rfl ⟨Nat.le_of_ble_eq_true rfl, Nat.le_of_ble_eq_true rfl⟩ rfl (cat_r cat_n) (Nat.le_of_ble_eq_true rfl) dX8_slantOf_22 (fun r2 => ?_)
    refine J.aload_n (pc := 25) C (x := a0) dX8_slantOf_25 rfl rfl ?_
    refine J.iload_n (pc := 26) C dX8_slantOf_26 rfl rfl ?_
    refine J.iload_n (pc := 27) C dX8_slantOf_27 rfl rfl ?_
    refine J.iconst (pc := 28) C dX8_slantOf_28 ki_1 ?_
    refine J.iadd (pc := 29) C dX8_slantOf_29 ?_
    refine J.vI (pc := 30) C mv_X8_edgesIn wm_RX8_117 (fun l => c_X8_edgesIn l g S a0 a1 (x2 + 1)) ⟨⟨Nat.zero_le _, Nat.zero_le _⟩, rfl, rfl⟩ rfl ⟨Nat.le_of_ble_eq_true rfl, Nat.le_of_ble_eq_true rfl⟩ rfl (cat_i (cat_r cat_n)) (Nat.le_of_ble_eq_true rfl) dX8_slantOf_30 (fun r3 => ?_)
    refine J.sI (pc := 33) C ms_X8_voteBy wm_RX8_127 (fun l => c_X8_voteBy l g S r2 r3) ⟨⟨Nat.zero_le _, Nat.zero_le _⟩, rfl, rfl⟩ rfl ⟨Nat.le_of_ble_eq_true rfl, Nat.le_of_ble_eq_true rfl⟩ rfl (cat_r cat_n) (Nat.le_of_ble_eq_true rfl) dX8_slantOf_33 (fun r4 => ?_)
    refine J.iconst (pc := 36) C dX8_slantOf_36 ki_1 ?_
    refine J.vU (pc := 37) C mv_X8_counts wm_RX8_142 (fun l => c_X8_counts l g S a0 r4 1) ⟨⟨Nat.zero_le _, Nat.zero_le _⟩, rfl, rfl⟩ rfl ⟨Nat.le_of_ble_eq_true rfl, Nat.le_of_ble_eq_true rfl⟩ rfl cat_n (Nat.le_of_ble_eq_true rfl) dX8_slantOf_37 (fun S_5 => ?_)
    refine J.iinc (pc := 40) C (lv' := [(0, rv g a0), (1, .int a1), (2, .int (x2 + 1))]) dX8_slantOf_40 rfl (Nat.le_of_ble_eq_true rfl) ki_1 rfl ?_
    refine J.goto (pc := 43) C (tgt := 6) dX8_slantOf_43 rfl ?_
    exact (hk6 _ _)
def f_X8_slantOf (S : St) (a0 : Nat) (a1 : Int32) : Option (Int32 × St) :=
  (chk (okc S 8 a0) (bnd (f_X8_noVotes S a0) fun S_1 =>
  (wl2 (f_X8_slantOf_B6 a0 a1 (fun (S_6 : St) => (chk (okc S_6 8 a0) (bnd (f_X8_mostVoted S_6 a0) fun r7 =>
  (some (r7, S_6)))))) FU S_1 0)))
set_option maxRecDepth 100000 in
set_option maxHeartbeats 4000000 in
theorem c_X8_slantOf (l : Launch) (g : GG) (S : St) (a0 : Nat) (a1 : Int32) : Ct l yX8_slantOf cX8_slantOf 3 (some .int) rm_X8_slantOf g aW pW [rv g a0, .int a1] S (f_X8_slantOf S a0 a1) := by
  refine Ct.mk (cf := cw (0, 0)) (by decide +kernel) (cat_r (cat_i cat_n)) (Nat.le_of_ble_eq_true rfl) rfl ?_
  intro X hXl hin C
  show J X g _ _ 0 [(0, rv g a0), (1, .int a1)] [] S (f_X8_slantOf S a0 a1)
  unfold f_X8_slantOf
  refine J.aload_n (pc := 0) C (x := a0) dX8_slantOf_0 rfl rfl ?_
  refine J.vU (pc := 1) C mv_X8_noVotes wm_RX8_136 (fun l => c_X8_noVotes l g S a0) ⟨⟨Nat.zero_le _, Nat.zero_le _⟩, rfl, rfl⟩ rfl ⟨Nat.le_of_ble_eq_true rfl, Nat.le_of_ble_eq_true rfl⟩ rfl cat_n (Nat.le_of_ble_eq_true rfl) dX8_slantOf_1 (fun S_1 => ?_)
  refine J.iconst (pc := 4) C dX8_slantOf_4 ki_0 ?_
  refine J.istore_n (pc := 5) C (lv' := [(0, rv g a0), (1, .int a1), (2, .int 0)]) dX8_slantOf_5 rfl (Nat.le_of_ble_eq_true rfl) rfl ?_
  refine w_X8_slantOf_B6 C _ _ _ (fun S_6 => ?_) FU _ _
  refine J.aload_n (pc := 46) C (x := a0) dX8_slantOf_46 rfl rfl ?_
  refine J.vI (pc := 47) C mv_X8_mostVoted wm_RX8_146 (fun l => c_X8_mostVoted l g S_6 a0) ⟨⟨Nat.zero_le _, Nat.zero_le _⟩, rfl, rfl⟩ rfl ⟨Nat.le_of_ble_eq_true rfl, Nat.le_of_ble_eq_true rfl⟩ rfl cat_n (Nat.le_of_ble_eq_true rfl) dX8_slantOf_47 (fun r7 => ?_)
  exact J.iret (pc := 50) C rfl rfl ⟨Nat.le_refl _, Nat.le_refl _⟩ dX8_slantOf_50
