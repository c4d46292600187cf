abbrev rm_X8_slant : Room := { frames := 5, cells := 0, slots := 0, locals := 115 }
def f_X8_slant (S : St) (a0 : Nat) (a1 : Int32) : Option (Int32 × St) :=
  (chk (okc S 8 a0) (bnd (f_X8_isFrame S a0 a1) fun r1 =>
  (if r1 = 0 then
  (some ((-10000001), S))
  else (chk (okc S 8 a0) (bnd2 (f_X8_slantOf S a0 a1) fun r2 S_3 =>
  (if r2 = (-1000000) then
  (some ((-10000004), S_3))
  else (some (r2, S_3))))))))
set_option maxRecDepth 100000 in
set_option maxHeartbeats 4000000 in
theorem c_X8_slant (l : Launch) (g : GG) (S : St) (a0 : Nat) (a1 : Int32) : Ct l yX8_slant cX8_slant 3 (some .int) rm_X8_slant g aW pW [rv g a0, .int a1] S (f_X8_slant S a0 a1) := by
  refine Ct.mk (cf := cw (0, 0)) (by decide +kernel) (cat_r (cat_i cat_n)) (Nat.le_of_ble_eq_true rfl) rfl ?_
  intro X hXl hin C
  show J X g _ _ 0 [(0, rv g a0), (1, .int a1)] [] S (f_X8_slant S a0 a1)
  unfold f_X8_slant
  refine J.aload_n (pc := 0) C (x := a0) dX8_slant_0 rfl rfl ?_
  refine J.iload_n (pc := 1) C dX8_slant_1 rfl rfl ?_
  refine J.vI (pc := 2) C mv_X8_isFrame wm_RX8_97 (fun l => c_X8_isFrame l g S a0 a1) ⟨⟨Nat.zero_le _, Nat.zero_le _⟩, rfl, rfl⟩ rfl ⟨Nat.le_of_ble_eq_true rfl, Nat.le_of_ble_eq_true rfl⟩ rfl cat_n (Nat.le_of_ble_eq_true rfl) dX8_slant_2 (fun r1 => ?_)
  refine J.if_ne (pc := 5) C (tgt := 11) dX8_slant_5 rfl ?_ ?_
  · refine J.aload_n (pc := 11) C (x := a0) dX8_slant_11 rfl rfl ?_
    refine J.iload_n (pc := 12) C dX8_slant_12 rfl rfl ?_
    refine J.vW (pc := 13) C mv_X8_slantOf wm_RX8_158 (fun l => c_X8_slantOf l g S a0 a1) ⟨⟨Nat.zero_le _, Nat.zero_le _⟩, rfl, rfl⟩ rfl ⟨Nat.le_of_ble_eq_true rfl, Nat.le_of_ble_eq_true rfl⟩ rfl cat_n (Nat.le_of_ble_eq_true rfl) dX8_slant_13 (fun r2 S_3 => ?_)
    refine J.istore_n (pc := 16) C (lv' := [(0, rv g a0), (1, .int a1), (2, .int r2)]) dX8_slant_16 rfl (Nat.le_of_ble_eq_true rfl) rfl ?_
    refine J.iload_n (pc := 17) C dX8_slant_17 rfl rfl ?_
    refine J.ldc (pc := 18) C wc_RX8_49 dX8_slant_18 ?_
    refine J.icmp_ne (pc := 20) C (tgt := 28) dX8_slant_20 rfl ?_ ?_
    · refine J.iload_n (pc := 28) C dX8_slant_28 rfl rfl ?_
      exact J.iret (pc := 29) C rfl rfl ⟨Nat.le_refl _, Nat.le_refl _⟩ dX8_slant_29
    · refine J.ldc (pc := 23) C wc_RX8_120 dX8_slant_23 ?_
      refine J.goto (pc := 25) C (tgt := 29) dX8_slant_25 rfl ?_
      exact J.iret (pc := 29) C rfl rfl ⟨Nat.le_refl _, Nat.le_refl _⟩ dX8_slant_29
  · refine J.ldc (pc := 8) C wc_RX8_44 dX8_slant_8 ?_
    exact J.iret (pc := 10) C rfl rfl ⟨Nat.le_refl _, Nat.le_refl _⟩ dX8_slant_10
abbrev rm_X8_slantSpeed : Room := { frames := 5, cells := 0, slots := 0, locals := 115 }
def f_X8_slantSpeed (S : St) (a0 : Nat) (a1 : Int32) : Option (Int32 × St) :=
  (chk (okc S 8 a0) (bnd (f_X8_isFrame S a0 a1) fun r1 =>
  (if r1 = 0 then
  (some ((-10000001), S))
  else (chk (okc S 8 a0)
  (chk (ina S 10 (S.2.1 a0 0) 2)
  (if (S.1 (S.2.1 a0 0) (2 : Int32).toNatClampNeg) = 0 then
  (some ((-10000002), S))
  else (chk (okc S 8 a0) (bnd2 (f_X8_slantOf S a0 a1) fun r2 S_3 =>
  (if r2 = (-1000000) then
  (some ((-10000004), S_3))
  else (chk (okc S_3 8 a0)
  (chk (ina S_3 10 (S_3.2.1 a0 0) 2)
  (chk (¬ (S_3.1 (S_3.2.1 a0 0) (2 : Int32).toNatClampNeg) = 0)
  (some ((100 * r2) / (S_3.1 (S_3.2.1 a0 0) (2 : Int32).toNatClampNeg), S_3))))))))))))))
set_option maxRecDepth 100000 in
set_option maxHeartbeats 4000000 in
theorem c_X8_slantSpeed (l : Launch) (g : GG) (S : St) (a0 : Nat) (a1 : Int32) : Ct l yX8_slantSpeed cX8_slantSpeed 3 (some .int) rm_X8_slantSpeed g aW pW [rv g a0, .int a1] S (f_X8_slantSpeed S a0 a1) := by
  refine Ct.mk (cf := cw (0, 0)) (by decide +kernel) (cat_r (cat_i cat_n)) (Nat.le_of_ble_eq_true rfl) rfl ?_
  intro X hXl hin C
  show J X g _ _ 0 [(0, rv g a0), (1, .int a1)] [] S (f_X8_slantSpeed S a0 a1)
  unfold f_X8_slantSpeed
  refine J.aload_n (pc := 0) C (x := a0) dX8_slantSpeed_0 rfl rfl ?_
  refine J.iload_n (pc := 1) C dX8_slantSpeed_1 rfl rfl ?_
  refine J.vI (pc := 2) C mv_X8_isFrame wm_RX8_97 (fun l => c_X8_isFrame l g S a0 a1) ⟨⟨Nat.zero_le _, Nat.zero_le _⟩, rfl, rfl⟩ rfl ⟨Nat.le_of_ble_eq_true rfl, Nat.le_of_ble_eq_true rfl⟩ rfl cat_n (Nat.le_of_ble_eq_true rfl) dX8_slantSpeed_2 (fun r1 => ?_)
  refine J.if_ne (pc := 5) C (tgt := 11) dX8_slantSpeed_5 rfl ?_ ?_
  · refine J.aload_n (pc := 11) C (x := a0) dX8_slantSpeed_11 rfl rfl ?_
    refine J.getR (pc := 12) C fl_RX8_7 rfl dX8_slantSpeed_12 ?_
    refine J.iconst (pc := 15) C dX8_slantSpeed_15 ki_2 ?_
    refine J.iald (pc := 16) C dX8_slantSpeed_16 ?_
    refine J.if_ne (pc := 17) C (tgt := 23) dX8_slantSpeed_17 rfl ?_ ?_
    · refine J.aload_n (pc := 23) C (x := a0) dX8_slantSpeed_23 rfl rfl ?_
      refine J.iload_n (pc := 24) C dX8_slantSpeed_24 rfl rfl ?_
      refine J.vW (pc := 25) C mv_X8_slantOf wm_RX8_158 (fun l => c_X8_slantOf l g S a0 a1) ⟨⟨Nat.zero_le _, Nat.zero_le _⟩, rfl, rfl⟩ rfl ⟨Nat.le_of_ble_eq_true rfl, Nat.le_of_ble_eq_true rfl⟩ rfl cat_n (Nat.le_of_ble_eq_true rfl) dX8_slantSpeed_25 (fun r2 S_3 => ?_)
      refine J.istore_n (pc := 28) C (lv' := [(0, rv g a0), (1, .int a1), (2, .int r2)]) dX8_slantSpeed_28 rfl (Nat.le_of_ble_eq_true rfl) rfl ?_
      refine J.iload_n (pc := 29) C dX8_slantSpeed_29 rfl rfl ?_
      refine J.ldc (pc := 30) C wc_RX8_49 dX8_slantSpeed_30 ?_
      refine J.icmp_ne (pc := 32) C (tgt := 40) dX8_slantSpeed_32 rfl ?_ ?_
      · refine J.bipush (pc := 40) C dX8_slantSpeed_40 kb_100 ?_
        refine J.iload_n (pc := 42) C dX8_slantSpeed_42 rfl rfl ?_
        refine J.imul (pc := 43) C dX8_slantSpeed_43 ?_
        refine J.aload_n (pc := 44) C (x := a0) dX8_slantSpeed_44 rfl rfl ?_
        refine J.getR (pc := 45) C fl_RX8_7 rfl dX8_slantSpeed_45 ?_
        refine J.iconst (pc := 48) C dX8_slantSpeed_48 ki_2 ?_
        refine J.iald (pc := 49) C dX8_slantSpeed_49 ?_
        refine J.idiv (pc := 50) C dX8_slantSpeed_50 ?_
        exact J.iret (pc := 51) C rfl rfl ⟨Nat.le_refl _, Nat.le_refl _⟩ dX8_slantSpeed_51
      · refine J.ldc (pc := 35) C wc_RX8_120 dX8_slantSpeed_35 ?_
        refine J.goto (pc := 37) C (tgt := 51) dX8_slantSpeed_37 rfl ?_
        exact J.iret (pc := 51) C rfl rfl ⟨Nat.le_refl _, Nat.le_refl _⟩ dX8_slantSpeed_51
    · refine J.ldc (pc := 20) C wc_RX8_45 dX8_slantSpeed_20 ?_
      exact J.iret (pc := 22) C rfl rfl ⟨Nat.le_refl _, Nat.le_refl _⟩ dX8_slantSpeed_22
  · refine J.ldc (pc := 8) C wc_RX8_44 dX8_slantSpeed_8 ?_
    exact J.iret (pc := 10) C rfl rfl ⟨Nat.le_refl _, Nat.le_refl _⟩ dX8_slantSpeed_10
abbrev rm_X8_speed : Room := { frames := 6, cells := 0, slots := 0, locals := 140 }
def f_X8_speed (S : St) (a0 : Nat) (a1 : Int32) (a2 : Int32) : Option (Int32 × St) :=
  (chk (okc S 8 a0) (bnd (f_X8_areFrames S a0 a1 a2) fun r1 =>
  (if r1 = 0 then
  (some ((-10000001), S))
  else (chk (okc S 8 a0) (bnd (f_X8_frameValue S a0 a2 0) fun r2 =>
  (chk (okc S 8 a0) (bnd (f_X8_frameValue S a0 a1 0) fun r3 =>
  (if (r2 - r3) = 0 then
  (some ((-10000002), S))
  else (chk (okc S 8 a0) (bnd2 (f_X8_toldBy S a0 a1 a2 0) fun r4 S_5 =>
  (if r4 = (-1000000) then
  (some ((-10000004), S_5))
  else (chk (¬ (r2 - r3) = 0)
  (some ((100 * r4) / (r2 - r3), S_5))))))))))))))
set_option maxRecDepth 100000 in
set_option maxHeartbeats 4000000 in
theorem c_X8_speed (l : Launch) (g : GG) (S : St) (a0 : Nat) (a1 : Int32) (a2 : Int32) : Ct l yX8_speed cX8_speed 5 (some .int) rm_X8_speed g aW pW [rv g a0, .int a1, .int a2] S (f_X8_speed S a0 a1 a2) := by
  refine Ct.mk (cf := cw (0, 0)) (by decide +kernel) (cat_r (cat_i (cat_i cat_n))) (Nat.le_of_ble_eq_true rfl) rfl ?_
  intro X hXl hin C
  show J X g _ _ 0 [(0, rv g a0), (1, .int a1), (2, .int a2)] [] S (f_X8_speed S a0 a1 a2)
  unfold f_X8_speed
  refine J.aload_n (pc := 0) C (x := a0) dX8_speed_0 rfl rfl ?_
  refine J.iload_n (pc := 1) C dX8_speed_1 rfl rfl ?_
  refine J.iload_n (pc := 2) C dX8_speed_2 rfl rfl ?_
  refine J.vI (pc := 3) C mv_X8_areFrames wm_RX8_130 (fun l => c_X8_areFrames l g S a0 a1 a2) ⟨⟨Nat.zero_le _, Nat.zero_le _⟩, rfl, rfl⟩ rfl ⟨Nat.le_of_ble_eq_true rfl, Nat.le_of_ble_eq_true rfl⟩ rfl cat_n (Nat.le_of_ble_eq_true rfl) dX8_speed_3 (fun r1 => ?_)
  refine J.if_ne (pc := 6) C (tgt := 12) dX8_speed_6 rfl ?_ ?_
  · refine J.aload_n (pc := 12) C (x := a0) dX8_speed_12 rfl rfl ?_
    refine J.iload_n (pc := 13) C dX8_speed_13 rfl rfl ?_
    refine J.iconst (pc := 14) C dX8_speed_14 ki_0 ?_
    refine J.vI (pc := 15) C mv_X8_frameValue wm_RX8_100 (fun l => c_X8_frameValue l g S a0 a2 0) ⟨⟨Nat.zero_le _, Nat.zero_le _⟩, rfl, rfl⟩ rfl ⟨Nat.le_of_ble_eq_true rfl, Nat.le_of_ble_eq_true rfl⟩ rfl cat_n (Nat.le_of_ble_eq_true rfl) dX8_speed_15 (fun r2 => ?_)
    refine J.aload_n (pc := 18) C (x := a0) dX8_speed_18 rfl rfl ?_
    refine J.iload_n (pc := 19) C dX8_speed_19 rfl rfl ?_
    refine J.iconst (pc := 20) C dX8_speed_20 ki_0 ?_
    refine J.vI (pc := 21) C mv_X8_frameValue wm_RX8_100 (fun l => c_X8_frameValue l g S a0 a1 0) ⟨⟨Nat.zero_le _, Nat.zero_le _⟩, rfl, rfl⟩ rfl ⟨Nat.le_of_ble_eq_true rfl, Nat.le_of_ble_eq_true rfl⟩ rfl (cat_i cat_n) (Nat.le_of_ble_eq_true rfl) dX8_speed_21 (fun r3 => ?_)
    refine J.isub (pc := 24) C dX8_speed_24 ?_
    refine J.istore_n (pc := 25) C (lv' := [(0, rv g a0), (1, .int a1), (2, .int a2), (3, .int (r2 - r3))]) dX8_speed_25 rfl (Nat.le_of_ble_eq_true rfl) rfl ?_
    refine J.iload_n (pc := 26) C dX8_speed_26 rfl rfl ?_
    refine J.if_ne (pc := 27) C (tgt := 33) dX8_speed_27 rfl ?_ ?_
    · refine J.aload_n (pc := 33) C (x := a0) dX8_speed_33 rfl rfl ?_
      refine J.iload_n (pc := 34) C dX8_speed_34 rfl rfl ?_
      refine J.iload_n (pc := 35) C dX8_speed_35 rfl rfl ?_
      refine J.iconst (pc := 36) C dX8_speed_36 ki_0 ?_
      refine J.vW (pc := 37) C mv_X8_toldBy wm_RX8_150 (fun l => c_X8_toldBy l g S a0 a1 a2 0) ⟨⟨Nat.zero_le _, Nat.zero_le _⟩, rfl, rfl⟩ rfl ⟨Nat.le_of_ble_eq_true rfl, Nat.le_of_ble_eq_true rfl⟩ rfl cat_n (Nat.le_of_ble_eq_true rfl) dX8_speed_37 (fun r4 S_5 => ?_)
      refine J.istore (pc := 40) C (lv' := [(0, rv g a0), (1, .int a1), (2, .int a2), (3, .int (r2 - r3)), (4, .int r4)]) dX8_speed_40 (Nat.le_of_ble_eq_true rfl) rfl ?_
      refine J.iload (pc := 42) C dX8_speed_42 rfl ?_
      refine J.ldc (pc := 44) C wc_RX8_49 dX8_speed_44 ?_
      refine J.icmp_ne (pc := 46) C (tgt := 54) dX8_speed_46 rfl ?_ ?_
      · refine J.bipush (pc := 54) C dX8_speed_54 kb_100 ?_
        refine J.iload (pc := 56) C dX8_speed_56 rfl ?_
        refine J.imul (pc := 58) C dX8_speed_58 ?_
        refine J.iload_n (pc := 59) C dX8_speed_59 rfl rfl ?_
        refine J.idiv (pc := 60) C dX8_speed_60 ?_
        exact J.iret (pc := 61) C rfl rfl ⟨Nat.le_refl _, Nat.le_refl _⟩ dX8_speed_61
      · refine J.ldc (pc := 49) C wc_RX8_120 dX8_speed_49 ?_
        refine J.goto (pc := 51) C (tgt := 61) dX8_speed_51 rfl ?_
        exact J.iret (pc := 61) C rfl rfl ⟨Nat.le_refl _, Nat.le_refl _⟩ dX8_speed_61
    · refine J.ldc (pc := 30) C wc_RX8_45 dX8_speed_30 ?_
      exact J.iret (pc := 32) C rfl rfl ⟨Nat.le_refl _, Nat.le_refl _⟩ dX8_speed_32
  · refine J.ldc (pc := 9) C wc_RX8_44 dX8_speed_9 ?_
    exact J.iret (pc := 11) C rfl rfl ⟨Nat.le_refl _, Nat.le_refl _⟩ dX8_speed_11
abbrev rm_X8_thing : Room := { frames := 2, cells := 0, slots := 0, locals := 47 }
def f_X8_thing (S : St) (a0 : Nat) (a1 : Int32) (a2 : Int32) (a3 : Int32) (a4 : Int32) (a5 : Int32) (a6 : Int32) : Option (Int32 × St) :=
  (bnd (f_X8_wrongNumber a1 a2 a3 a4 a5 a6) fun r1 =>
  (if r1 = (-1000000) then
  (chk (okc S 8 a0)
  (chk (ina S 10 (S.2.1 a0 0) 8)
  (if (S.1 (S.2.1 a0 0) (8 : Int32).toNatClampNeg) = 4 then
  (some ((-10000003), S))
  else (chk (okc S 8 a0) (bnd (f_X8_notes S a0) fun S_2 =>
  (chk (okc S_2 8 a0)
  (bnd (f_X8_adds S_2 (S_2.2.1 a0 0) a1 a2 a3 a4 a5 a6) fun S_3 =>
  (chk (okc S_3 8 a0)
  (chk (ina S_3 10 (S_3.2.1 a0 0) 8)
  (some ((S_3.1 (S_3.2.1 a0 0) (8 : Int32).toNatClampNeg) - 1, S_3)))))))))))
  else (some ((-10000001), S))))
set_option maxRecDepth 100000 in
set_option maxHeartbeats 4000000 in
theorem c_X8_thing (l : Launch) (g : GG) (S : St) (a0 : Nat) (a1 : Int32) (a2 : Int32) (a3 : Int32) (a4 : Int32) (a5 : Int32) (a6 : Int32) : Ct l yX8_thing cX8_thing 7 (some .int) rm_X8_thing g aW pW [rv g a0, .int a1, .int a2, .int a3, .int a4, .int a5, .int a6] S (f_X8_thing S a0 a1 a2 a3 a4 a5 a6) := by
  refine Ct.mk (cf := cw (0, 0)) (by decide +kernel) (cat_r (cat_i (cat_i (cat_i (cat_i (cat_i (cat_i cat_n))))))) (Nat.le_of_ble_eq_true rfl) rfl ?_
  intro X hXl hin C
  show J X g _ _ 0 [(0, rv g a0), (1, .int a1), (2, .int a2), (3, .int a3), (4, .int a4), (5, .int a5), (6, .int a6)] [] S (f_X8_thing S a0 a1 a2 a3 a4 a5 a6)
  unfold f_X8_thing
  refine J.iload_n (pc := 0) C dX8_thing_0 rfl rfl ?_
  refine J.iload_n (pc := 1) C dX8_thing_1 rfl rfl ?_
  refine J.iload_n (pc := 2) C dX8_thing_2 rfl rfl ?_
  refine J.iload (pc := 3) C dX8_thing_3 rfl ?_
  refine J.iload (pc := 5) C dX8_thing_5 rfl ?_
  refine J.iload (pc := 7) C dX8_thing_7 rfl ?_
  refine J.sI (pc := 9) C ms_X8_wrongNumber wm_RX8_50 (fun l => c_X8_wrongNumber l g S a1 a2 a3 a4 a5 a6) ⟨⟨Nat.zero_le _, Nat.zero_le _⟩, rfl, rfl⟩ rfl ⟨Nat.le_of_ble_eq_true rfl, Nat.le_of_ble_eq_true rfl⟩ rfl cat_n (Nat.le_of_ble_eq_true rfl) dX8_thing_9 (fun r1 => ?_)
  refine J.ldc (pc := 12) C wc_RX8_49 dX8_thing_12 ?_
  refine J.icmp_eq (pc := 14) C (tgt := 20) dX8_thing_14 rfl ?_ ?_
  · refine J.aload_n (pc := 20) C (x := a0) dX8_thing_20 rfl rfl ?_
    refine J.getR (pc := 21) C fl_RX8_7 rfl dX8_thing_21 ?_
    refine J.bipush (pc := 24) C dX8_thing_24 kb_8 ?_
    refine J.iald (pc := 26) C dX8_thing_26 ?_
    refine J.iconst (pc := 27) C dX8_thing_27 ki_4 ?_
    refine J.icmp_ne (pc := 28) C (tgt := 34) dX8_thing_28 rfl ?_ ?_
    · refine J.aload_n (pc := 34) C (x := a0) dX8_thing_34 rfl rfl ?_
      refine J.vU (pc := 35) C mv_X8_notes wm_RX8_46 (fun l => c_X8_notes l g S a0) ⟨⟨Nat.zero_le _, Nat.zero_le _⟩, rfl, rfl⟩ rfl ⟨Nat.le_of_ble_eq_true rfl, Nat.le_of_ble_eq_true rfl⟩ rfl cat_n (Nat.le_of_ble_eq_true rfl) dX8_thing_35 (fun S_2 => ?_)
      refine J.aload_n (pc := 38) C (x := a0) dX8_thing_38 rfl rfl ?_
      refine J.getR (pc := 39) C fl_RX8_7 rfl dX8_thing_39 ?_
      refine J.iload_n (pc := 42) C dX8_thing_42 rfl rfl ?_
      refine J.iload_n (pc := 43) C dX8_thing_43 rfl rfl ?_
      refine J.iload_n (pc := 44) C dX8_thing_44 rfl rfl ?_
      refine J.iload (pc := 45) C dX8_thing_45 rfl ?_
      refine J.iload (pc := 47) C dX8_thing_47 rfl ?_
      refine J.iload (pc := 49) C dX8_thing_49 rfl ?_
      refine J.sU (pc := 51) C ms_X8_adds wm_RX8_55 (fun l => c_X8_adds l g S_2 (S_2.2.1 a0 0) a1 a2 a3 a4 a5 a6) ⟨⟨Nat.zero_le _, Nat.zero_le _⟩, rfl, rfl⟩ rfl ⟨Nat.le_of_ble_eq_true rfl, Nat.le_of_ble_eq_true rfl⟩ rfl cat_n (Nat.le_of_ble_eq_true rfl) dX8_thing_51 (fun S_3 => ?_)
      refine J.aload_n (pc := 54) C (x := a0) dX8_thing_54 rfl rfl ?_
      refine J.getR (pc := 55) C fl_RX8_7 rfl dX8_thing_55 ?_
      refine J.bipush (pc := 58) C dX8_thing_58 kb_8 ?_
      refine J.iald (pc := 60) C dX8_thing_60 ?_
      refine J.iconst (pc := 61) C dX8_thing_61 ki_1 ?_
      refine J.isub (pc := 62) C dX8_thing_62 ?_
      exact J.iret (pc := 63) C rfl rfl ⟨Nat.le_refl _, Nat.le_refl _⟩ dX8_thing_63
    · refine J.ldc (pc := 31) C wc_RX8_54 dX8_thing_31 ?_
      exact J.iret (pc := 33) C rfl rfl ⟨Nat.le_refl _, Nat.le_refl _⟩ dX8_thing_33
  · refine J.ldc (pc := 17) C wc_RX8_44 dX8_thing_17 ?_
    exact J.iret (pc := 19) C rfl rfl ⟨Nat.le_refl _, Nat.le_refl _⟩ dX8_thing_19
abbrev rm_X8_thingOf : Room := { frames := 2, cells := 0, slots := 0, locals := 43 }
def f_X8_thingOf (S : St) (a0 : Nat) (a1 : Int32) (a2 : Int32) : Option Int32 :=
  (chk (okc S 8 a0) (bnd (f_X8_isThing S a0 a1) fun r1 =>
  (if r1 = 0 then
  (some (-10000001))
  else (bnd (f_X8_in a2 0 6) fun r2 =>
  (if r2 = 0 then
  (some (-10000001))
  else (if a2 = 6 then
  (chk (okc S 8 a0)
  (chk (okc S 8 a0)
  (chk (ina S 10 (S.2.1 a0 0) 33)
  (bnd (f_X8_placeAt S (S.2.1 a0 0) a1 (S.1 (S.2.1 a0 0) (33 : Int32).toNatClampNeg)) fun r3 =>
  (some r3)))))
  else (chk (okc S 8 a0)
  (chk (ina S 10 (S.2.1 a0 0) ((9 + (6 * a1)) + a2))
  (some (S.1 (S.2.1 a0 0) ((9 + (6 * a1)) + a2).toNatClampNeg))))))))))
set_option maxRecDepth 100000 in
set_option maxHeartbeats 4000000 in
theorem c_X8_thingOf (l : Launch) (g : GG) (S : St) (a0 : Nat) (a1 : Int32) (a2 : Int32) : Ct l yX8_thingOf cX8_thingOf 3 (some .int) rm_X8_thingOf g aI (pK S) [rv g a0, .int a1, .int a2] S (f_X8_thingOf S a0 a1 a2) := by
  refine Ct.mk (cf := cw (0, 0)) (by decide +kernel) (cat_r (cat_i (cat_i cat_n))) (Nat.le_of_ble_eq_true rfl) rfl ?_
  intro X hXl hin C
  show J X g _ _ 0 [(0, rv g a0), (1, .int a1), (2, .int a2)] [] S (f_X8_thingOf S a0 a1 a2)
  unfold f_X8_thingOf
  refine J.aload_n (pc := 0) C (x := a0) dX8_thingOf_0 rfl rfl ?_
  refine J.iload_n (pc := 1) C dX8_thingOf_1 rfl rfl ?_
  refine J.vI (pc := 2) C mv_X8_isThing wm_RX8_59 (fun l => c_X8_isThing l g S a0 a1) ⟨⟨Nat.zero_le _, Nat.zero_le _⟩, rfl, rfl⟩ rfl ⟨Nat.le_of_ble_eq_true rfl, Nat.le_of_ble_eq_true rfl⟩ rfl cat_n (Nat.le_of_ble_eq_true rfl) dX8_thingOf_2 (fun r1 => ?_)
  refine J.if_eq (pc := 5) C (tgt := 18) dX8_thingOf_5 rfl ?_ ?_
  · refine J.ldc (pc := 18) C wc_RX8_44 dX8_thingOf_18 ?_
    exact J.iret (pc := 20) C rfl rfl ⟨Nat.le_refl _, Nat.le_refl _⟩ dX8_thingOf_20
  · refine J.iload_n (pc := 8) C dX8_thingOf_8 rfl rfl ?_
    refine J.iconst (pc := 9) C dX8_thingOf_9 ki_0 ?_
    refine J.bipush (pc := 10) C dX8_thingOf_10 kb_6 ?_
    refine J.sI (pc := 12) C ms_X8_in wm_RX8_36 (fun l => c_X8_in l g S a2 0 6) ⟨⟨Nat.zero_le _, Nat.zero_le _⟩, rfl, rfl⟩ rfl ⟨Nat.le_of_ble_eq_true rfl, Nat.le_of_ble_eq_true rfl⟩ rfl cat_n (Nat.le_of_ble_eq_true rfl) dX8_thingOf_12 (fun r2 => ?_)
    refine J.if_ne (pc := 15) C (tgt := 21) dX8_thingOf_15 rfl ?_ ?_
    · refine J.iload_n (pc := 21) C dX8_thingOf_21 rfl rfl ?_
      refine J.bipush (pc := 22) C dX8_thingOf_22 kb_6 ?_
      refine J.icmp_ne (pc := 24) C (tgt := 45) dX8_thingOf_24 rfl ?_ ?_
      · refine J.aload_n (pc := 45) C (x := a0) dX8_thingOf_45 rfl rfl ?_
        refine J.getR (pc := 46) C fl_RX8_7 rfl dX8_thingOf_46 ?_
        refine J.bipush (pc := 49) C dX8_thingOf_49 kb_9 ?_
        refine J.bipush (pc := 51) C dX8_thingOf_51 kb_6 ?_
        refine J.iload_n (pc := 53) C dX8_thingOf_53 rfl rfl ?_
        refine J.imul (pc := 54) C dX8_thingOf_54 ?_
        refine J.iadd (pc := 55) C dX8_thingOf_55 ?_
        refine J.iload_n (pc := 56) C dX8_thingOf_56 rfl rfl ?_
        refine J.iadd (pc := 57) C dX8_thingOf_57 ?_
        refine J.iald (pc := 58) C dX8_thingOf_58 ?_
        exact J.iret (pc := 59) C rfl rfl ⟨Nat.le_refl _, Nat.le_refl _⟩ dX8_thingOf_59
      · refine J.aload_n (pc := 27) C (x := a0) dX8_thingOf_27 rfl rfl ?_
        refine J.getR (pc := 28) C fl_RX8_7 rfl dX8_thingOf_28 ?_
        refine J.iload_n (pc := 31) C dX8_thingOf_31 rfl rfl ?_
        refine J.aload_n (pc := 32) C (x := a0) dX8_thingOf_32 rfl rfl ?_
        refine J.getR (pc := 33) C fl_RX8_7 rfl dX8_thingOf_33 ?_
        refine J.bipush (pc := 36) C dX8_thingOf_36 kb_33 ?_
        refine J.iald (pc := 38) C dX8_thingOf_38 ?_
        refine J.sI (pc := 39) C ms_X8_placeAt wm_RX8_63 (fun l => c_X8_placeAt l g S (S.2.1 a0 0) a1 (S.1 (S.2.1 a0 0) (33 : Int32).toNatClampNeg)) ⟨⟨Nat.zero_le _, Nat.zero_le _⟩, rfl, rfl⟩ rfl ⟨Nat.le_of_ble_eq_true rfl, Nat.le_of_ble_eq_true rfl⟩ rfl cat_n (Nat.le_of_ble_eq_true rfl) dX8_thingOf_39 (fun r3 => ?_)
        refine J.goto (pc := 42) C (tgt := 59) dX8_thingOf_42 rfl ?_
        exact J.iret (pc := 59) C rfl rfl ⟨Nat.le_refl _, Nat.le_refl _⟩ dX8_thingOf_59
    · refine J.ldc (pc := 18) C wc_RX8_44 dX8_thingOf_18 ?_
      exact J.iret (pc := 20) C rfl rfl ⟨Nat.le_refl _, Nat.le_refl _⟩ dX8_thingOf_20
abbrev rm_X8_turn : Room := { frames := 2, cells := 0, slots := 0, locals := 45 }
def f_X8_turn (S : St) (a0 : Nat) (a1 : Int32) (a2 : Int32) : Option (Int32 × St) :=
  (chk (okc S 8 a0) (bnd (f_X8_isThing S a0 a1) fun r1 =>
  (if r1 = 0 then
  (some ((-10000001), S))
  else (bnd (f_X8_in a2 (-200) 200) fun r2 =>
  (if r2 = 0 then
  (some ((-10000001), S))
  else (chk (okc S 8 a0) (bnd (f_X8_notes S a0) fun S_3 =>
  (chk (okc S_3 8 a0)
  (chk (ina S_3 10 (S_3.2.1 a0 0) ((9 + (6 * a1)) + 3))
  (vlt (S_3.1 (S_3.2.1 a0 0) ((9 + (6 * a1)) + 3).toNatClampNeg) fun v4 =>
  (chk (okc S_3 8 a0)
  (chk (okc S_3 8 a0)
  (chk (okc S_3 8 a0)
  (chk (ina S_3 10 (S_3.2.1 a0 0) 33)
  (bnd (f_X8_placeAt S_3 (S_3.2.1 a0 0) a1 (S_3.1 (S_3.2.1 a0 0) (33 : Int32).toNatClampNeg)) fun r5 =>
  (chk (okc S_3 8 a0)
  (chk (ina S_3 10 (S_3.2.1 a0 0) 33)
  (chk (inw S_3 10 (S_3.2.1 a0 0) ((9 + (6 * a1)) + 2)) (vlt (upI S_3 (S_3.2.1 a0 0) ((9 + (6 * a1)) + 2).toNatClampNeg (r5 - (a2 * (S_3.1 (S_3.2.1 a0 0) (33 : Int32).toNatClampNeg)))) fun S_6 =>
  (chk (okc S_6 8 a0)
  (chk (inw S_6 10 (S_6.2.1 a0 0) ((9 + (6 * a1)) + 3)) (vlt (upI S_6 (S_6.2.1 a0 0) ((9 + (6 * a1)) + 3).toNatClampNeg a2) fun S_7 =>
  (some (v4, S_7))))))))))))))))))))))))
set_option maxRecDepth 100000 in
set_option maxHeartbeats 4000000 in
theorem c_X8_turn (l : Launch) (g : GG) (S : St) (a0 : Nat) (a1 : Int32) (a2 : Int32) : Ct l yX8_turn cX8_turn 5 (some .int) rm_X8_turn g aW pW [rv g a0, .int a1, .int a2] S (f_X8_turn S a0 a1 a2) := by
  refine Ct.mk (cf := cw (0, 0)) (by decide +kernel) (cat_r (cat_i (cat_i cat_n))) (Nat.le_of_ble_eq_true rfl) rfl ?_
  intro X hXl hin C
  show J X g _ _ 0 [(0, rv g a0), (1, .int a1), (2, .int a2)] [] S (f_X8_turn S a0 a1 a2)
  unfold f_X8_turn
  refine J.aload_n (pc := 0) C (x := a0) dX8_turn_0 rfl rfl ?_
  refine J.iload_n (pc := 1) C dX8_turn_1 rfl rfl ?_
  refine J.vI (pc := 2) C mv_X8_isThing wm_RX8_59 (fun l => c_X8_isThing l g S a0 a1) ⟨⟨Nat.zero_le _, Nat.zero_le _⟩, rfl, rfl⟩ rfl ⟨Nat.le_of_ble_eq_true rfl, Nat.le_of_ble_eq_true rfl⟩ rfl cat_n (Nat.le_of_ble_eq_true rfl) dX8_turn_2 (fun r1 => ?_)
  refine J.if_eq (pc := 5) C (tgt := 21) dX8_turn_5 rfl ?_ ?_
  · refine J.ldc (pc := 21) C wc_RX8_44 dX8_turn_21 ?_
    exact J.iret (pc := 23) C rfl rfl ⟨Nat.le_refl _, Nat.le_refl _⟩ dX8_turn_23
  · refine J.iload_n (pc := 8) C dX8_turn_8 rfl rfl ?_
    refine J.sipush (pc := 9) C dX8_turn_9 ks_m200 ?_
    refine J.sipush (pc := 12) C dX8_turn_12 ks_200 ?_
    refine J.sI (pc := 15) C ms_X8_in wm_RX8_36 (fun l => c_X8_in l g S a2 (-200) 200) ⟨⟨Nat.zero_le _, Nat.zero_le _⟩, rfl, rfl⟩ rfl ⟨Nat.le_of_ble_eq_true rfl, Nat.le_of_ble_eq_true rfl⟩ rfl cat_n (Nat.le_of_ble_eq_true rfl) dX8_turn_15 (fun r2 => ?_)
    refine J.if_ne (pc := 18) C (tgt := 24) dX8_turn_18 rfl ?_ ?_
    · refine J.aload_n (pc := 24) C (x := a0) dX8_turn_24 rfl rfl ?_
      refine J.vU (pc := 25) C mv_X8_notes wm_RX8_46 (fun l => c_X8_notes l g S a0) ⟨⟨Nat.zero_le _, Nat.zero_le _⟩, rfl, rfl⟩ rfl ⟨Nat.le_of_ble_eq_true rfl, Nat.le_of_ble_eq_true rfl⟩ rfl cat_n (Nat.le_of_ble_eq_true rfl) dX8_turn_25 (fun S_3 => ?_)
      refine J.bipush (pc := 28) C dX8_turn_28 kb_9 ?_
      refine J.bipush (pc := 30) C dX8_turn_30 kb_6 ?_
      refine J.iload_n (pc := 32) C dX8_turn_32 rfl rfl ?_
      refine J.imul (pc := 33) C dX8_turn_33 ?_
      refine J.iadd (pc := 34) C dX8_turn_34 ?_
      refine J.istore_n (pc := 35) C (lv' := [(0, rv g a0), (1, .int a1), (2, .int a2), (3, .int (9 + (6 * a1)))]) dX8_turn_35 rfl (Nat.le_of_ble_eq_true rfl) rfl ?_
      refine J.aload_n (pc := 36) C (x := a0) dX8_turn_36 rfl rfl ?_
      refine J.getR (pc := 37) C fl_RX8_7 rfl dX8_turn_37 ?_
      refine J.iload_n (pc := 40) C dX8_turn_40 rfl rfl ?_
      refine J.iconst (pc := 41) C dX8_turn_41 ki_3 ?_
      refine J.iadd (pc := 42) C dX8_turn_42 ?_
      refine J.iald (pc := 43) C dX8_turn_43 ?_
      refine J.topi (fun v4 => ?_)
      refine J.istore (pc := 44) C (lv' := [(0, rv g a0), (1, .int a1), (2, .int a2), (3, .int (9 + (6 * a1))), (4, .int v4)]) dX8_turn_44 (Nat.le_of_ble_eq_true rfl) rfl ?_
      refine J.aload_n (pc := 46) C (x := a0) dX8_turn_46 rfl rfl ?_
      refine J.getR (pc := 47) C fl_RX8_7 rfl dX8_turn_47 ?_
      refine J.iload_n (pc := 50) C dX8_turn_50 rfl rfl ?_
      refine J.iconst (pc := 51) C dX8_turn_51 ki_2 ?_
      refine J.iadd (pc := 52) C dX8_turn_52 ?_
      refine J.aload_n (pc := 53) C (x := a0) dX8_turn_53 rfl rfl ?_
      refine J.getR (pc := 54) C fl_RX8_7 rfl dX8_turn_54 ?_
      refine J.iload_n (pc := 57) C dX8_turn_57 rfl rfl ?_
      refine J.aload_n (pc := 58) C (x := a0) dX8_turn_58 rfl rfl ?_
      refine J.getR (pc := 59) C fl_RX8_7 rfl dX8_turn_59 ?_
      refine J.bipush (pc := 62) C dX8_turn_62 kb_33 ?_
      refine J.iald (pc := 64) C dX8_turn_64 ?_
      refine J.sI (pc := 65) C ms_X8_placeAt wm_RX8_63 (fun l => c_X8_placeAt l g S_3 (S_3.2.1 a0 0) a1 (S_3.1 (S_3.2.1 a0 0) (33 : Int32).toNatClampNeg)) ⟨⟨Nat.zero_le _, Nat.zero_le _⟩, rfl, rfl⟩ rfl ⟨Nat.le_of_ble_eq_true rfl, Nat.le_of_ble_eq_true rfl⟩ rfl (cat_i (cat_r cat_n)) (Nat.le_of_ble_eq_true rfl) dX8_turn_65 (fun r5 => ?_)
      refine J.iload_n (pc := 68) C dX8_turn_68 rfl rfl ?_
      refine J.aload_n (pc := 69) C (x := a0) dX8_turn_69 rfl rfl ?_
      refine J.getR (pc := 70) C fl_RX8_7 rfl dX8_turn_70 ?_
      refine J.bipush (pc := 73) C dX8_turn_73 kb_33 ?_
      refine J.iald (pc := 75) C dX8_turn_75 ?_
      refine J.imul (pc := 76) C dX8_turn_76 ?_
      refine J.isub (pc := 77) C dX8_turn_77 ?_
      refine J.iasts (pc := 78) C dX8_turn_78 (fun S_6 => ?_)
      refine J.aload_n (pc := 79) C (x := a0) dX8_turn_79 rfl rfl ?_
      refine J.getR (pc := 80) C fl_RX8_7 rfl dX8_turn_80 ?_
      refine J.iload_n (pc := 83) C dX8_turn_83 rfl rfl ?_
      refine J.iconst (pc := 84) C dX8_turn_84 ki_3 ?_
      refine J.iadd (pc := 85) C dX8_turn_85 ?_
      refine J.iload_n (pc := 86) C dX8_turn_86 rfl rfl ?_
      refine J.iasts (pc := 87) C dX8_turn_87 (fun S_7 => ?_)
      refine J.iload (pc := 88) C dX8_turn_88 rfl ?_
      exact J.iret (pc := 90) C rfl rfl ⟨Nat.le_refl _, Nat.le_refl _⟩ dX8_turn_90
    · refine J.ldc (pc := 21) C wc_RX8_44 dX8_turn_21 ?_
      exact J.iret (pc := 23) C rfl rfl ⟨Nat.le_refl _, Nat.le_refl _⟩ dX8_turn_23
abbrev rm_X8_type : Room := { frames := 1, cells := 0, slots := 0, locals := 22 }
def f_X8_type (S : St) (a0 : Nat) (a1 : Int32) : Option (Int32 × St) :=
  (bnd (f_X8_in a1 32 126) fun r1 =>
  (if r1 = 0 then
  (some ((-10000001), S))
  else (chk (okc S 8 a0)
  (if (S.1 a0 5) = 80 then
  (some ((-10000003), S))
  else (chk (okc S 8 a0)
  (chk (okc S 8 a0)
  (chk (inw S 10 (S.2.1 a0 4) (S.1 a0 5)) (vlt (upI S (S.2.1 a0 4) (S.1 a0 5).toNatClampNeg a1) fun S_2 =>
  (chk (okc S_2 8 a0)
  (chk (okc S_2 8 a0) (vlt (upI S_2 a0 5 ((S_2.1 a0 5) + 1)) fun S_3 =>
  (chk (okc S_3 8 a0)
  (some (S_3.1 a0 5, S_3))))))))))))))
set_option maxRecDepth 100000 in
set_option maxHeartbeats 4000000 in
theorem c_X8_type (l : Launch) (g : GG) (S : St) (a0 : Nat) (a1 : Int32) : Ct l yX8_type cX8_type 2 (some .int) rm_X8_type g aW pW [rv g a0, .int a1] S (f_X8_type S a0 a1) := by
  refine Ct.mk (cf := cw (0, 0)) (by decide +kernel) (cat_r (cat_i cat_n)) (Nat.le_of_ble_eq_true rfl) rfl ?_
  intro X hXl hin C
  show J X g _ _ 0 [(0, rv g a0), (1, .int a1)] [] S (f_X8_type S a0 a1)
  unfold f_X8_type
  refine J.iload_n (pc := 0) C dX8_type_0 rfl rfl ?_
  refine J.bipush (pc := 1) C dX8_type_1 kb_32 ?_
  refine J.bipush (pc := 3) C dX8_type_3 kb_126 ?_
  refine J.sI (pc := 5) C ms_X8_in wm_RX8_36 (fun l => c_X8_in l g S a1 32 126) ⟨⟨Nat.zero_le _, Nat.zero_le _⟩, rfl, rfl⟩ rfl ⟨Nat.le_of_ble_eq_true rfl, Nat.le_of_ble_eq_true rfl⟩ rfl cat_n (Nat.le_of_ble_eq_true rfl) dX8_type_5 (fun r1 => ?_)
  refine J.if_ne (pc := 8) C (tgt := 14) dX8_type_8 rfl ?_ ?_
  · refine J.aload_n (pc := 14) C (x := a0) dX8_type_14 rfl rfl ?_
    refine J.getI (pc := 15) C fl_RX8_191 rfl dX8_type_15 ?_
    refine J.bipush (pc := 18) C dX8_type_18 kb_80 ?_
    refine J.icmp_ne (pc := 20) C (tgt := 26) dX8_type_20 rfl ?_ ?_
    · refine J.aload_n (pc := 26) C (x := a0) dX8_type_26 rfl rfl ?_
      refine J.getR (pc := 27) C fl_RX8_19 rfl dX8_type_27 ?_
      refine J.aload_n (pc := 30) C (x := a0) dX8_type_30 rfl rfl ?_
      refine J.getI (pc := 31) C fl_RX8_191 rfl dX8_type_31 ?_
      refine J.iload_n (pc := 34) C dX8_type_34 rfl rfl ?_
      refine J.iasts (pc := 35) C dX8_type_35 (fun S_2 => ?_)
      refine J.aload_n (pc := 36) C (x := a0) dX8_type_36 rfl rfl ?_
      refine J.dup (pc := 37) C dX8_type_37 (rv_cat g _) ?_
      refine J.getI (pc := 38) C fl_RX8_191 rfl dX8_type_38 ?_
      refine J.iconst (pc := 41) C dX8_type_41 ki_1 ?_
      refine J.iadd (pc := 42) C dX8_type_42 ?_
      refine J.putIs (pc := 43) C fl_RX8_191 rfl (fun r h => by cases h; rfl) rfl rfl dX8_type_43 (fun S_3 => ?_)
      refine J.aload_n (pc := 46) C (x := a0) dX8_type_46 rfl rfl ?_
      refine J.getI (pc := 47) C fl_RX8_191 rfl dX8_type_47 ?_
      exact J.iret (pc := 50) C rfl rfl ⟨Nat.le_refl _, Nat.le_refl _⟩ dX8_type_50
    · refine J.ldc (pc := 23) C wc_RX8_54 dX8_type_23 ?_
      exact J.iret (pc := 25) C rfl rfl ⟨Nat.le_refl _, Nat.le_refl _⟩ dX8_type_25
  · refine J.ldc (pc := 11) C wc_RX8_44 dX8_type_11 ?_
    exact J.iret (pc := 13) C rfl rfl ⟨Nat.le_refl _, Nat.le_refl _⟩ dX8_type_13
abbrev rm_X8_undo : Room := { frames := 1, cells := 0, slots := 0, locals := 24 }
def f_X8_undo (S : St) (a0 : Nat) : Option (Int32 × St) :=
  (chk (okc S 8 a0)
  (if (S.1 a0 2) = 0 then
  (some ((-10000002), S))
  else (chk (okc S 8 a0)
  (chk (okc S 8 a0) (vlt (upI S a0 2 ((S.1 a0 2) - 1)) fun S_1 =>
  (chk (okc S_1 8 a0)
  (chk (okc S_1 8 a0)
  (chk (okc S_1 8 a0)
  (bnd (f_X8_copies S_1 (S_1.2.1 a0 1) (867 * (S_1.1 a0 2)) (S_1.2.1 a0 0) 0) fun S_2 =>
  (chk (okc S_2 8 a0)
  (some (S_2.1 a0 2, S_2))))))))))))
set_option maxRecDepth 100000 in
set_option maxHeartbeats 4000000 in
theorem c_X8_undo (l : Launch) (g : GG) (S : St) (a0 : Nat) : Ct l yX8_undo cX8_undo 1 (some .int) rm_X8_undo g aW pW [rv g a0] S (f_X8_undo S a0) := by
  refine Ct.mk (cf := cw (0, 0)) (by decide +kernel) (cat_r cat_n) (Nat.le_of_ble_eq_true rfl) rfl ?_
  intro X hXl hin C
  show J X g _ _ 0 [(0, rv g a0)] [] S (f_X8_undo S a0)
  unfold f_X8_undo
  refine J.aload_n (pc := 0) C (x := a0) dX8_undo_0 rfl rfl ?_
  refine J.getI (pc := 1) C fl_RX8_28 rfl dX8_undo_1 ?_
  refine J.if_ne (pc := 4) C (tgt := 10) dX8_undo_4 rfl ?_ ?_
  · refine J.aload_n (pc := 10) C (x := a0) dX8_undo_10 rfl rfl ?_
    refine J.dup (pc := 11) C dX8_undo_11 (rv_cat g _) ?_
    refine J.getI (pc := 12) C fl_RX8_28 rfl dX8_undo_12 ?_
    refine J.iconst (pc := 15) C dX8_undo_15 ki_1 ?_
    refine J.isub (pc := 16) C dX8_undo_16 ?_
    refine J.putIs (pc := 17) C fl_RX8_28 rfl (fun r h => by cases h; rfl) rfl rfl dX8_undo_17 (fun S_1 => ?_)
    refine J.aload_n (pc := 20) C (x := a0) dX8_undo_20 rfl rfl ?_
    refine J.getR (pc := 21) C fl_RX8_13 rfl dX8_undo_21 ?_
    refine J.sipush (pc := 24) C dX8_undo_24 ks_867 ?_
    refine J.aload_n (pc := 27) C (x := a0) dX8_undo_27 rfl rfl ?_
    refine J.getI (pc := 28) C fl_RX8_28 rfl dX8_undo_28 ?_
    refine J.imul (pc := 31) C dX8_undo_31 ?_
    refine J.aload_n (pc := 32) C (x := a0) dX8_undo_32 rfl rfl ?_
    refine J.getR (pc := 33) C fl_RX8_7 rfl dX8_undo_33 ?_
    refine J.iconst (pc := 36) C dX8_undo_36 ki_0 ?_
    refine J.sU (pc := 37) C ms_X8_copies wm_RX8_32 (fun l => c_X8_copies l g S_1 (S_1.2.1 a0 1) (867 * (S_1.1 a0 2)) (S_1.2.1 a0 0) 0) ⟨⟨Nat.zero_le _, Nat.zero_le _⟩, rfl, rfl⟩ rfl ⟨Nat.le_of_ble_eq_true rfl, Nat.le_of_ble_eq_true rfl⟩ rfl cat_n (Nat.le_of_ble_eq_true rfl) dX8_undo_37 (fun S_2 => ?_)
    refine J.aload_n (pc := 40) C (x := a0) dX8_undo_40 rfl rfl ?_
    refine J.getI (pc := 41) C fl_RX8_28 rfl dX8_undo_41 ?_
    exact J.iret (pc := 44) C rfl rfl ⟨Nat.le_refl _, Nat.le_refl _⟩ dX8_undo_44
  · refine J.ldc (pc := 7) C wc_RX8_45 dX8_undo_7 ?_
    exact J.iret (pc := 9) C rfl rfl ⟨Nat.le_refl _, Nat.le_refl _⟩ dX8_undo_9
abbrev rm_X8_vote : Room := { frames := 5, cells := 0, slots := 0, locals := 116 }
def f_X8_vote (S : St) (a0 : Nat) (a1 : Int32) (a2 : Int32) (a3 : Int32) : Option Int32 :=
  (chk (okc S 8 a0) (bnd (f_X8_areFrames S a0 a1 a2) fun r1 =>
  (if r1 = 0 then
  (some (-10000001))
  else (chk (okc S 8 a0) (bnd (f_X8_isRow S a0 a3) fun r2 =>
  (if r2 = 0 then
  (some (-10000001))
  else (chk (okc S 8 a0) (bnd (f_X8_voteOf S a0 a1 a2 a3) fun r3 =>
  (if r3 = (-1000000) then
  (some (-10000004))
  else (some r3))))))))))
set_option maxRecDepth 100000 in
set_option maxHeartbeats 4000000 in
theorem c_X8_vote (l : Launch) (g : GG) (S : St) (a0 : Nat) (a1 : Int32) (a2 : Int32) (a3 : Int32) : Ct l yX8_vote cX8_vote 5 (some .int) rm_X8_vote g aI (pK S) [rv g a0, .int a1, .int a2, .int a3] S (f_X8_vote S a0 a1 a2 a3) := by
  refine Ct.mk (cf := cw (0, 0)) (by decide +kernel) (cat_r (cat_i (cat_i (cat_i cat_n)))) (Nat.le_of_ble_eq_true rfl) rfl ?_
  intro X hXl hin C
  show J X g _ _ 0 [(0, rv g a0), (1, .int a1), (2, .int a2), (3, .int a3)] [] S (f_X8_vote S a0 a1 a2 a3)
  unfold f_X8_vote
  refine J.aload_n (pc := 0) C (x := a0) dX8_vote_0 rfl rfl ?_
  refine J.iload_n (pc := 1) C dX8_vote_1 rfl rfl ?_
  refine J.iload_n (pc := 2) C dX8_vote_2 rfl rfl ?_
  refine J.vI (pc := 3) C mv_X8_areFrames wm_RX8_130 (fun l => c_X8_areFrames l g S a0 a1 a2) ⟨⟨Nat.zero_le _, Nat.zero_le _⟩, rfl, rfl⟩ rfl ⟨Nat.le_of_ble_eq_true rfl, Nat.le_of_ble_eq_true rfl⟩ rfl cat_n (Nat.le_of_ble_eq_true rfl) dX8_vote_3 (fun r1 => ?_)
  refine J.if_eq (pc := 6) C (tgt := 17) dX8_vote_6 rfl ?_ ?_
  · refine J.ldc (pc := 17) C wc_RX8_44 dX8_vote_17 ?_
    exact J.iret (pc := 19) C rfl rfl ⟨Nat.le_refl _, Nat.le_refl _⟩ dX8_vote_19
  · refine J.aload_n (pc := 9) C (x := a0) dX8_vote_9 rfl rfl ?_
    refine J.iload_n (pc := 10) C dX8_vote_10 rfl rfl ?_
    refine J.vI (pc := 11) C mv_X8_isRow wm_RX8_79 (fun l => c_X8_isRow l g S a0 a3) ⟨⟨Nat.zero_le _, Nat.zero_le _⟩, rfl, rfl⟩ rfl ⟨Nat.le_of_ble_eq_true rfl, Nat.le_of_ble_eq_true rfl⟩ rfl cat_n (Nat.le_of_ble_eq_true rfl) dX8_vote_11 (fun r2 => ?_)
    refine J.if_ne (pc := 14) C (tgt := 20) dX8_vote_14 rfl ?_ ?_
    · refine J.aload_n (pc := 20) C (x := a0) dX8_vote_20 rfl rfl ?_
      refine J.iload_n (pc := 21) C dX8_vote_21 rfl rfl ?_
      refine J.iload_n (pc := 22) C dX8_vote_22 rfl rfl ?_
      refine J.iload_n (pc := 23) C dX8_vote_23 rfl rfl ?_
      refine J.vI (pc := 24) C mv_X8_voteOf wm_RX8_133 (fun l => c_X8_voteOf l g S a0 a1 a2 a3) ⟨⟨Nat.zero_le _, Nat.zero_le _⟩, rfl, rfl⟩ rfl ⟨Nat.le_of_ble_eq_true rfl, Nat.le_of_ble_eq_true rfl⟩ rfl cat_n (Nat.le_of_ble_eq_true rfl) dX8_vote_24 (fun r3 => ?_)
      refine J.istore (pc := 27) C (lv' := [(0, rv g a0), (1, .int a1), (2, .int a2), (3, .int a3), (4, .int r3)]) dX8_vote_27 (Nat.le_of_ble_eq_true rfl) rfl ?_
      refine J.iload (pc := 29) C dX8_vote_29 rfl ?_
      refine J.ldc (pc := 31) C wc_RX8_49 dX8_vote_31 ?_
      refine J.icmp_ne (pc := 33) C (tgt := 41) dX8_vote_33 rfl ?_ ?_
      · refine J.iload (pc := 41) C dX8_vote_41 rfl ?_
        exact J.iret (pc := 43) C rfl rfl ⟨Nat.le_refl _, Nat.le_refl _⟩ dX8_vote_43
      · refine J.ldc (pc := 36) C wc_RX8_120 dX8_vote_36 ?_
        refine J.goto (pc := 38) C (tgt := 43) dX8_vote_38 rfl ?_
        exact J.iret (pc := 43) C rfl rfl ⟨Nat.le_refl _, Nat.le_refl _⟩ dX8_vote_43
    · refine J.ldc (pc := 17) C wc_RX8_44 dX8_vote_17 ?_
      exact J.iret (pc := 19) C rfl rfl ⟨Nat.le_refl _, Nat.le_refl _⟩ dX8_vote_19
abbrev rm_X8_voters : Room := { frames := 6, cells := 0, slots := 0, locals := 143 }
def f_X8_voters (S : St) (a0 : Nat) (a1 : Int32) (a2 : Int32) (a3 : Int32) : Option Int32 :=
  (chk (okc S 8 a0) (bnd (f_X8_areFrames S a0 a1 a2) fun r1 =>
  (if r1 = 0 then
  (some (-10000001))
  else (bnd (f_X8_in a3 (-8) 8) fun r2 =>
  (if r2 = 0 then
  (some (-10000001))
  else (chk (okc S 8 a0) (bnd (f_X8_votersOf S a0 a1 a2 a3 1) fun r3 =>
  (some r3))))))))
set_option maxRecDepth 100000 in
set_option maxHeartbeats 4000000 in
theorem c_X8_voters (l : Launch) (g : GG) (S : St) (a0 : Nat) (a1 : Int32) (a2 : Int32) (a3 : Int32) : Ct l yX8_voters cX8_voters 4 (some .int) rm_X8_voters g aI (pK S) [rv g a0, .int a1, .int a2, .int a3] S (f_X8_voters S a0 a1 a2 a3) := by
  refine Ct.mk (cf := cw (0, 0)) (by decide +kernel) (cat_r (cat_i (cat_i (cat_i cat_n)))) (Nat.le_of_ble_eq_true rfl) rfl ?_
  intro X hXl hin C
  show J X g _ _ 0 [(0, rv g a0), (1, .int a1), (2, .int a2), (3, .int a3)] [] S (f_X8_voters S a0 a1 a2 a3)
  unfold f_X8_voters
  refine J.aload_n (pc := 0) C (x := a0) dX8_voters_0 rfl rfl ?_
  refine J.iload_n (pc := 1) C dX8_voters_1 rfl rfl ?_
  refine J.iload_n (pc := 2) C dX8_voters_2 rfl rfl ?_
  refine J.vI (pc := 3) C mv_X8_areFrames wm_RX8_130 (fun l => c_X8_areFrames l g S a0 a1 a2) ⟨⟨Nat.zero_le _, Nat.zero_le _⟩, rfl, rfl⟩ rfl ⟨Nat.le_of_ble_eq_true rfl, Nat.le_of_ble_eq_true rfl⟩ rfl cat_n (Nat.le_of_ble_eq_true rfl) dX8_voters_3 (fun r1 => ?_)
  refine J.if_eq (pc := 6) C (tgt := 31) dX8_voters_6 rfl ?_ ?_
  · refine J.ldc (pc := 31) C wc_RX8_44 dX8_voters_31 ?_
    exact J.iret (pc := 33) C rfl rfl ⟨Nat.le_refl _, Nat.le_refl _⟩ dX8_voters_33
  · refine J.iload_n (pc := 9) C dX8_voters_9 rfl rfl ?_
    refine J.bipush (pc := 10) C dX8_voters_10 kb_m8 ?_
    refine J.bipush (pc := 12) C dX8_voters_12 kb_8 ?_
    refine J.sI (pc := 14) C ms_X8_in wm_RX8_36 (fun l => c_X8_in l g S a3 (-8) 8) ⟨⟨Nat.zero_le _, Nat.zero_le _⟩, rfl, rfl⟩ rfl ⟨Nat.le_of_ble_eq_true rfl, Nat.le_of_ble_eq_true rfl⟩ rfl cat_n (Nat.le_of_ble_eq_true rfl) dX8_voters_14 (fun r2 => ?_)
    refine J.if_eq (pc := 17) C (tgt := 31) dX8_voters_17 rfl ?_ ?_
    · refine J.ldc (pc := 31) C wc_RX8_44 dX8_voters_31 ?_
      exact J.iret (pc := 33) C rfl rfl ⟨Nat.le_refl _, Nat.le_refl _⟩ dX8_voters_33
    · refine J.aload_n (pc := 20) C (x := a0) dX8_voters_20 rfl rfl ?_
      refine J.iload_n (pc := 21) C dX8_voters_21 rfl rfl ?_
      refine J.iload_n (pc := 22) C dX8_voters_22 rfl rfl ?_
      refine J.iload_n (pc := 23) C dX8_voters_23 rfl rfl ?_
      refine J.iconst (pc := 24) C dX8_voters_24 ki_1 ?_
      refine J.vI (pc := 25) C mv_X8_votersOf wm_RX8_154 (fun l => c_X8_votersOf l g S a0 a1 a2 a3 1) ⟨⟨Nat.zero_le _, Nat.zero_le _⟩, rfl, rfl⟩ rfl ⟨Nat.le_of_ble_eq_true rfl, Nat.le_of_ble_eq_true rfl⟩ rfl cat_n (Nat.le_of_ble_eq_true rfl) dX8_voters_25 (fun r3 => ?_)
      refine J.goto (pc := 28) C (tgt := 33) dX8_voters_28 rfl ?_
      exact J.iret (pc := 33) C rfl rfl ⟨Nat.le_refl _, Nat.le_refl _⟩ dX8_voters_33
abbrev rm_X8_weighed : Room := { frames := 6, cells := 0, slots := 0, locals := 140 }
def f_X8_weighed (S : St) (a0 : Nat) (a1 : Int32) (a2 : Int32) : Option (Int32 × St) :=
  (chk (okc S 8 a0) (bnd (f_X8_areFrames S a0 a1 a2) fun r1 =>
  (if r1 = 0 then
  (some ((-10000001), S))
  else (chk (okc S 8 a0) (bnd2 (f_X8_toldBy S a0 a1 a2 1) fun r2 S_3 =>
  (if r2 = (-1000000) then
  (some ((-10000004), S_3))
  else (some (r2, S_3))))))))
set_option maxRecDepth 100000 in
set_option maxHeartbeats 4000000 in
theorem c_X8_weighed (l : Launch) (g : GG) (S : St) (a0 : Nat) (a1 : Int32) (a2 : Int32) : Ct l yX8_weighed cX8_weighed 4 (some .int) rm_X8_weighed g aW pW [rv g a0, .int a1, .int a2] S (f_X8_weighed S a0 a1 a2) := by
  refine Ct.mk (cf := cw (0, 0)) (by decide +kernel) (cat_r (cat_i (cat_i cat_n))) (Nat.le_of_ble_eq_true rfl) rfl ?_
  intro X hXl hin C
  show J X g _ _ 0 [(0, rv g a0), (1, .int a1), (2, .int a2)] [] S (f_X8_weighed S a0 a1 a2)
  unfold f_X8_weighed
  refine J.aload_n (pc := 0) C (x := a0) dX8_weighed_0 rfl rfl ?_
  refine J.iload_n (pc := 1) C dX8_weighed_1 rfl rfl ?_
  refine J.iload_n (pc := 2) C dX8_weighed_2 rfl rfl ?_
  refine J.vI (pc := 3) C mv_X8_areFrames wm_RX8_130 (fun l => c_X8_areFrames l g S a0 a1 a2) ⟨⟨Nat.zero_le _, Nat.zero_le _⟩, rfl, rfl⟩ rfl ⟨Nat.le_of_ble_eq_true rfl, Nat.le_of_ble_eq_true rfl⟩ rfl cat_n (Nat.le_of_ble_eq_true rfl) dX8_weighed_3 (fun r1 => ?_)
  refine J.if_ne (pc := 6) C (tgt := 12) dX8_weighed_6 rfl ?_ ?_
  · refine J.aload_n (pc := 12) C (x := a0) dX8_weighed_12 rfl rfl ?_
    refine J.iload_n (pc := 13) C dX8_weighed_13 rfl rfl ?_
    refine J.iload_n (pc := 14) C dX8_weighed_14 rfl rfl ?_
    refine J.iconst (pc := 15) C dX8_weighed_15 ki_1 ?_
    refine J.vW (pc := 16) C mv_X8_toldBy wm_RX8_150 (fun l => c_X8_toldBy l g S a0 a1 a2 1) ⟨⟨Nat.zero_le _, Nat.zero_le _⟩, rfl, rfl⟩ rfl ⟨Nat.le_of_ble_eq_true rfl, Nat.le_of_ble_eq_true rfl⟩ rfl cat_n (Nat.le_of_ble_eq_true rfl) dX8_weighed_16 (fun r2 S_3 => ?_)
    refine J.istore_n (pc := 19) C (lv' := [(0, rv g a0), (1, .int a1), (2, .int a2), (3, .int r2)]) dX8_weighed_19 rfl (Nat.le_of_ble_eq_true rfl) rfl ?_
    refine J.iload_n (pc := 20) C dX8_weighed_20 rfl rfl ?_
    refine J.ldc (pc := 21) C wc_RX8_49 dX8_weighed_21 ?_
    refine J.icmp_ne (pc := 23) C (tgt := 31) dX8_weighed_23 rfl ?_ ?_
    · refine J.iload_n (pc := 31) C dX8_weighed_31 rfl rfl ?_
      exact J.iret (pc := 32) C rfl rfl ⟨Nat.le_refl _, Nat.le_refl _⟩ dX8_weighed_32
    · refine J.ldc (pc := 26) C wc_RX8_120 dX8_weighed_26 ?_
      refine J.goto (pc := 28) C (tgt := 32) dX8_weighed_28 rfl ?_
      exact J.iret (pc := 32) C rfl rfl ⟨Nat.le_refl _, Nat.le_refl _⟩ dX8_weighed_32
  · refine J.ldc (pc := 9) C wc_RX8_44 dX8_weighed_9 ?_
    exact J.iret (pc := 11) C rfl rfl ⟨Nat.le_refl _, Nat.le_refl _⟩ dX8_weighed_11
