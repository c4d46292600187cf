abbrev rm_X7_thing : Room := { frames := 4, cells := 0, slots := 0, locals := 88 }
def f_X7_thing (S : St) (a0 : Nat) (a1 : Int32) (a2 : Int32) (a3 : Int32) (a4 : Int32) (a5 : Int32) (a6 : Int32) : Option (Int32 × St) :=
  (bnd (f_X7_wrongOfThing a1 a2 a3 a4 a5 a6) fun r1 =>
  (if r1 < 0 then
  (chk (okc S 7 a0)
  (chk (okc S 3 (S.2.1 a0 0))
  (if (S.1 (S.2.1 a0 0) 2) < 4 then
  (chk (okc S 7 a0) (bnd (f_X7_recordState S a0) fun S_2 =>
  (chk (okc S_2 7 a0)
  (chk (okc S_2 3 (S_2.2.1 a0 0)) (bnd (f_X3_addThing S_2 (S_2.2.1 a0 0) a1 a2 a3 a4 a5 a6) fun S_3 =>
  (chk (okc S_3 7 a0)
  (chk (okc S_3 3 (S_3.2.1 a0 0))
  (some ((S_3.1 (S_3.2.1 a0 0) 2) - 1, S_3)))))))))
  else (some ((-10000003), S)))))
  else (some ((-10000001), S))))
set_option maxRecDepth 100000 in
set_option maxHeartbeats 4000000 in
theorem c_X7_thing (l : Launch) (g : GG) (S : St) (a0 : Nat) (a1 : Int32) (a2 : Int32) (a3 : Int32) (a4 : Int32) (a5 : Int32) (a6 : Int32) : Ct l yX7_thing cX7_thing 7 (some .int) rm_X7_thing g aW pW [rv g a0, .int a1, .int a2, .int a3, .int a4, .int a5, .int a6] S (f_X7_thing S a0 a1 a2 a3 a4 a5 a6) := by
  refine Ct.mk (cf := cw (0, 0)) (by decide +kernel) (cat_r (cat_i (cat_i (cat_i (cat_i (cat_i (cat_i cat_n))))))) (Nat.le_of_ble_eq_true rfl) rfl ?_
  intro X hXl hin C
  show J X g _ _ 0 [(0, rv g a0), (1, .int a1), (2, .int a2), (3, .int a3), (4, .int a4), (5, .int a5), (6, .int a6)] [] S (f_X7_thing S a0 a1 a2 a3 a4 a5 a6)
  unfold f_X7_thing
  refine J.iload_n (pc := 0) C dX7_thing_0 rfl rfl ?_
  refine J.iload_n (pc := 1) C dX7_thing_1 rfl rfl ?_
  refine J.iload_n (pc := 2) C dX7_thing_2 rfl rfl ?_
  refine J.iload (pc := 3) C dX7_thing_3 rfl ?_
  refine J.iload (pc := 5) C dX7_thing_5 rfl ?_
  refine J.iload (pc := 7) C dX7_thing_7 rfl ?_
  refine J.sI (pc := 9) C ms_X7_wrongOfThing wm_RX7_86 (fun l => c_X7_wrongOfThing l g S a1 a2 a3 a4 a5 a6) ⟨⟨Nat.zero_le _, Nat.zero_le _⟩, rfl, rfl⟩ rfl ⟨Nat.le_of_ble_eq_true rfl, Nat.le_of_ble_eq_true rfl⟩ rfl cat_n (Nat.le_of_ble_eq_true rfl) dX7_thing_9 (fun r1 => ?_)
  refine J.if_lt (pc := 12) C (tgt := 18) dX7_thing_12 rfl ?_ ?_
  · refine J.aload_n (pc := 18) C (x := a0) dX7_thing_18 rfl rfl ?_
    refine J.getR (pc := 19) C fl_RX7_12 rfl dX7_thing_19 ?_
    refine J.getI (pc := 22) C fl_RX7_90 rfl dX7_thing_22 ?_
    refine J.iconst (pc := 25) C dX7_thing_25 ki_4 ?_
    refine J.icmp_lt (pc := 26) C (tgt := 32) dX7_thing_26 rfl ?_ ?_
    · refine J.aload_n (pc := 32) C (x := a0) dX7_thing_32 rfl rfl ?_
      refine J.vU (pc := 33) C mv_X7_recordState wm_RX7_75 (fun l => c_X7_recordState l g S a0) ⟨⟨Nat.zero_le _, Nat.zero_le _⟩, rfl, rfl⟩ rfl ⟨Nat.le_of_ble_eq_true rfl, Nat.le_of_ble_eq_true rfl⟩ rfl cat_n (Nat.le_of_ble_eq_true rfl) dX7_thing_33 (fun S_2 => ?_)
      refine J.aload_n (pc := 36) C (x := a0) dX7_thing_36 rfl rfl ?_
      refine J.getR (pc := 37) C fl_RX7_12 rfl dX7_thing_37 ?_
      refine J.iload_n (pc := 40) C dX7_thing_40 rfl rfl ?_
      refine J.iload_n (pc := 41) C dX7_thing_41 rfl rfl ?_
      refine J.iload_n (pc := 42) C dX7_thing_42 rfl rfl ?_
      refine J.iload (pc := 43) C dX7_thing_43 rfl ?_
      refine J.iload (pc := 45) C dX7_thing_45 rfl ?_
      refine J.iload (pc := 47) C dX7_thing_47 rfl ?_
      refine J.vU (pc := 49) C mv_X3_addThing wm_RX7_94 (fun l => c_X3_addThing l g S_2 (S_2.2.1 a0 0) a1 a2 a3 a4 a5 a6) ⟨⟨Nat.zero_le _, Nat.zero_le _⟩, rfl, rfl⟩ rfl ⟨Nat.le_of_ble_eq_true rfl, Nat.le_of_ble_eq_true rfl⟩ rfl cat_n (Nat.le_of_ble_eq_true rfl) dX7_thing_49 (fun S_3 => ?_)
      refine J.aload_n (pc := 52) C (x := a0) dX7_thing_52 rfl rfl ?_
      refine J.getR (pc := 53) C fl_RX7_12 rfl dX7_thing_53 ?_
      refine J.getI (pc := 56) C fl_RX7_90 rfl dX7_thing_56 ?_
      refine J.iconst (pc := 59) C dX7_thing_59 ki_1 ?_
      refine J.isub (pc := 60) C dX7_thing_60 ?_
      exact J.iret (pc := 61) C rfl rfl ⟨Nat.le_refl _, Nat.le_refl _⟩ dX7_thing_61
    · refine J.ldc (pc := 29) C wc_RX7_93 dX7_thing_29 ?_
      exact J.iret (pc := 31) C rfl rfl ⟨Nat.le_refl _, Nat.le_refl _⟩ dX7_thing_31
  · refine J.ldc (pc := 15) C wc_RX7_60 dX7_thing_15 ?_
    exact J.iret (pc := 17) C rfl rfl ⟨Nat.le_refl _, Nat.le_refl _⟩ dX7_thing_17
abbrev rm_X5_numberOf : Room := { frames := 0, cells := 0, slots := 0, locals := 0 }
def f_X5_numberOf (S : St) (a0 : Nat) (a1 : Int32) : Option Int32 :=
  (if a1 = 0 then
  (chk (okc S 5 a0)
  (some (S.1 a0 0)))
  else (if a1 = 1 then
  (chk (okc S 5 a0)
  (some (S.1 a0 1)))
  else (if a1 = 2 then
  (chk (okc S 5 a0)
  (some (S.1 a0 2)))
  else (if a1 = 3 then
  (chk (okc S 5 a0)
  (some (S.1 a0 3)))
  else (if a1 = 4 then
  (chk (okc S 5 a0)
  (some (S.1 a0 4)))
  else (chk (okc S 5 a0)
  (some (S.1 a0 5))))))))
set_option maxRecDepth 100000 in
set_option maxHeartbeats 4000000 in
theorem c_X5_numberOf (l : Launch) (g : GG) (S : St) (a0 : Nat) (a1 : Int32) : Ct l yX5_numberOf cX5_numberOf 2 (some .int) rm_X5_numberOf g aI (pK S) [rv g a0, .int a1] S (f_X5_numberOf S a0 a1) := by
  refine Ct.mk (cf := cw (0, 0)) (by decide +kernel) (cat_r (cat_i cat_n)) (Nat.le_of_ble_eq_true rfl) rfl ?_
  intro X hXl hin C
  show J X g _ _ 0 [(0, rv g a0), (1, .int a1)] [] S (f_X5_numberOf S a0 a1)
  unfold f_X5_numberOf
  refine J.iload_n (pc := 0) C dX5_numberOf_0 rfl rfl ?_
  refine J.ite (fun h0 => ?_) (fun h0 => ?_)
  · refine J.tswIn (pc := 1) C (tgt := 36) 0 dX5_numberOf_1 h0 (by decide) (by decide) rfl rfl ?_
    refine J.aload_n (pc := 36) C (x := a0) dX5_numberOf_36 rfl rfl ?_
    refine J.getI (pc := 37) C fl_RX5_7 rfl dX5_numberOf_37 ?_
    exact J.iret (pc := 40) C rfl rfl ⟨Nat.le_refl _, Nat.le_refl _⟩ dX5_numberOf_40
  · refine J.ite (fun h1 => ?_) (fun h1 => ?_)
    · refine J.tswIn (pc := 1) C (tgt := 41) 1 dX5_numberOf_1 h1 (by decide) (by decide) rfl rfl ?_
      refine J.aload_n (pc := 41) C (x := a0) dX5_numberOf_41 rfl rfl ?_
      refine J.getI (pc := 42) C fl_RX5_13 rfl dX5_numberOf_42 ?_
      exact J.iret (pc := 45) C rfl rfl ⟨Nat.le_refl _, Nat.le_refl _⟩ dX5_numberOf_45
    · refine J.ite (fun h2 => ?_) (fun h2 => ?_)
      · refine J.tswIn (pc := 1) C (tgt := 46) 2 dX5_numberOf_1 h2 (by decide) (by decide) rfl rfl ?_
        refine J.aload_n (pc := 46) C (x := a0) dX5_numberOf_46 rfl rfl ?_
        refine J.getI (pc := 47) C fl_RX5_16 rfl dX5_numberOf_47 ?_
        exact J.iret (pc := 50) C rfl rfl ⟨Nat.le_refl _, Nat.le_refl _⟩ dX5_numberOf_50
      · refine J.ite (fun h3 => ?_) (fun h3 => ?_)
        · refine J.tswIn (pc := 1) C (tgt := 51) 3 dX5_numberOf_1 h3 (by decide) (by decide) rfl rfl ?_
          refine J.aload_n (pc := 51) C (x := a0) dX5_numberOf_51 rfl rfl ?_
          refine J.getI (pc := 52) C fl_RX5_19 rfl dX5_numberOf_52 ?_
          exact J.iret (pc := 55) C rfl rfl ⟨Nat.le_refl _, Nat.le_refl _⟩ dX5_numberOf_55
        · refine J.ite (fun h4 => ?_) (fun h4 => ?_)
          · refine J.tswIn (pc := 1) C (tgt := 56) 4 dX5_numberOf_1 h4 (by decide) (by decide) rfl rfl ?_
            refine J.aload_n (pc := 56) C (x := a0) dX5_numberOf_56 rfl rfl ?_
            refine J.getI (pc := 57) C fl_RX5_22 rfl dX5_numberOf_57 ?_
            exact J.iret (pc := 60) C rfl rfl ⟨Nat.le_refl _, Nat.le_refl _⟩ dX5_numberOf_60
          · refine J.tswOut (pc := 1) C (tgt := 61) dX5_numberOf_1 (by have e0 := lv_neT h0 (a := 0) rfl; have e1 := lv_neT h1 (a := 1) rfl; have e2 := lv_neT h2 (a := 2) rfl; have e3 := lv_neT h3 (a := 3) rfl; have e4 := lv_neT h4 (a := 4) rfl; omega) rfl ?_
            refine J.aload_n (pc := 61) C (x := a0) dX5_numberOf_61 rfl rfl ?_
            refine J.getI (pc := 62) C fl_RX5_25 rfl dX5_numberOf_62 ?_
            exact J.iret (pc := 65) C rfl rfl ⟨Nat.le_refl _, Nat.le_refl _⟩ dX5_numberOf_65
abbrev rm_X7_thingOf : Room := { frames := 1, cells := 0, slots := 0, locals := 22 }
def f_X7_thingOf (S : St) (a0 : Nat) (a1 : Int32) (a2 : Int32) : Option Int32 :=
  (chk (okc S 7 a0)
  (chk (okc S 3 (S.2.1 a0 0)) (bnd (f_X3_thingAt S (S.2.1 a0 0) a1) fun r1 =>
  (if r1 = 0 then
  (some (-10000001))
  else (bnd (f_X7_isWithin a2 0 6) fun r2 =>
  (if r2 = 0 then
  (some (-10000001))
  else (if a2 = 6 then
  (chk (okc S 7 a0)
  (chk (okc S 3 (S.2.1 a0 0))
  (chk (okc S 5 r1) (bnd (f_X5_positionAt S r1 (S.1 (S.2.1 a0 0) 6)) fun r4 =>
  (some r4)))))
  else (chk (okc S 5 r1) (bnd (f_X5_numberOf S r1 a2) fun r3 =>
  (some r3))))))))))
set_option maxRecDepth 100000 in
set_option maxHeartbeats 4000000 in
theorem c_X7_thingOf (l : Launch) (g : GG) (S : St) (a0 : Nat) (a1 : Int32) (a2 : Int32) : Ct l yX7_thingOf cX7_thingOf 4 (some .int) rm_X7_thingOf g aI (pK S) [rv g a0, .int a1, .int a2] S (f_X7_thingOf S a0 a1 a2) := by
  refine Ct.mk (cf := cw (0, 0)) (by decide +kernel) (cat_r (cat_i (cat_i cat_n))) (Nat.le_of_ble_eq_true rfl) rfl ?_
  intro X hXl hin C
  show J X g _ _ 0 [(0, rv g a0), (1, .int a1), (2, .int a2)] [] S (f_X7_thingOf S a0 a1 a2)
  unfold f_X7_thingOf
  refine J.aload_n (pc := 0) C (x := a0) dX7_thingOf_0 rfl rfl ?_
  refine J.getR (pc := 1) C fl_RX7_12 rfl dX7_thingOf_1 ?_
  refine J.iload_n (pc := 4) C dX7_thingOf_4 rfl rfl ?_
  refine J.vR (pc := 5) C mv_X3_thingAt wm_RX7_98 (fun l => c_X3_thingAt l g S (S.2.1 a0 0) a1) ⟨⟨Nat.zero_le _, Nat.zero_le _⟩, rfl, rfl⟩ rfl ⟨Nat.le_of_ble_eq_true rfl, Nat.le_of_ble_eq_true rfl⟩ rfl cat_n (Nat.le_of_ble_eq_true rfl) dX7_thingOf_5 (fun r1 => ?_)
  refine J.astore_n (pc := 8) C (lv' := [(0, rv g a0), (1, .int a1), (2, .int a2), (3, rv g r1)]) dX7_thingOf_8 rfl (Nat.le_of_ble_eq_true rfl) rfl ?_
  refine J.aload_n (pc := 9) C (x := r1) dX7_thingOf_9 rfl rfl ?_
  refine J.ifnull (pc := 10) C (tgt := 23) dX7_thingOf_10 rfl ?_ ?_
  · refine J.ldc (pc := 23) C wc_RX7_60 dX7_thingOf_23 ?_
    exact J.iret (pc := 25) C rfl rfl ⟨Nat.le_refl _, Nat.le_refl _⟩ dX7_thingOf_25
  · refine J.iload_n (pc := 13) C dX7_thingOf_13 rfl rfl ?_
    refine J.iconst (pc := 14) C dX7_thingOf_14 ki_0 ?_
    refine J.bipush (pc := 15) C dX7_thingOf_15 kb_6 ?_
    refine J.sI (pc := 17) C ms_X7_isWithin wm_RX7_56 (fun l => c_X7_isWithin l g S a2 0 6) ⟨⟨Nat.zero_le _, Nat.zero_le _⟩, rfl, rfl⟩ rfl ⟨Nat.le_of_ble_eq_true rfl, Nat.le_of_ble_eq_true rfl⟩ rfl cat_n (Nat.le_of_ble_eq_true rfl) dX7_thingOf_17 (fun r2 => ?_)
    refine J.if_ne (pc := 20) C (tgt := 26) dX7_thingOf_20 rfl ?_ ?_
    · refine J.iload_n (pc := 26) C dX7_thingOf_26 rfl rfl ?_
      refine J.bipush (pc := 27) C dX7_thingOf_27 kb_6 ?_
      refine J.icmp_ne (pc := 29) C (tgt := 46) dX7_thingOf_29 rfl ?_ ?_
      · refine J.aload_n (pc := 46) C (x := r1) dX7_thingOf_46 rfl rfl ?_
        refine J.iload_n (pc := 47) C dX7_thingOf_47 rfl rfl ?_
        refine J.vI (pc := 48) C mv_X5_numberOf wm_RX7_116 (fun l => c_X5_numberOf l g S r1 a2) ⟨⟨Nat.zero_le _, Nat.zero_le _⟩, rfl, rfl⟩ rfl ⟨Nat.le_of_ble_eq_true rfl, Nat.le_of_ble_eq_true rfl⟩ rfl cat_n (Nat.le_of_ble_eq_true rfl) dX7_thingOf_48 (fun r3 => ?_)
        exact J.iret (pc := 51) C rfl rfl ⟨Nat.le_refl _, Nat.le_refl _⟩ dX7_thingOf_51
      · refine J.aload_n (pc := 32) C (x := r1) dX7_thingOf_32 rfl rfl ?_
        refine J.aload_n (pc := 33) C (x := a0) dX7_thingOf_33 rfl rfl ?_
        refine J.getR (pc := 34) C fl_RX7_12 rfl dX7_thingOf_34 ?_
        refine J.getI (pc := 37) C fl_RX7_107 rfl dX7_thingOf_37 ?_
        refine J.vI (pc := 40) C mv_X5_positionAt wm_RX7_113 (fun l => c_X5_positionAt l g S r1 (S.1 (S.2.1 a0 0) 6)) ⟨⟨Nat.zero_le _, Nat.zero_le _⟩, rfl, rfl⟩ rfl ⟨Nat.le_of_ble_eq_true rfl, Nat.le_of_ble_eq_true rfl⟩ rfl cat_n (Nat.le_of_ble_eq_true rfl) dX7_thingOf_40 (fun r4 => ?_)
        refine J.goto (pc := 43) C (tgt := 51) dX7_thingOf_43 rfl ?_
        exact J.iret (pc := 51) C rfl rfl ⟨Nat.le_refl _, Nat.le_refl _⟩ dX7_thingOf_51
    · refine J.ldc (pc := 23) C wc_RX7_60 dX7_thingOf_23 ?_
      exact J.iret (pc := 25) C rfl rfl ⟨Nat.le_refl _, Nat.le_refl _⟩ dX7_thingOf_25
abbrev rm_X5_changeSpeed : Room := { frames := 1, cells := 0, slots := 0, locals := 21 }
def f_X5_changeSpeed (S : St) (a0 : Nat) (a1 : Int32) (a2 : Int32) : Option St :=
  (chk (okc S 5 a0) (bnd (f_X5_positionAt S a0 a2) fun r1 =>
  (chk (okc S 5 a0) (vlt (upI S a0 2 (r1 - (a1 * a2))) fun S_2 =>
  (chk (okc S_2 5 a0) (vlt (upI S_2 a0 3 a1) fun S_3 =>
  (some S_3)))))))
set_option maxRecDepth 100000 in
set_option maxHeartbeats 4000000 in
theorem c_X5_changeSpeed (l : Launch) (g : GG) (S : St) (a0 : Nat) (a1 : Int32) (a2 : Int32) : Ct l yX5_changeSpeed cX5_changeSpeed 3 none rm_X5_changeSpeed g aU pU [rv g a0, .int a1, .int a2] S (f_X5_changeSpeed S a0 a1 a2) := by
  refine Ct.mk (cf := cw (0, 0)) (by decide +kernel) (cat_r (cat_i (cat_i cat_n))) (Nat.le_of_ble_eq_true rfl) rfl ?_
  intro X hXl hin C
  show J X g _ _ 0 [(0, rv g a0), (1, .int a1), (2, .int a2)] [] S (f_X5_changeSpeed S a0 a1 a2)
  unfold f_X5_changeSpeed
  refine J.aload_n (pc := 0) C (x := a0) dX5_changeSpeed_0 rfl rfl ?_
  refine J.aload_n (pc := 1) C (x := a0) dX5_changeSpeed_1 rfl rfl ?_
  refine J.iload_n (pc := 2) C dX5_changeSpeed_2 rfl rfl ?_
  refine J.vI (pc := 3) C mv_X5_positionAt wm_RX5_28 (fun l => c_X5_positionAt l g S a0 a2) ⟨⟨Nat.zero_le _, Nat.zero_le _⟩, rfl, rfl⟩ rfl ⟨Nat.le_of_ble_eq_true rfl, Nat.le_of_ble_eq_true rfl⟩ rfl (cat_r cat_n) (Nat.le_of_ble_eq_true rfl) dX5_changeSpeed_3 (fun r1 => ?_)
  refine J.iload_n (pc := 6) C dX5_changeSpeed_6 rfl rfl ?_
  refine J.iload_n (pc := 7) C dX5_changeSpeed_7 rfl rfl ?_
  refine J.imul (pc := 8) C dX5_changeSpeed_8 ?_
  refine J.isub (pc := 9) C dX5_changeSpeed_9 ?_
  refine J.putIs (pc := 10) C fl_RX5_16 rfl (fun r h => by cases h; rfl) rfl rfl dX5_changeSpeed_10 (fun S_2 => ?_)
  refine J.aload_n (pc := 13) C (x := a0) dX5_changeSpeed_13 rfl rfl ?_
  refine J.iload_n (pc := 14) C dX5_changeSpeed_14 rfl rfl ?_
  refine J.putIs (pc := 15) C fl_RX5_19 rfl (fun r h => by cases h; rfl) rfl rfl dX5_changeSpeed_15 (fun S_3 => ?_)
  exact J.vret (pc := 18) C rfl rfl ⟨Nat.le_refl _, Nat.le_refl _⟩ dX5_changeSpeed_18
abbrev rm_X7_turn : Room := { frames := 4, cells := 0, slots := 0, locals := 88 }
def f_X7_turn (S : St) (a0 : Nat) (a1 : Int32) (a2 : Int32) : Option (Int32 × St) :=
  (chk (okc S 7 a0)
  (chk (okc S 3 (S.2.1 a0 0)) (bnd (f_X3_thingAt S (S.2.1 a0 0) a1) fun r1 =>
  (if r1 = 0 then
  (some ((-10000001), S))
  else (bnd (f_X7_isWithin a2 (-200) 200) fun r2 =>
  (if r2 = 0 then
  (some ((-10000001), S))
  else (chk (okc S 7 a0) (bnd (f_X7_recordState S a0) fun S_3 =>
  (chk (okc S_3 5 r1)
  (chk (okc S_3 7 a0)
  (chk (okc S_3 3 (S_3.2.1 a0 0))
  (chk (okc S_3 5 r1) (bnd (f_X5_changeSpeed S_3 r1 a2 (S_3.1 (S_3.2.1 a0 0) 6)) fun S_4 =>
  (some (S_3.1 r1 3, S_4)))))))))))))))
set_option maxRecDepth 100000 in
set_option maxHeartbeats 4000000 in
theorem c_X7_turn (l : Launch) (g : GG) (S : St) (a0 : Nat) (a1 : Int32) (a2 : Int32) : Ct l yX7_turn cX7_turn 5 (some .int) rm_X7_turn g aW pW [rv g a0, .int a1, .int a2] S (f_X7_turn S a0 a1 a2) := by
  refine Ct.mk (cf := cw (0, 0)) (by decide +kernel) (cat_r (cat_i (cat_i cat_n))) (Nat.le_of_ble_eq_true rfl) rfl ?_
  intro X hXl hin C
  show J X g _ _ 0 [(0, rv g a0), (1, .int a1), (2, .int a2)] [] S (f_X7_turn S a0 a1 a2)
  unfold f_X7_turn
  refine J.aload_n (pc := 0) C (x := a0) dX7_turn_0 rfl rfl ?_
  refine J.getR (pc := 1) C fl_RX7_12 rfl dX7_turn_1 ?_
  refine J.iload_n (pc := 4) C dX7_turn_4 rfl rfl ?_
  refine J.vR (pc := 5) C mv_X3_thingAt wm_RX7_98 (fun l => c_X3_thingAt l g S (S.2.1 a0 0) a1) ⟨⟨Nat.zero_le _, Nat.zero_le _⟩, rfl, rfl⟩ rfl ⟨Nat.le_of_ble_eq_true rfl, Nat.le_of_ble_eq_true rfl⟩ rfl cat_n (Nat.le_of_ble_eq_true rfl) dX7_turn_5 (fun r1 => ?_)
  refine J.astore_n (pc := 8) C (lv' := [(0, rv g a0), (1, .int a1), (2, .int a2), (3, rv g r1)]) dX7_turn_8 rfl (Nat.le_of_ble_eq_true rfl) rfl ?_
  refine J.aload_n (pc := 9) C (x := r1) dX7_turn_9 rfl rfl ?_
  refine J.ifnull (pc := 10) C (tgt := 26) dX7_turn_10 rfl ?_ ?_
  · refine J.ldc (pc := 26) C wc_RX7_60 dX7_turn_26 ?_
    exact J.iret (pc := 28) C rfl rfl ⟨Nat.le_refl _, Nat.le_refl _⟩ dX7_turn_28
  · refine J.iload_n (pc := 13) C dX7_turn_13 rfl rfl ?_
    refine J.sipush (pc := 14) C dX7_turn_14 ks_m200 ?_
    refine J.sipush (pc := 17) C dX7_turn_17 ks_200 ?_
    refine J.sI (pc := 20) C ms_X7_isWithin wm_RX7_56 (fun l => c_X7_isWithin l g S a2 (-200) 200) ⟨⟨Nat.zero_le _, Nat.zero_le _⟩, rfl, rfl⟩ rfl ⟨Nat.le_of_ble_eq_true rfl, Nat.le_of_ble_eq_true rfl⟩ rfl cat_n (Nat.le_of_ble_eq_true rfl) dX7_turn_20 (fun r2 => ?_)
    refine J.if_ne (pc := 23) C (tgt := 29) dX7_turn_23 rfl ?_ ?_
    · refine J.aload_n (pc := 29) C (x := a0) dX7_turn_29 rfl rfl ?_
      refine J.vU (pc := 30) C mv_X7_recordState wm_RX7_75 (fun l => c_X7_recordState l g S a0) ⟨⟨Nat.zero_le _, Nat.zero_le _⟩, rfl, rfl⟩ rfl ⟨Nat.le_of_ble_eq_true rfl, Nat.le_of_ble_eq_true rfl⟩ rfl cat_n (Nat.le_of_ble_eq_true rfl) dX7_turn_30 (fun S_3 => ?_)
      refine J.aload_n (pc := 33) C (x := r1) dX7_turn_33 rfl rfl ?_
      refine J.getI (pc := 34) C fl_RX7_102 rfl dX7_turn_34 ?_
      refine J.istore (pc := 37) C (lv' := [(0, rv g a0), (1, .int a1), (2, .int a2), (3, rv g r1), (4, .int (S_3.1 r1 3))]) dX7_turn_37 (Nat.le_of_ble_eq_true rfl) rfl ?_
      refine J.aload_n (pc := 39) C (x := r1) dX7_turn_39 rfl rfl ?_
      refine J.iload_n (pc := 40) C dX7_turn_40 rfl rfl ?_
      refine J.aload_n (pc := 41) C (x := a0) dX7_turn_41 rfl rfl ?_
      refine J.getR (pc := 42) C fl_RX7_12 rfl dX7_turn_42 ?_
      refine J.getI (pc := 45) C fl_RX7_107 rfl dX7_turn_45 ?_
      refine J.vU (pc := 48) C mv_X5_changeSpeed wm_RX7_110 (fun l => c_X5_changeSpeed l g S_3 r1 a2 (S_3.1 (S_3.2.1 a0 0) 6)) ⟨⟨Nat.zero_le _, Nat.zero_le _⟩, rfl, rfl⟩ rfl ⟨Nat.le_of_ble_eq_true rfl, Nat.le_of_ble_eq_true rfl⟩ rfl cat_n (Nat.le_of_ble_eq_true rfl) dX7_turn_48 (fun S_4 => ?_)
      refine J.iload (pc := 51) C dX7_turn_51 rfl ?_
      exact J.iret (pc := 53) C rfl rfl ⟨Nat.le_refl _, Nat.le_refl _⟩ dX7_turn_53
    · refine J.ldc (pc := 26) C wc_RX7_60 dX7_turn_26 ?_
      exact J.iret (pc := 28) C rfl rfl ⟨Nat.le_refl _, Nat.le_refl _⟩ dX7_turn_28
abbrev rm_X4_append : Room := { frames := 0, cells := 0, slots := 0, locals := 0 }
def f_X4_append (S : St) (a0 : Nat) (a1 : Int32) : Option (Int32 × St) :=
  (chk (okc S 4 a0)
  (if (S.1 a0 1) < 0 then
  (some (0, S))
  else (chk (okc S 4 a0)
  (chk (okc S 4 a0)
  (chk (okc S 11 (S.2.1 a0 0))
  (if (S.1 a0 1) < (Int32.ofNat (ln (S.2.1 a0 0))) then
  (chk (okc S 4 a0)
  (chk (okc S 4 a0)
  (chk (isC a1)
  (chk (inw S 11 (S.2.1 a0 0) (S.1 a0 1)) (vlt (upI S (S.2.1 a0 0) (S.1 a0 1).toNatClampNeg a1) fun S_1 =>
  (chk (okc S_1 4 a0)
  (chk (okc S_1 4 a0) (vlt (upI S_1 a0 1 ((S_1.1 a0 1) + 1)) fun S_2 =>
  (some (1, S_2))))))))))
  else (some (0, S))))))))
set_option maxRecDepth 100000 in
set_option maxHeartbeats 4000000 in
theorem c_X4_append (l : Launch) (g : GG) (S : St) (a0 : Nat) (a1 : Int32) : Ct l yX4_append cX4_append 2 (some .boolean) rm_X4_append g aW pW [rv g a0, .int a1] S (f_X4_append S a0 a1) := by
  refine Ct.mk (cf := cw (0, 0)) (by decide +kernel) (cat_r (cat_i cat_n)) (Nat.le_of_ble_eq_true rfl) rfl ?_
  intro X hXl hin C
  show J X g _ _ 0 [(0, rv g a0), (1, .int a1)] [] S (f_X4_append S a0 a1)
  unfold f_X4_append
  refine J.aload_n (pc := 0) C (x := a0) dX4_append_0 rfl rfl ?_
  refine J.getI (pc := 1) C fl_RX4_22 rfl dX4_append_1 ?_
  refine J.if_lt (pc := 4) C (tgt := 19) dX4_append_4 rfl ?_ ?_
  · refine J.iconst (pc := 19) C dX4_append_19 ki_0 ?_
    exact J.zret (pc := 20) C rfl rfl rfl ⟨Nat.le_refl _, Nat.le_refl _⟩ dX4_append_20
  · refine J.aload_n (pc := 7) C (x := a0) dX4_append_7 rfl rfl ?_
    refine J.getI (pc := 8) C fl_RX4_22 rfl dX4_append_8 ?_
    refine J.aload_n (pc := 11) C (x := a0) dX4_append_11 rfl rfl ?_
    refine J.getR (pc := 12) C fl_RX4_9 rfl dX4_append_12 ?_
    refine J.alen (pc := 15) C 11 (by decide) dX4_append_15 ?_
    refine J.icmp_lt (pc := 16) C (tgt := 21) dX4_append_16 rfl ?_ ?_
    · refine J.aload_n (pc := 21) C (x := a0) dX4_append_21 rfl rfl ?_
      refine J.getR (pc := 22) C fl_RX4_9 rfl dX4_append_22 ?_
      refine J.aload_n (pc := 25) C (x := a0) dX4_append_25 rfl rfl ?_
      refine J.getI (pc := 26) C fl_RX4_22 rfl dX4_append_26 ?_
      refine J.iload_n (pc := 29) C dX4_append_29 rfl rfl ?_
      refine J.ck (fun hz => ?_)
      refine J.casts (pc := 30) C (nar_c hz) dX4_append_30 (fun S_1 => ?_)
      refine J.aload_n (pc := 31) C (x := a0) dX4_append_31 rfl rfl ?_
      refine J.dup (pc := 32) C dX4_append_32 (rv_cat g _) ?_
      refine J.getI (pc := 33) C fl_RX4_22 rfl dX4_append_33 ?_
      refine J.iconst (pc := 36) C dX4_append_36 ki_1 ?_
      refine J.iadd (pc := 37) C dX4_append_37 ?_
      refine J.putIs (pc := 38) C fl_RX4_22 rfl (fun r h => by cases h; rfl) rfl rfl dX4_append_38 (fun S_2 => ?_)
      refine J.iconst (pc := 41) C dX4_append_41 ki_1 ?_
      exact J.zret (pc := 42) C rfl rfl rfl ⟨Nat.le_refl _, Nat.le_refl _⟩ dX4_append_42
    · refine J.iconst (pc := 19) C dX4_append_19 ki_0 ?_
      exact J.zret (pc := 20) C rfl rfl rfl ⟨Nat.le_refl _, Nat.le_refl _⟩ dX4_append_20
abbrev rm_X7_type : Room := { frames := 1, cells := 0, slots := 0, locals := 22 }
def f_X7_type (S : St) (a0 : Nat) (a1 : Int32) : Option (Int32 × St) :=
  (bnd (f_X7_isWithin a1 32 126) fun r1 =>
  (if r1 = 0 then
  (some ((-10000001), S))
  else (chk (okc S 7 a0)
  (chk (okc S 4 (S.2.1 a0 3)) (bnd2 (f_X4_append S (S.2.1 a0 3) ((a1.toUInt32 % 65536).toInt32)) fun r2 S_3 =>
  (if r2 = 0 then
  (some ((-10000003), S_3))
  else (chk (okc S_3 7 a0)
  (chk (okc S_3 4 (S_3.2.1 a0 3))
  (some (S_3.1 (S_3.2.1 a0 3) 1, S_3))))))))))
set_option maxRecDepth 100000 in
set_option maxHeartbeats 4000000 in
theorem c_X7_type (l : Launch) (g : GG) (S : St) (a0 : Nat) (a1 : Int32) : Ct l yX7_type cX7_type 2 (some .int) rm_X7_type g aW pW [rv g a0, .int a1] S (f_X7_type S a0 a1) := by
  refine Ct.mk (cf := cw (0, 0)) (by decide +kernel) (cat_r (cat_i cat_n)) (Nat.le_of_ble_eq_true rfl) rfl ?_
  intro X hXl hin C
  show J X g _ _ 0 [(0, rv g a0), (1, .int a1)] [] S (f_X7_type S a0 a1)
  unfold f_X7_type
  refine J.iload_n (pc := 0) C dX7_type_0 rfl rfl ?_
  refine J.bipush (pc := 1) C dX7_type_1 kb_32 ?_
  refine J.bipush (pc := 3) C dX7_type_3 kb_126 ?_
  refine J.sI (pc := 5) C ms_X7_isWithin wm_RX7_56 (fun l => c_X7_isWithin l g S a1 32 126) ⟨⟨Nat.zero_le _, Nat.zero_le _⟩, rfl, rfl⟩ rfl ⟨Nat.le_of_ble_eq_true rfl, Nat.le_of_ble_eq_true rfl⟩ rfl cat_n (Nat.le_of_ble_eq_true rfl) dX7_type_5 (fun r1 => ?_)
  refine J.if_ne (pc := 8) C (tgt := 14) dX7_type_8 rfl ?_ ?_
  · refine J.aload_n (pc := 14) C (x := a0) dX7_type_14 rfl rfl ?_
    refine J.getR (pc := 15) C fl_RX7_27 rfl dX7_type_15 ?_
    refine J.iload_n (pc := 18) C dX7_type_18 rfl rfl ?_
    refine J.i2c (pc := 19) C dX7_type_19 ?_
    refine J.vW (pc := 20) C mv_X4_append wm_RX7_260 (fun l => c_X4_append l g S (S.2.1 a0 3) ((a1.toUInt32 % 65536).toInt32)) ⟨⟨Nat.zero_le _, Nat.zero_le _⟩, rfl, rfl⟩ rfl ⟨Nat.le_of_ble_eq_true rfl, Nat.le_of_ble_eq_true rfl⟩ rfl cat_n (Nat.le_of_ble_eq_true rfl) dX7_type_20 (fun r2 S_3 => ?_)
    refine J.if_eq (pc := 23) C (tgt := 36) dX7_type_23 rfl ?_ ?_
    · refine J.ldc (pc := 36) C wc_RX7_93 dX7_type_36 ?_
      exact J.iret (pc := 38) C rfl rfl ⟨Nat.le_refl _, Nat.le_refl _⟩ dX7_type_38
    · refine J.aload_n (pc := 26) C (x := a0) dX7_type_26 rfl rfl ?_
      refine J.getR (pc := 27) C fl_RX7_27 rfl dX7_type_27 ?_
      refine J.getI (pc := 30) C fl_RX7_254 rfl dX7_type_30 ?_
      refine J.goto (pc := 33) C (tgt := 38) dX7_type_33 rfl ?_
      exact J.iret (pc := 38) C rfl rfl ⟨Nat.le_refl _, Nat.le_refl _⟩ dX7_type_38
  · refine J.ldc (pc := 11) C wc_RX7_60 dX7_type_11 ?_
    exact J.iret (pc := 13) C rfl rfl ⟨Nat.le_refl _, Nat.le_refl _⟩ dX7_type_13
abbrev rm_X7_undo : Room := { frames := 3, cells := 0, slots := 0, locals := 68 }
def f_X7_undo (S : St) (a0 : Nat) : Option (Int32 × St) :=
  (chk (okc S 7 a0)
  (if ((S.1 a0 2) - 1) < 0 then
  (some ((-10000002), S))
  else (chk (okc S 7 a0)
  (chk (okc S 13 (S.2.1 a0 1))
  (if ((S.1 a0 2) - 1) < (Int32.ofNat (ln (S.2.1 a0 1))) then
  (chk (okc S 7 a0)
  (chk (okc S 7 a0)
  (chk (ina S 13 (S.2.1 a0 1) ((S.1 a0 2) - 1))
  (chk (okc S 3 (S.2.1 a0 0)) (bnd (f_X3_become S (S.2.1 a0 0) (S.2.1 (S.2.1 a0 1) ((S.1 a0 2) - 1).toNatClampNeg)) fun S_1 =>
  (chk (okc S_1 7 a0) (vlt (upI S_1 a0 2 ((S.1 a0 2) - 1)) fun S_2 =>
  (chk (okc S_2 7 a0)
  (some (S_2.1 a0 2, S_2))))))))))
  else (some ((-10000002), S)))))))
set_option maxRecDepth 100000 in
set_option maxHeartbeats 4000000 in
theorem c_X7_undo (l : Launch) (g : GG) (S : St) (a0 : Nat) : Ct l yX7_undo cX7_undo 2 (some .int) rm_X7_undo g aW pW [rv g a0] S (f_X7_undo S a0) := by
  refine Ct.mk (cf := cw (0, 0)) (by decide +kernel) (cat_r cat_n) (Nat.le_of_ble_eq_true rfl) rfl ?_
  intro X hXl hin C
  show J X g _ _ 0 [(0, rv g a0)] [] S (f_X7_undo S a0)
  unfold f_X7_undo
  refine J.aload_n (pc := 0) C (x := a0) dX7_undo_0 rfl rfl ?_
  refine J.getI (pc := 1) C fl_RX7_20 rfl dX7_undo_1 ?_
  refine J.iconst (pc := 4) C dX7_undo_4 ki_1 ?_
  refine J.isub (pc := 5) C dX7_undo_5 ?_
  refine J.istore_n (pc := 6) C (lv' := [(0, rv g a0), (1, .int ((S.1 a0 2) - 1))]) dX7_undo_6 rfl (Nat.le_of_ble_eq_true rfl) rfl ?_
  refine J.iload_n (pc := 7) C dX7_undo_7 rfl rfl ?_
  refine J.if_lt (pc := 8) C (tgt := 20) dX7_undo_8 rfl ?_ ?_
  · refine J.ldc (pc := 20) C wc_RX7_74 dX7_undo_20 ?_
    exact J.iret (pc := 22) C rfl rfl ⟨Nat.le_refl _, Nat.le_refl _⟩ dX7_undo_22
  · refine J.iload_n (pc := 11) C dX7_undo_11 rfl rfl ?_
    refine J.aload_n (pc := 12) C (x := a0) dX7_undo_12 rfl rfl ?_
    refine J.getR (pc := 13) C fl_RX7_16 rfl dX7_undo_13 ?_
    refine J.alen (pc := 16) C 13 (by decide) dX7_undo_16 ?_
    refine J.icmp_lt (pc := 17) C (tgt := 23) dX7_undo_17 rfl ?_ ?_
    · refine J.aload_n (pc := 23) C (x := a0) dX7_undo_23 rfl rfl ?_
      refine J.getR (pc := 24) C fl_RX7_12 rfl dX7_undo_24 ?_
      refine J.aload_n (pc := 27) C (x := a0) dX7_undo_27 rfl rfl ?_
      refine J.getR (pc := 28) C fl_RX7_16 rfl dX7_undo_28 ?_
      refine J.iload_n (pc := 31) C dX7_undo_31 rfl rfl ?_
      refine J.aald (pc := 32) C 13 (by decide) (fun _ => rfl) rfl dX7_undo_32 ?_
      refine J.vU (pc := 33) C mv_X3_become wm_RX7_257 (fun l => c_X3_become l g S (S.2.1 a0 0) (S.2.1 (S.2.1 a0 1) ((S.1 a0 2) - 1).toNatClampNeg)) ⟨⟨Nat.zero_le _, Nat.zero_le _⟩, rfl, rfl⟩ rfl ⟨Nat.le_of_ble_eq_true rfl, Nat.le_of_ble_eq_true rfl⟩ rfl cat_n (Nat.le_of_ble_eq_true rfl) dX7_undo_33 (fun S_1 => ?_)
      refine J.aload_n (pc := 36) C (x := a0) dX7_undo_36 rfl rfl ?_
      refine J.iload_n (pc := 37) C dX7_undo_37 rfl rfl ?_
      refine J.putIs (pc := 38) C fl_RX7_20 rfl (fun r h => by cases h; rfl) rfl rfl dX7_undo_38 (fun S_2 => ?_)
      refine J.aload_n (pc := 41) C (x := a0) dX7_undo_41 rfl rfl ?_
      refine J.getI (pc := 42) C fl_RX7_20 rfl dX7_undo_42 ?_
      exact J.iret (pc := 45) C rfl rfl ⟨Nat.le_refl _, Nat.le_refl _⟩ dX7_undo_45
    · refine J.ldc (pc := 20) C wc_RX7_74 dX7_undo_20 ?_
      exact J.iret (pc := 22) C rfl rfl ⟨Nat.le_refl _, Nat.le_refl _⟩ dX7_undo_22
abbrev rm_X6_voteOf : Room := { frames := 0, cells := 0, slots := 0, locals := 0 }
def f_X6_voteOf (S : St) (a0 : Nat) (a1 : Int32) : Option Int32 :=
  (if a1 < 0 then
  (some (-10000004))
  else (chk (okc S 6 a0)
  (chk (okc S 10 (S.2.1 a0 2))
  (if (Int32.ofNat (ln (S.2.1 a0 2))) ≤ a1 then
  (some (-10000004))
  else (chk (okc S 6 a0)
  (chk (ina S 10 (S.2.1 a0 2) a1)
  (some (S.1 (S.2.1 a0 2) a1.toNatClampNeg))))))))
set_option maxRecDepth 100000 in
set_option maxHeartbeats 4000000 in
theorem c_X6_voteOf (l : Launch) (g : GG) (S : St) (a0 : Nat) (a1 : Int32) : Ct l yX6_voteOf cX6_voteOf 2 (some .int) rm_X6_voteOf g aI (pK S) [rv g a0, .int a1] S (f_X6_voteOf S a0 a1) := by
  refine Ct.mk (cf := cw (0, 0)) (by decide +kernel) (cat_r (cat_i cat_n)) (Nat.le_of_ble_eq_true rfl) rfl ?_
  intro X hXl hin C
  show J X g _ _ 0 [(0, rv g a0), (1, .int a1)] [] S (f_X6_voteOf S a0 a1)
  unfold f_X6_voteOf
  refine J.iload_n (pc := 0) C dX6_voteOf_0 rfl rfl ?_
  refine J.if_lt (pc := 1) C (tgt := 22) dX6_voteOf_1 rfl ?_ ?_
  · refine J.ldc (pc := 22) C wc_RX6_54 dX6_voteOf_22 ?_
    exact J.iret (pc := 24) C rfl rfl ⟨Nat.le_refl _, Nat.le_refl _⟩ dX6_voteOf_24
  · refine J.iload_n (pc := 4) C dX6_voteOf_4 rfl rfl ?_
    refine J.aload_n (pc := 5) C (x := a0) dX6_voteOf_5 rfl rfl ?_
    refine J.getR (pc := 6) C fl_RX6_18 rfl dX6_voteOf_6 ?_
    refine J.alen (pc := 9) C 10 (by decide) dX6_voteOf_9 ?_
    refine J.icmp_ge (pc := 10) C (tgt := 22) dX6_voteOf_10 rfl ?_ ?_
    · refine J.ldc (pc := 22) C wc_RX6_54 dX6_voteOf_22 ?_
      exact J.iret (pc := 24) C rfl rfl ⟨Nat.le_refl _, Nat.le_refl _⟩ dX6_voteOf_24
    · refine J.aload_n (pc := 13) C (x := a0) dX6_voteOf_13 rfl rfl ?_
      refine J.getR (pc := 14) C fl_RX6_18 rfl dX6_voteOf_14 ?_
      refine J.iload_n (pc := 17) C dX6_voteOf_17 rfl rfl ?_
      refine J.iald (pc := 18) C dX6_voteOf_18 ?_
      refine J.goto (pc := 19) C (tgt := 24) dX6_voteOf_19 rfl ?_
      exact J.iret (pc := 24) C rfl rfl ⟨Nat.le_refl _, Nat.le_refl _⟩ dX6_voteOf_24
abbrev rm_X7_vote : Room := { frames := 6, cells := 0, slots := 0, locals := 138 }
def f_X7_vote (S : St) (a0 : Nat) (a1 : Int32) (a2 : Int32) (a3 : Int32) : Option (Int32 × St) :=
  (chk (okc S 7 a0) (bnd (f_X7_isPair S a0 a1 a2) fun r1 =>
  (if r1 = 0 then
  (some ((-10000001), S))
  else (chk (okc S 7 a0) (bnd (f_X7_isPlace S a0 a3 0) fun r2 =>
  (if r2 = 0 then
  (some ((-10000001), S))
  else (chk (okc S 7 a0) (bnd (f_X7_voteOn S a0 a1 a2) fun S_3 =>
  (chk (okc S_3 7 a0)
  (chk (okc S_3 6 (S_3.2.1 a0 4)) (bnd (f_X6_voteOf S_3 (S_3.2.1 a0 4) a3) fun r4 =>
  (some (r4, S_3)))))))))))))
set_option maxRecDepth 100000 in
set_option maxHeartbeats 4000000 in
theorem c_X7_vote (l : Launch) (g : GG) (S : St) (a0 : Nat) (a1 : Int32) (a2 : Int32) (a3 : Int32) : Ct l yX7_vote cX7_vote 4 (some .int) rm_X7_vote g aW pW [rv g a0, .int a1, .int a2, .int a3] S (f_X7_vote S a0 a1 a2 a3) := by
  refine Ct.mk (cf := cw (0, 0)) (by decide +kernel) (cat_r (cat_i (cat_i (cat_i cat_n)))) (Nat.le_of_ble_eq_true rfl) rfl ?_
  intro X hXl hin C
  show J X g _ _ 0 [(0, rv g a0), (1, .int a1), (2, .int a2), (3, .int a3)] [] S (f_X7_vote S a0 a1 a2 a3)
  unfold f_X7_vote
  refine J.aload_n (pc := 0) C (x := a0) dX7_vote_0 rfl rfl ?_
  refine J.iload_n (pc := 1) C dX7_vote_1 rfl rfl ?_
  refine J.iload_n (pc := 2) C dX7_vote_2 rfl rfl ?_
  refine J.vI (pc := 3) C mv_X7_isPair wm_RX7_171 (fun l => c_X7_isPair l g S a0 a1 a2) ⟨⟨Nat.zero_le _, Nat.zero_le _⟩, rfl, rfl⟩ rfl ⟨Nat.le_of_ble_eq_true rfl, Nat.le_of_ble_eq_true rfl⟩ rfl cat_n (Nat.le_of_ble_eq_true rfl) dX7_vote_3 (fun r1 => ?_)
  refine J.if_eq (pc := 6) C (tgt := 18) dX7_vote_6 rfl ?_ ?_
  · refine J.ldc (pc := 18) C wc_RX7_60 dX7_vote_18 ?_
    exact J.iret (pc := 20) C rfl rfl ⟨Nat.le_refl _, Nat.le_refl _⟩ dX7_vote_20
  · refine J.aload_n (pc := 9) C (x := a0) dX7_vote_9 rfl rfl ?_
    refine J.iload_n (pc := 10) C dX7_vote_10 rfl rfl ?_
    refine J.iconst (pc := 11) C dX7_vote_11 ki_0 ?_
    refine J.vI (pc := 12) C mv_X7_isPlace wm_RX7_131 (fun l => c_X7_isPlace l g S a0 a3 0) ⟨⟨Nat.zero_le _, Nat.zero_le _⟩, rfl, rfl⟩ rfl ⟨Nat.le_of_ble_eq_true rfl, Nat.le_of_ble_eq_true rfl⟩ rfl cat_n (Nat.le_of_ble_eq_true rfl) dX7_vote_12 (fun r2 => ?_)
    refine J.if_ne (pc := 15) C (tgt := 21) dX7_vote_15 rfl ?_ ?_
    · refine J.aload_n (pc := 21) C (x := a0) dX7_vote_21 rfl rfl ?_
      refine J.iload_n (pc := 22) C dX7_vote_22 rfl rfl ?_
      refine J.iload_n (pc := 23) C dX7_vote_23 rfl rfl ?_
      refine J.vU (pc := 24) C mv_X7_voteOn wm_RX7_174 (fun l => c_X7_voteOn l g S a0 a1 a2) ⟨⟨Nat.zero_le _, Nat.zero_le _⟩, rfl, rfl⟩ rfl ⟨Nat.le_of_ble_eq_true rfl, Nat.le_of_ble_eq_true rfl⟩ rfl cat_n (Nat.le_of_ble_eq_true rfl) dX7_vote_24 (fun S_3 => ?_)
      refine J.aload_n (pc := 27) C (x := a0) dX7_vote_27 rfl rfl ?_
      refine J.getR (pc := 28) C fl_RX7_34 rfl dX7_vote_28 ?_
      refine J.iload_n (pc := 31) C dX7_vote_31 rfl rfl ?_
      refine J.vI (pc := 32) C mv_X6_voteOf wm_RX7_177 (fun l => c_X6_voteOf l g S_3 (S_3.2.1 a0 4) a3) ⟨⟨Nat.zero_le _, Nat.zero_le _⟩, rfl, rfl⟩ rfl ⟨Nat.le_of_ble_eq_true rfl, Nat.le_of_ble_eq_true rfl⟩ rfl cat_n (Nat.le_of_ble_eq_true rfl) dX7_vote_32 (fun r4 => ?_)
      exact J.iret (pc := 35) C rfl rfl ⟨Nat.le_refl _, Nat.le_refl _⟩ dX7_vote_35
    · refine J.ldc (pc := 18) C wc_RX7_60 dX7_vote_18 ?_
      exact J.iret (pc := 20) C rfl rfl ⟨Nat.le_refl _, Nat.le_refl _⟩ dX7_vote_20
abbrev rm_X7_voters : Room := { frames := 6, cells := 0, slots := 0, locals := 138 }
def f_X7_voters (S : St) (a0 : Nat) (a1 : Int32) (a2 : Int32) (a3 : Int32) : Option (Int32 × St) :=
  (chk (okc S 7 a0) (bnd (f_X7_isPair S a0 a1 a2) fun r1 =>
  (if r1 = 0 then
  (some ((-10000001), S))
  else (bnd (f_X7_isWithin a3 (-8) 8) fun r2 =>
  (if r2 = 0 then
  (some ((-10000001), S))
  else (chk (okc S 7 a0) (bnd (f_X7_voteOn S a0 a1 a2) fun S_3 =>
  (chk (okc S_3 7 a0)
  (chk (okc S_3 6 (S_3.2.1 a0 4)) (bnd (f_X6_votersFor S_3 (S_3.2.1 a0 4) a3) fun r4 =>
  (some (r4, S_3))))))))))))
set_option maxRecDepth 100000 in
set_option maxHeartbeats 4000000 in
theorem c_X7_voters (l : Launch) (g : GG) (S : St) (a0 : Nat) (a1 : Int32) (a2 : Int32) (a3 : Int32) : Ct l yX7_voters cX7_voters 4 (some .int) rm_X7_voters g aW pW [rv g a0, .int a1, .int a2, .int a3] S (f_X7_voters S a0 a1 a2 a3) := by
  refine Ct.mk (cf := cw (0, 0)) (by decide +kernel) (cat_r (cat_i (cat_i (cat_i cat_n)))) (Nat.le_of_ble_eq_true rfl) rfl ?_
  intro X hXl hin C
  show J X g _ _ 0 [(0, rv g a0), (1, .int a1), (2, .int a2), (3, .int a3)] [] S (f_X7_voters S a0 a1 a2 a3)
  unfold f_X7_voters
  refine J.aload_n (pc := 0) C (x := a0) dX7_voters_0 rfl rfl ?_
  refine J.iload_n (pc := 1) C dX7_voters_1 rfl rfl ?_
  refine J.iload_n (pc := 2) C dX7_voters_2 rfl rfl ?_
  refine J.vI (pc := 3) C mv_X7_isPair wm_RX7_171 (fun l => c_X7_isPair l g S a0 a1 a2) ⟨⟨Nat.zero_le _, Nat.zero_le _⟩, rfl, rfl⟩ rfl ⟨Nat.le_of_ble_eq_true rfl, Nat.le_of_ble_eq_true rfl⟩ rfl cat_n (Nat.le_of_ble_eq_true rfl) dX7_voters_3 (fun r1 => ?_)
  refine J.if_eq (pc := 6) C (tgt := 20) dX7_voters_6 rfl ?_ ?_
  · refine J.ldc (pc := 20) C wc_RX7_60 dX7_voters_20 ?_
    exact J.iret (pc := 22) C rfl rfl ⟨Nat.le_refl _, Nat.le_refl _⟩ dX7_voters_22
  · refine J.iload_n (pc := 9) C dX7_voters_9 rfl rfl ?_
    refine J.bipush (pc := 10) C dX7_voters_10 kb_m8 ?_
    refine J.bipush (pc := 12) C dX7_voters_12 kb_8 ?_
    refine J.sI (pc := 14) C ms_X7_isWithin wm_RX7_56 (fun l => c_X7_isWithin l g S a3 (-8) 8) ⟨⟨Nat.zero_le _, Nat.zero_le _⟩, rfl, rfl⟩ rfl ⟨Nat.le_of_ble_eq_true rfl, Nat.le_of_ble_eq_true rfl⟩ rfl cat_n (Nat.le_of_ble_eq_true rfl) dX7_voters_14 (fun r2 => ?_)
    refine J.if_ne (pc := 17) C (tgt := 23) dX7_voters_17 rfl ?_ ?_
    · refine J.aload_n (pc := 23) C (x := a0) dX7_voters_23 rfl rfl ?_
      refine J.iload_n (pc := 24) C dX7_voters_24 rfl rfl ?_
      refine J.iload_n (pc := 25) C dX7_voters_25 rfl rfl ?_
      refine J.vU (pc := 26) C mv_X7_voteOn wm_RX7_174 (fun l => c_X7_voteOn l g S a0 a1 a2) ⟨⟨Nat.zero_le _, Nat.zero_le _⟩, rfl, rfl⟩ rfl ⟨Nat.le_of_ble_eq_true rfl, Nat.le_of_ble_eq_true rfl⟩ rfl cat_n (Nat.le_of_ble_eq_true rfl) dX7_voters_26 (fun S_3 => ?_)
      refine J.aload_n (pc := 29) C (x := a0) dX7_voters_29 rfl rfl ?_
      refine J.getR (pc := 30) C fl_RX7_34 rfl dX7_voters_30 ?_
      refine J.iload_n (pc := 33) C dX7_voters_33 rfl rfl ?_
      refine J.vI (pc := 34) C mv_X6_votersFor wm_RX7_184 (fun l => c_X6_votersFor l g S_3 (S_3.2.1 a0 4) a3) ⟨⟨Nat.zero_le _, Nat.zero_le _⟩, rfl, rfl⟩ rfl ⟨Nat.le_of_ble_eq_true rfl, Nat.le_of_ble_eq_true rfl⟩ rfl cat_n (Nat.le_of_ble_eq_true rfl) dX7_voters_34 (fun r4 => ?_)
      exact J.iret (pc := 37) C rfl rfl ⟨Nat.le_refl _, Nat.le_refl _⟩ dX7_voters_37
    · refine J.ldc (pc := 20) C wc_RX7_60 dX7_voters_20 ?_
      exact J.iret (pc := 22) C rfl rfl ⟨Nat.le_refl _, Nat.le_refl _⟩ dX7_voters_22
abbrev rm_X6_weigh : Room := { frames := 3, cells := 0, slots := 0, locals := 65 }
def f_X6_weigh (S : St) (a0 : Nat) (a1 : Nat) : Option St :=
  (chk (okc S 6 a0) (bnd (f_X6_countVotes S a0 a1) fun S_1 =>
  (some S_1)))
set_option maxRecDepth 100000 in
set_option maxHeartbeats 4000000 in
theorem c_X6_weigh (l : Launch) (g : GG) (S : St) (a0 : Nat) (a1 : Nat) : Ct l yX6_weigh cX6_weigh 2 none rm_X6_weigh g aU pU [rv g a0, rv g a1] S (f_X6_weigh S a0 a1) := by
  refine Ct.mk (cf := cw (0, 0)) (by decide +kernel) (cat_r (cat_r cat_n)) (Nat.le_of_ble_eq_true rfl) rfl ?_
  intro X hXl hin C
  show J X g _ _ 0 [(0, rv g a0), (1, rv g a1)] [] S (f_X6_weigh S a0 a1)
  unfold f_X6_weigh
  refine J.aload_n (pc := 0) C (x := a0) dX6_weigh_0 rfl rfl ?_
  refine J.aload_n (pc := 1) C (x := a1) dX6_weigh_1 rfl rfl ?_
  refine J.vU (pc := 2) C mv_X6_countVotes wm_RX6_46 (fun l => c_X6_countVotes l g S a0 a1) ⟨⟨Nat.zero_le _, Nat.zero_le _⟩, rfl, rfl⟩ rfl ⟨Nat.le_of_ble_eq_true rfl, Nat.le_of_ble_eq_true rfl⟩ rfl cat_n (Nat.le_of_ble_eq_true rfl) dX6_weigh_2 (fun S_1 => ?_)
  exact J.vret (pc := 5) C rfl rfl ⟨Nat.le_refl _, Nat.le_refl _⟩ dX6_weigh_5
abbrev rm_X7_weighed : Room := { frames := 6, cells := 0, slots := 0, locals := 138 }
def f_X7_weighed (S : St) (a0 : Nat) (a1 : Int32) (a2 : Int32) : Option (Int32 × St) :=
  (chk (okc S 7 a0) (bnd (f_X7_isPair S a0 a1 a2) fun r1 =>
  (if r1 = 0 then
  (some ((-10000001), S))
  else (chk (okc S 7 a0) (bnd (f_X7_voteOn S a0 a1 a2) fun S_2 =>
  (chk (okc S_2 7 a0)
  (chk (okc S_2 7 a0)
  (chk (okc S_2 6 (S_2.2.1 a0 4)) (bnd (f_X6_weigh S_2 (S_2.2.1 a0 4) (S_2.2.1 a0 0)) fun S_3 =>
  (chk (okc S_3 7 a0)
  (chk (okc S_3 6 (S_3.2.1 a0 4)) (bnd (f_X6_told S_3 (S_3.2.1 a0 4)) fun r4 =>
  (some (r4, S_3))))))))))))))
set_option maxRecDepth 100000 in
set_option maxHeartbeats 4000000 in
theorem c_X7_weighed (l : Launch) (g : GG) (S : St) (a0 : Nat) (a1 : Int32) (a2 : Int32) : Ct l yX7_weighed cX7_weighed 3 (some .int) rm_X7_weighed g aW pW [rv g a0, .int a1, .int a2] S (f_X7_weighed S a0 a1 a2) := by
  refine Ct.mk (cf := cw (0, 0)) (by decide +kernel) (cat_r (cat_i (cat_i cat_n))) (Nat.le_of_ble_eq_true rfl) rfl ?_
  intro X hXl hin C
  show J X g _ _ 0 [(0, rv g a0), (1, .int a1), (2, .int a2)] [] S (f_X7_weighed S a0 a1 a2)
  unfold f_X7_weighed
  refine J.aload_n (pc := 0) C (x := a0) dX7_weighed_0 rfl rfl ?_
  refine J.iload_n (pc := 1) C dX7_weighed_1 rfl rfl ?_
  refine J.iload_n (pc := 2) C dX7_weighed_2 rfl rfl ?_
  refine J.vI (pc := 3) C mv_X7_isPair wm_RX7_171 (fun l => c_X7_isPair l g S a0 a1 a2) ⟨⟨Nat.zero_le _, Nat.zero_le _⟩, rfl, rfl⟩ rfl ⟨Nat.le_of_ble_eq_true rfl, Nat.le_of_ble_eq_true rfl⟩ rfl cat_n (Nat.le_of_ble_eq_true rfl) dX7_weighed_3 (fun r1 => ?_)
  refine J.if_ne (pc := 6) C (tgt := 12) dX7_weighed_6 rfl ?_ ?_
  · refine J.aload_n (pc := 12) C (x := a0) dX7_weighed_12 rfl rfl ?_
    refine J.iload_n (pc := 13) C dX7_weighed_13 rfl rfl ?_
    refine J.iload_n (pc := 14) C dX7_weighed_14 rfl rfl ?_
    refine J.vU (pc := 15) C mv_X7_voteOn wm_RX7_174 (fun l => c_X7_voteOn l g S a0 a1 a2) ⟨⟨Nat.zero_le _, Nat.zero_le _⟩, rfl, rfl⟩ rfl ⟨Nat.le_of_ble_eq_true rfl, Nat.le_of_ble_eq_true rfl⟩ rfl cat_n (Nat.le_of_ble_eq_true rfl) dX7_weighed_15 (fun S_2 => ?_)
    refine J.aload_n (pc := 18) C (x := a0) dX7_weighed_18 rfl rfl ?_
    refine J.getR (pc := 19) C fl_RX7_34 rfl dX7_weighed_19 ?_
    refine J.aload_n (pc := 22) C (x := a0) dX7_weighed_22 rfl rfl ?_
    refine J.getR (pc := 23) C fl_RX7_12 rfl dX7_weighed_23 ?_
    refine J.vU (pc := 26) C mv_X6_weigh wm_RX7_194 (fun l => c_X6_weigh l g S_2 (S_2.2.1 a0 4) (S_2.2.1 a0 0)) ⟨⟨Nat.zero_le _, Nat.zero_le _⟩, rfl, rfl⟩ rfl ⟨Nat.le_of_ble_eq_true rfl, Nat.le_of_ble_eq_true rfl⟩ rfl cat_n (Nat.le_of_ble_eq_true rfl) dX7_weighed_26 (fun S_3 => ?_)
    refine J.aload_n (pc := 29) C (x := a0) dX7_weighed_29 rfl rfl ?_
    refine J.getR (pc := 30) C fl_RX7_34 rfl dX7_weighed_30 ?_
    refine J.vI (pc := 33) C mv_X6_told wm_RX7_180 (fun l => c_X6_told l g S_3 (S_3.2.1 a0 4)) ⟨⟨Nat.zero_le _, Nat.zero_le _⟩, rfl, rfl⟩ rfl ⟨Nat.le_of_ble_eq_true rfl, Nat.le_of_ble_eq_true rfl⟩ rfl cat_n (Nat.le_of_ble_eq_true rfl) dX7_weighed_33 (fun r4 => ?_)
    exact J.iret (pc := 36) C rfl rfl ⟨Nat.le_refl _, Nat.le_refl _⟩ dX7_weighed_36
  · refine J.ldc (pc := 9) C wc_RX7_60 dX7_weighed_9 ?_
    exact J.iret (pc := 11) C rfl rfl ⟨Nat.le_refl _, Nat.le_refl _⟩ dX7_weighed_11
abbrev rm_X8_counts : Room := { frames := 0, cells := 0, slots := 0, locals := 0 }
def f_X8_counts (S : St) (a0 : Nat) (a1 : Int32) (a2 : Int32) : Option St :=
  (if a1 = (-1000000) then
  (some S)
  else (chk (okc S 8 a0)
  (chk (ina S 10 (S.2.1 a0 6) (a1 + 8))
  (chk (inw S 10 (S.2.1 a0 6) (a1 + 8)) (vlt (upI S (S.2.1 a0 6) (a1 + 8).toNatClampNeg ((S.1 (S.2.1 a0 6) (a1 + 8).toNatClampNeg) + a2)) fun S_1 =>
  (some S_1))))))
set_option maxRecDepth 100000 in
set_option maxHeartbeats 4000000 in
theorem c_X8_counts (l : Launch) (g : GG) (S : St) (a0 : Nat) (a1 : Int32) (a2 : Int32) : Ct l yX8_counts cX8_counts 3 none rm_X8_counts g aU pU [rv g a0, .int a1, .int a2] S (f_X8_counts S a0 a1 a2) := by
  refine Ct.mk (cf := cw (0, 0)) (by decide +kernel) (cat_r (cat_i (cat_i cat_n))) (Nat.le_of_ble_eq_true rfl) rfl ?_
  intro X hXl hin C
  show J X g _ _ 0 [(0, rv g a0), (1, .int a1), (2, .int a2)] [] S (f_X8_counts S a0 a1 a2)
  unfold f_X8_counts
  refine J.iload_n (pc := 0) C dX8_counts_0 rfl rfl ?_
  refine J.ldc (pc := 1) C wc_RX8_49 dX8_counts_1 ?_
  refine J.icmp_eq (pc := 3) C (tgt := 19) dX8_counts_3 rfl ?_ ?_
  · exact J.vret (pc := 19) C rfl rfl ⟨Nat.le_refl _, Nat.le_refl _⟩ dX8_counts_19
  · refine J.aload_n (pc := 6) C (x := a0) dX8_counts_6 rfl rfl ?_
    refine J.getR (pc := 7) C fl_RX8_22 rfl dX8_counts_7 ?_
    refine J.iload_n (pc := 10) C dX8_counts_10 rfl rfl ?_
    refine J.bipush (pc := 11) C dX8_counts_11 kb_8 ?_
    refine J.iadd (pc := 13) C dX8_counts_13 ?_
    refine J.dup2 (pc := 14) C dX8_counts_14 rfl (rv_cat g _) ?_
    refine J.iald (pc := 15) C dX8_counts_15 ?_
    refine J.iload_n (pc := 16) C dX8_counts_16 rfl rfl ?_
    refine J.iadd (pc := 17) C dX8_counts_17 ?_
    refine J.iasts (pc := 18) C dX8_counts_18 (fun S_1 => ?_)
    exact J.vret (pc := 19) C rfl rfl ⟨Nat.le_refl _, Nat.le_refl _⟩ dX8_counts_19
abbrev rm_X8_has : Room := { frames := 0, cells := 0, slots := 0, locals := 0 }
def f_X8_has (a0 : Int32) (a1 : Int32) : Option Int32 :=
  (if ((a0 >>> (a1 &&& 31)) &&& 1) = 1 then
  (some 1)
  else (some 0))
set_option maxRecDepth 100000 in
set_option maxHeartbeats 4000000 in
theorem c_X8_has (l : Launch) (g : GG) (S : St) (a0 : Int32) (a1 : Int32) : Ct l yX8_has cX8_has 2 (some .boolean) rm_X8_has g aI (pK S) [.int a0, .int a1] S (f_X8_has a0 a1) := by
  refine Ct.mk (cf := cw (0, 0)) (by decide +kernel) (cat_i (cat_i cat_n)) (Nat.le_of_ble_eq_true rfl) rfl ?_
  intro X hXl hin C
  show J X g _ _ 0 [(0, .int a0), (1, .int a1)] [] S (f_X8_has a0 a1)
  unfold f_X8_has
  refine J.iload_n (pc := 0) C dX8_has_0 rfl rfl ?_
  refine J.iload_n (pc := 1) C dX8_has_1 rfl rfl ?_
  refine J.ishr (pc := 2) C dX8_has_2 ?_
  refine J.iconst (pc := 3) C dX8_has_3 ki_1 ?_
  refine J.iand (pc := 4) C dX8_has_4 ?_
  refine J.iconst (pc := 5) C dX8_has_5 ki_1 ?_
  refine J.icmp_ne (pc := 6) C (tgt := 13) dX8_has_6 rfl ?_ ?_
  · refine J.iconst (pc := 13) C dX8_has_13 ki_0 ?_
    exact J.zret (pc := 14) C rfl rfl rfl ⟨Nat.le_refl _, Nat.le_refl _⟩ dX8_has_14
  · refine J.iconst (pc := 9) C dX8_has_9 ki_1 ?_
    refine J.goto (pc := 10) C (tgt := 14) dX8_has_10 rfl ?_
    exact J.zret (pc := 14) C rfl rfl rfl ⟨Nat.le_refl _, Nat.le_refl _⟩ dX8_has_14
abbrev rm_X8_placeAt : Room := { frames := 0, cells := 0, slots := 0, locals := 0 }
def f_X8_placeAt (S : St) (a0 : Nat) (a1 : Int32) (a2 : Int32) : Option Int32 :=
  (chk (ina S 10 a0 ((9 + (6 * a1)) + 2))
  (chk (ina S 10 a0 ((9 + (6 * a1)) + 3))
  (some ((S.1 a0 ((9 + (6 * a1)) + 2).toNatClampNeg) + ((S.1 a0 ((9 + (6 * a1)) + 3).toNatClampNeg) * a2)))))
set_option maxRecDepth 100000 in
set_option maxHeartbeats 4000000 in
theorem c_X8_placeAt (l : Launch) (g : GG) (S : St) (a0 : Nat) (a1 : Int32) (a2 : Int32) : Ct l yX8_placeAt cX8_placeAt 4 (some .int) rm_X8_placeAt g aI (pK S) [rv g a0, .int a1, .int a2] S (f_X8_placeAt S a0 a1 a2) := by
  refine Ct.mk (cf := cw (0, 0)) (by decide +kernel) (cat_r (cat_i (cat_i cat_n))) (Nat.le_of_ble_eq_true rfl) rfl ?_
  intro X hXl hin C
  show J X g _ _ 0 [(0, rv g a0), (1, .int a1), (2, .int a2)] [] S (f_X8_placeAt S a0 a1 a2)
  unfold f_X8_placeAt
  refine J.bipush (pc := 0) C dX8_placeAt_0 kb_9 ?_
  refine J.bipush (pc := 2) C dX8_placeAt_2 kb_6 ?_
  refine J.iload_n (pc := 4) C dX8_placeAt_4 rfl rfl ?_
  refine J.imul (pc := 5) C dX8_placeAt_5 ?_
  refine J.iadd (pc := 6) C dX8_placeAt_6 ?_
  refine J.istore_n (pc := 7) C (lv' := [(0, rv g a0), (1, .int a1), (2, .int a2), (3, .int (9 + (6 * a1)))]) dX8_placeAt_7 rfl (Nat.le_of_ble_eq_true rfl) rfl ?_
  refine J.aload_n (pc := 8) C (x := a0) dX8_placeAt_8 rfl rfl ?_
  refine J.iload_n (pc := 9) C dX8_placeAt_9 rfl rfl ?_
  refine J.iconst (pc := 10) C dX8_placeAt_10 ki_2 ?_
  refine J.iadd (pc := 11) C dX8_placeAt_11 ?_
  refine J.iald (pc := 12) C dX8_placeAt_12 ?_
  refine J.aload_n (pc := 13) C (x := a0) dX8_placeAt_13 rfl rfl ?_
  refine J.iload_n (pc := 14) C dX8_placeAt_14 rfl rfl ?_
  refine J.iconst (pc := 15) C dX8_placeAt_15 ki_3 ?_
  refine J.iadd (pc := 16) C dX8_placeAt_16 ?_
  refine J.iald (pc := 17) C dX8_placeAt_17 ?_
  refine J.iload_n (pc := 18) C dX8_placeAt_18 rfl rfl ?_
  refine J.imul (pc := 19) C dX8_placeAt_19 ?_
  refine J.iadd (pc := 20) C dX8_placeAt_20 ?_
  exact J.iret (pc := 21) C rfl rfl ⟨Nat.le_refl _, Nat.le_refl _⟩ dX8_placeAt_21
abbrev rm_X8_covers : Room := { frames := 1, cells := 0, slots := 0, locals := 23 }
def f_X8_covers (S : St) (a0 : Nat) (a1 : Int32) (a2 : Int32) (a3 : Int32) (a4 : Int32) : Option Int32 :=
  (bnd (f_X8_placeAt S a0 a1 a4) fun r1 =>
  (chk (ina S 10 a0 (9 + (6 * a1)))
  (if a2 < (S.1 a0 (9 + (6 * a1)).toNatClampNeg) then
  (some 0)
  else (chk (ina S 10 a0 ((9 + (6 * a1)) + 1))
  (if (S.1 a0 ((9 + (6 * a1)) + 1).toNatClampNeg) < a2 then
  (some 0)
  else (if ((100 * a3) + 50) < r1 then
  (some 0)
  else (chk (ina S 10 a0 ((9 + (6 * a1)) + 4))
  (if (r1 + (S.1 a0 ((9 + (6 * a1)) + 4).toNatClampNeg)) ≤ ((100 * a3) + 50) then
  (some 0)
  else (some 1)))))))))
set_option maxRecDepth 100000 in
set_option maxHeartbeats 4000000 in
theorem c_X8_covers (l : Launch) (g : GG) (S : St) (a0 : Nat) (a1 : Int32) (a2 : Int32) (a3 : Int32) (a4 : Int32) : Ct l yX8_covers cX8_covers 8 (some .boolean) rm_X8_covers g aI (pK S) [rv g a0, .int a1, .int a2, .int a3, .int a4] S (f_X8_covers S a0 a1 a2 a3 a4) := by
  refine Ct.mk (cf := cw (0, 0)) (by decide +kernel) (cat_r (cat_i (cat_i (cat_i (cat_i cat_n))))) (Nat.le_of_ble_eq_true rfl) rfl ?_
  intro X hXl hin C
  show J X g _ _ 0 [(0, rv g a0), (1, .int a1), (2, .int a2), (3, .int a3), (4, .int a4)] [] S (f_X8_covers S a0 a1 a2 a3 a4)
  unfold f_X8_covers
  refine J.bipush (pc := 0) C dX8_covers_0 kb_9 ?_
  refine J.bipush (pc := 2) C dX8_covers_2 kb_6 ?_
  refine J.iload_n (pc := 4) C dX8_covers_4 rfl rfl ?_
  refine J.imul (pc := 5) C dX8_covers_5 ?_
  refine J.iadd (pc := 6) C dX8_covers_6 ?_
  refine J.istore (pc := 7) C (lv' := [(0, rv g a0), (1, .int a1), (2, .int a2), (3, .int a3), (4, .int a4), (5, .int (9 + (6 * a1)))]) dX8_covers_7 (Nat.le_of_ble_eq_true rfl) rfl ?_
  refine J.aload_n (pc := 9) C (x := a0) dX8_covers_9 rfl rfl ?_
  refine J.iload_n (pc := 10) C dX8_covers_10 rfl rfl ?_
  refine J.iload (pc := 11) C dX8_covers_11 rfl ?_
  refine J.sI (pc := 13) C ms_X8_placeAt wm_RX8_63 (fun l => c_X8_placeAt l g S a0 a1 a4) ⟨⟨Nat.zero_le _, Nat.zero_le _⟩, rfl, rfl⟩ rfl ⟨Nat.le_of_ble_eq_true rfl, Nat.le_of_ble_eq_true rfl⟩ rfl cat_n (Nat.le_of_ble_eq_true rfl) dX8_covers_13 (fun r1 => ?_)
  refine J.istore (pc := 16) C (lv' := [(0, rv g a0), (1, .int a1), (2, .int a2), (3, .int a3), (4, .int a4), (5, .int (9 + (6 * a1))), (6, .int r1)]) dX8_covers_16 (Nat.le_of_ble_eq_true rfl) rfl ?_
  refine J.bipush (pc := 18) C dX8_covers_18 kb_100 ?_
  refine J.iload_n (pc := 20) C dX8_covers_20 rfl rfl ?_
  refine J.imul (pc := 21) C dX8_covers_21 ?_
  refine J.bipush (pc := 22) C dX8_covers_22 kb_50 ?_
  refine J.iadd (pc := 24) C dX8_covers_24 ?_
  refine J.istore (pc := 25) C (lv' := [(0, rv g a0), (1, .int a1), (2, .int a2), (3, .int a3), (4, .int a4), (5, .int (9 + (6 * a1))), (6, .int r1), (7, .int ((100 * a3) + 50))]) dX8_covers_25 (Nat.le_of_ble_eq_true rfl) rfl ?_
  refine J.iload_n (pc := 27) C dX8_covers_27 rfl rfl ?_
  refine J.aload_n (pc := 28) C (x := a0) dX8_covers_28 rfl rfl ?_
  refine J.iload (pc := 29) C dX8_covers_29 rfl ?_
  refine J.iald (pc := 31) C dX8_covers_31 ?_
  refine J.icmp_lt (pc := 32) C (tgt := 70) dX8_covers_32 rfl ?_ ?_
  · refine J.iconst (pc := 70) C dX8_covers_70 ki_0 ?_
    exact J.zret (pc := 71) C rfl rfl rfl ⟨Nat.le_refl _, Nat.le_refl _⟩ dX8_covers_71
  · refine J.iload_n (pc := 35) C dX8_covers_35 rfl rfl ?_
    refine J.aload_n (pc := 36) C (x := a0) dX8_covers_36 rfl rfl ?_
    refine J.iload (pc := 37) C dX8_covers_37 rfl ?_
    refine J.iconst (pc := 39) C dX8_covers_39 ki_1 ?_
    refine J.iadd (pc := 40) C dX8_covers_40 ?_
    refine J.iald (pc := 41) C dX8_covers_41 ?_
    refine J.icmp_gt (pc := 42) C (tgt := 70) dX8_covers_42 rfl ?_ ?_
    · refine J.iconst (pc := 70) C dX8_covers_70 ki_0 ?_
      exact J.zret (pc := 71) C rfl rfl rfl ⟨Nat.le_refl _, Nat.le_refl _⟩ dX8_covers_71
    · refine J.iload (pc := 45) C dX8_covers_45 rfl ?_
      refine J.iload (pc := 47) C dX8_covers_47 rfl ?_
      refine J.icmp_gt (pc := 49) C (tgt := 70) dX8_covers_49 rfl ?_ ?_
      · refine J.iconst (pc := 70) C dX8_covers_70 ki_0 ?_
        exact J.zret (pc := 71) C rfl rfl rfl ⟨Nat.le_refl _, Nat.le_refl _⟩ dX8_covers_71
      · refine J.iload (pc := 52) C dX8_covers_52 rfl ?_
        refine J.aload_n (pc := 54) C (x := a0) dX8_covers_54 rfl rfl ?_
        refine J.iload (pc := 55) C dX8_covers_55 rfl ?_
        refine J.iconst (pc := 57) C dX8_covers_57 ki_4 ?_
        refine J.iadd (pc := 58) C dX8_covers_58 ?_
        refine J.iald (pc := 59) C dX8_covers_59 ?_
        refine J.iadd (pc := 60) C dX8_covers_60 ?_
        refine J.iload (pc := 61) C dX8_covers_61 rfl ?_
        refine J.icmp_le (pc := 63) C (tgt := 70) dX8_covers_63 rfl ?_ ?_
        · refine J.iconst (pc := 70) C dX8_covers_70 ki_0 ?_
          exact J.zret (pc := 71) C rfl rfl rfl ⟨Nat.le_refl _, Nat.le_refl _⟩ dX8_covers_71
        · refine J.iconst (pc := 66) C dX8_covers_66 ki_1 ?_
          refine J.goto (pc := 67) C (tgt := 71) dX8_covers_67 rfl ?_
          exact J.zret (pc := 71) C rfl rfl rfl ⟨Nat.le_refl _, Nat.le_refl _⟩ dX8_covers_71
abbrev rm_X8_isDark : Room := { frames := 0, cells := 0, slots := 0, locals := 0 }
def f_X8_isDark (S : St) (a0 : Nat) (a1 : Int32) : Option Int32 :=
  (chk (ina S 10 a0 5)
  (if (S.1 a0 (5 : Int32).toNatClampNeg) = 0 then
  (some 0)
  else (chk (ina S 10 a0 5)
  (chk (¬ (S.1 a0 (5 : Int32).toNatClampNeg) = 0)
  (chk (ina S 10 a0 6)
  (if (S.1 a0 (6 : Int32).toNatClampNeg) ≤ (a1 - a1 / (S.1 a0 (5 : Int32).toNatClampNeg) * (S.1 a0 (5 : Int32).toNatClampNeg)) then
  (some 0)
  else (some 1)))))))
set_option maxRecDepth 100000 in
set_option maxHeartbeats 4000000 in
theorem c_X8_isDark (l : Launch) (g : GG) (S : St) (a0 : Nat) (a1 : Int32) : Ct l yX8_isDark cX8_isDark 2 (some .boolean) rm_X8_isDark g aI (pK S) [rv g a0, .int a1] S (f_X8_isDark S a0 a1) := by
  refine Ct.mk (cf := cw (0, 0)) (by decide +kernel) (cat_r (cat_i cat_n)) (Nat.le_of_ble_eq_true rfl) rfl ?_
  intro X hXl hin C
  show J X g _ _ 0 [(0, rv g a0), (1, .int a1)] [] S (f_X8_isDark S a0 a1)
  unfold f_X8_isDark
  refine J.aload_n (pc := 0) C (x := a0) dX8_isDark_0 rfl rfl ?_
  refine J.iconst (pc := 1) C dX8_isDark_1 ki_5 ?_
  refine J.iald (pc := 2) C dX8_isDark_2 ?_
  refine J.if_eq (pc := 3) C (tgt := 22) dX8_isDark_3 rfl ?_ ?_
  · refine J.iconst (pc := 22) C dX8_isDark_22 ki_0 ?_
    exact J.zret (pc := 23) C rfl rfl rfl ⟨Nat.le_refl _, Nat.le_refl _⟩ dX8_isDark_23
  · refine J.iload_n (pc := 6) C dX8_isDark_6 rfl rfl ?_
    refine J.aload_n (pc := 7) C (x := a0) dX8_isDark_7 rfl rfl ?_
    refine J.iconst (pc := 8) C dX8_isDark_8 ki_5 ?_
    refine J.iald (pc := 9) C dX8_isDark_9 ?_
    refine J.irem (pc := 10) C dX8_isDark_10 ?_
    refine J.aload_n (pc := 11) C (x := a0) dX8_isDark_11 rfl rfl ?_
    refine J.bipush (pc := 12) C dX8_isDark_12 kb_6 ?_
    refine J.iald (pc := 14) C dX8_isDark_14 ?_
    refine J.icmp_ge (pc := 15) C (tgt := 22) dX8_isDark_15 rfl ?_ ?_
    · refine J.iconst (pc := 22) C dX8_isDark_22 ki_0 ?_
      exact J.zret (pc := 23) C rfl rfl rfl ⟨Nat.le_refl _, Nat.le_refl _⟩ dX8_isDark_23
    · refine J.iconst (pc := 18) C dX8_isDark_18 ki_1 ?_
      refine J.goto (pc := 19) C (tgt := 23) dX8_isDark_19 rfl ?_
      exact J.zret (pc := 23) C rfl rfl rfl ⟨Nat.le_refl _, Nat.le_refl _⟩ dX8_isDark_23
abbrev rm_X8_shown : Room := { frames := 2, cells := 0, slots := 0, locals := 50 }
def f_X8_shown_B8 (S : St) (a0 : Nat) (a1 : Int32) (a2 : Int32) (a3 : Int32) (kx8 : Int32 → Option Int32) (k8 : Int32 → Int32 → Option Int32) (x4 : Int32) (x5 : Int32) : Option Int32 :=
  (chk (ina S 10 a0 8)
  (if (S.1 a0 (8 : Int32).toNatClampNeg) ≤ x5 then
  (kx8 x4)
  else (bnd (f_X8_covers S a0 x5 a1 a2 a3) fun r1 =>
  (if r1 = 0 then
  (k8 x4 (x5 + 1))
  else (chk (ina S 10 a0 ((9 + (6 * x5)) + 5))
  (vlt (S.1 a0 ((9 + (6 * x5)) + 5).toNatClampNeg) fun v2 =>
  (k8 v2 (x5 + 1))))))))
set_option maxRecDepth 100000 in
set_option maxHeartbeats 4000000 in
theorem w_X8_shown_B8 {X : CT} {g : GG} (C : CX X g cX8_shown RX8 (some .int) 6 rm_X8_shown) (S : St) (a0 : Nat) (a1 : Int32) (a2 : Int32) (a3 : Int32) (kx8 : Int32 → Option Int32) (hkx8 : ∀ (x4 : Int32), J X g (Qm X g aI (pK S)) (cw (0, 0)) 54 [(0, rv g a0), (3, .int a3), (4, .int x4)] [] S (kx8 x4)) : ∀ (n : Nat) (x4 : Int32) (x5 : Int32), J X g (Qm X g aI (pK S)) (cw (0, 0)) 8 [(0, rv g a0), (1, .int a1), (2, .int a2), (3, .int a3), (4, .int x4), (5, .int x5)] [] S (wl2 (f_X8_shown_B8 S a0 a1 a2 a3 kx8) n x4 x5) := by
  refine J.loop2 (lvf := fun (x4 : Int32) (x5 : Int32) => [(0, rv g a0), (1, .int a1), (2, .int a2), (3, .int a3), (4, .int x4), (5, .int x5)]) (Sf := fun (x4 : Int32) (x5 : Int32) => S) ?_
  intro k8 hk8 x4 x5
  show J X g _ _ 8 [(0, rv g a0), (1, .int a1), (2, .int a2), (3, .int a3), (4, .int x4), (5, .int x5)] [] S (f_X8_shown_B8 S a0 a1 a2 a3 kx8 k8 x4 x5)
  unfold f_X8_shown_B8
  refine J.iload (pc := 8) C dX8_shown_8 rfl ?_
  refine J.aload_n (pc := 10) C (x := a0) dX8_shown_10 rfl rfl ?_
  refine J.bipush (pc := 11) C dX8_shown_11 kb_8 ?_
  refine J.iald (pc := 13) C dX8_shown_13 ?_
  refine J.icmp_ge (pc := 14) C (tgt := 54) dX8_shown_14 rfl ?_ ?_
  · exact J.pick [0, 3, 4] rfl (hkx8 _)
  · refine J.aload_n (pc := 17) C (x := a0) dX8_shown_17 rfl rfl ?_
    refine J.iload (pc := 18) C dX8_shown_18 rfl ?_
    refine J.iload_n (pc := 20) C dX8_shown_20 rfl rfl ?_
    refine J.iload_n (pc := 21) C dX8_shown_21 rfl rfl ?_
    refine J.iload_n (pc := 22) C dX8_shown_22 rfl rfl ?_
    refine J.sI (pc := 23) C ms_X8_covers wm_RX8_71 (fun l => c_X8_covers l g S a0 x5 a1 a2 a3) ⟨⟨Nat.zero_le _, Nat.zero_le _⟩, rfl, rfl⟩ rfl ⟨Nat.le_of_ble_eq_true rfl, Nat.le_of_ble_eq_true rfl⟩ rfl cat_n (Nat.le_of_ble_eq_true rfl) dX8_shown_23 (fun r1 => ?_)
    refine J.if_eq (pc := 26) C (tgt := 44) dX8_shown_26 rfl ?_ ?_
    · refine J.iload (pc := 44) C dX8_shown_44 rfl ?_
      refine J.istore (pc := 46) C (lv' := [(0, rv g a0), (1, .int a1), (2, .int a2), (3, .int a3), (4, .int x4), (5, .int x5)]) dX8_shown_46 (Nat.le_of_ble_eq_true rfl) rfl ?_
      refine J.iinc (pc := 48) C (lv' := [(0, rv g a0), (1, .int a1), (2, .int a2), (3, .int a3), (4, .int x4), (5, .int (x5 + 1))]) dX8_shown_48 rfl (Nat.le_of_ble_eq_true rfl) ki_1 rfl ?_
      refine J.goto (pc := 51) C (tgt := 8) dX8_shown_51 rfl ?_
      exact (hk8 _ _)
    · refine J.aload_n (pc := 29) C (x := a0) dX8_shown_29 rfl rfl ?_
      refine J.bipush (pc := 30) C dX8_shown_30 kb_9 ?_
      refine J.bipush (pc := 32) C dX8_shown_32 kb_6 ?_
      refine J.iload (pc := 34) C dX8_shown_34 rfl ?_
      refine J.imul (pc := 36) C dX8_shown_36 ?_
      refine J.iadd (pc := 37) C dX8_shown_37 ?_
      refine J.iconst (pc := 38) C dX8_shown_38 ki_5 ?_
      refine J.iadd (pc := 39) C dX8_shown_39 ?_
      refine J.iald (pc := 40) C dX8_shown_40 ?_
      refine J.goto (pc := 41) C (tgt := 46) dX8_shown_41 rfl ?_
      refine J.topi (fun v2 => ?_)
      refine J.istore (pc := 46) C (lv' := [(0, rv g a0), (1, .int a1), (2, .int a2), (3, .int a3), (4, .int v2), (5, .int x5)]) dX8_shown_46 (Nat.le_of_ble_eq_true rfl) rfl ?_
      refine J.iinc (pc := 48) C (lv' := [(0, rv g a0), (1, .int a1), (2, .int a2), (3, .int a3), (4, .int v2), (5, .int (x5 + 1))]) dX8_shown_48 rfl (Nat.le_of_ble_eq_true rfl) ki_1 rfl ?_
      refine J.goto (pc := 51) C (tgt := 8) dX8_shown_51 rfl ?_
      exact (hk8 _ _)
def f_X8_shown (S : St) (a0 : Nat) (a1 : Int32) (a2 : Int32) (a3 : Int32) : Option Int32 :=
  (chk (ina S 10 a0 4)
  (wl2 (f_X8_shown_B8 S a0 a1 a2 a3 (fun (y4_3 : Int32) => (bnd (f_X8_isDark S a0 a3) fun r4 =>
  (if r4 = 0 then
  (some y4_3)
  else (chk (ina S 10 a0 7)
  (chk (¬ (100 : Int32) = 0)
  (some ((y4_3 * (S.1 a0 (7 : Int32).toNatClampNeg)) / 100)))))))) FU (S.1 a0 (4 : Int32).toNatClampNeg) 0))
set_option maxRecDepth 100000 in
set_option maxHeartbeats 4000000 in
theorem c_X8_shown (l : Launch) (g : GG) (S : St) (a0 : Nat) (a1 : Int32) (a2 : Int32) (a3 : Int32) : Ct l yX8_shown cX8_shown 6 (some .int) rm_X8_shown g aI (pK S) [rv g a0, .int a1, .int a2, .int a3] S (f_X8_shown S a0 a1 a2 a3) := by
  refine Ct.mk (cf := cw (0, 0)) (by decide +kernel) (cat_r (cat_i (cat_i (cat_i cat_n)))) (Nat.le_of_ble_eq_true rfl) rfl ?_
  intro X hXl hin C
  show J X g _ _ 0 [(0, rv g a0), (1, .int a1), (2, .int a2), (3, .int a3)] [] S (f_X8_shown S a0 a1 a2 a3)
  unfold f_X8_shown
  refine J.aload_n (pc := 0) C (x := a0) dX8_shown_0 rfl rfl ?_
  refine J.iconst (pc := 1) C dX8_shown_1 ki_4 ?_
  refine J.iald (pc := 2) C dX8_shown_2 ?_
  refine J.istore (pc := 3) C (lv' := [(0, rv g a0), (1, .int a1), (2, .int a2), (3, .int a3), (4, .int (S.1 a0 (4 : Int32).toNatClampNeg))]) dX8_shown_3 (Nat.le_of_ble_eq_true rfl) rfl ?_
  refine J.iconst (pc := 5) C dX8_shown_5 ki_0 ?_
  refine J.istore (pc := 6) C (lv' := [(0, rv g a0), (1, .int a1), (2, .int a2), (3, .int a3), (4, .int (S.1 a0 (4 : Int32).toNatClampNeg)), (5, .int 0)]) dX8_shown_6 (Nat.le_of_ble_eq_true rfl) rfl ?_
  refine w_X8_shown_B8 C _ _ _ _ _ _ (fun y4_3 => ?_) FU _ _
  refine J.aload_n (pc := 54) C (x := a0) dX8_shown_54 rfl rfl ?_
  refine J.iload_n (pc := 55) C dX8_shown_55 rfl rfl ?_
  refine J.sI (pc := 56) C ms_X8_isDark wm_RX8_75 (fun l => c_X8_isDark l g S a0 a3) ⟨⟨Nat.zero_le _, Nat.zero_le _⟩, rfl, rfl⟩ rfl ⟨Nat.le_of_ble_eq_true rfl, Nat.le_of_ble_eq_true rfl⟩ rfl cat_n (Nat.le_of_ble_eq_true rfl) dX8_shown_56 (fun r4 => ?_)
  refine J.if_eq (pc := 59) C (tgt := 75) dX8_shown_59 rfl ?_ ?_
  · refine J.iload (pc := 75) C dX8_shown_75 rfl ?_
    exact J.iret (pc := 77) C rfl rfl ⟨Nat.le_refl _, Nat.le_refl _⟩ dX8_shown_77
  · refine J.iload (pc := 62) C dX8_shown_62 rfl ?_
    refine J.aload_n (pc := 64) C (x := a0) dX8_shown_64 rfl rfl ?_
    refine J.bipush (pc := 65) C dX8_shown_65 kb_7 ?_
    refine J.iald (pc := 67) C dX8_shown_67 ?_
    refine J.imul (pc := 68) C dX8_shown_68 ?_
    refine J.bipush (pc := 69) C dX8_shown_69 kb_100 ?_
    refine J.idiv (pc := 71) C dX8_shown_71 ?_
    refine J.goto (pc := 72) C (tgt := 77) dX8_shown_72 rfl ?_
    exact J.iret (pc := 77) C rfl rfl ⟨Nat.le_refl _, Nat.le_refl _⟩ dX8_shown_77
abbrev rm_X8_size : Room := { frames := 0, cells := 0, slots := 0, locals := 0 }
def f_X8_size (a0 : Int32) : Option Int32 :=
  (if (0 : Int32) ≤ a0 then
  (some a0)
  else (some (-a0)))
set_option maxRecDepth 100000 in
set_option maxHeartbeats 4000000 in
theorem c_X8_size (l : Launch) (g : GG) (S : St) (a0 : Int32) : Ct l yX8_size cX8_size 1 (some .int) rm_X8_size g aI (pK S) [.int a0] S (f_X8_size a0) := by
  refine Ct.mk (cf := cw (0, 0)) (by decide +kernel) (cat_i cat_n) (Nat.le_of_ble_eq_true rfl) rfl ?_
  intro X hXl hin C
  show J X g _ _ 0 [(0, .int a0)] [] S (f_X8_size a0)
  unfold f_X8_size
  refine J.iload_n (pc := 0) C dX8_size_0 rfl rfl ?_
  refine J.if_ge (pc := 1) C (tgt := 9) dX8_size_1 rfl ?_ ?_
  · refine J.iload_n (pc := 9) C dX8_size_9 rfl rfl ?_
    exact J.iret (pc := 10) C rfl rfl ⟨Nat.le_refl _, Nat.le_refl _⟩ dX8_size_10
  · refine J.iload_n (pc := 4) C dX8_size_4 rfl rfl ?_
    refine J.ineg (pc := 5) C dX8_size_5 ?_
    refine J.goto (pc := 6) C (tgt := 10) dX8_size_6 rfl ?_
    exact J.iret (pc := 10) C rfl rfl ⟨Nat.le_refl _, Nat.le_refl _⟩ dX8_size_10
abbrev rm_X8_edgesAt : Room := { frames := 3, cells := 0, slots := 0, locals := 75 }
def f_X8_edgesAt_B5 (S : St) (a0 : Nat) (a1 : Int32) (a2 : Int32) (kx5 : Int32 → Option Int32) (k5 : Int32 → Int32 → Option Int32) (x3 : Int32) (x4 : Int32) : Option Int32 :=
  (chk (okc S 8 a0)
  (chk (ina S 10 (S.2.1 a0 0) 1)
  (if (S.1 (S.2.1 a0 0) (1 : Int32).toNatClampNeg) ≤ x4 then
  (kx5 x3)
  else (chk (okc S 8 a0)
  (chk (ina S 10 (S.2.1 a0 0) 34)
  (bnd (f_X8_has (S.1 (S.2.1 a0 0) (34 : Int32).toNatClampNeg) a1) fun r1 =>
  (if r1 = 0 then
  (chk (okc S 8 a0)
  (bnd (f_X8_shown S (S.2.1 a0 0) a1 x4 a2) fun r2 =>
  (chk (okc S 8 a0)
  (bnd (f_X8_shown S (S.2.1 a0 0) a1 (x4 - 1) a2) fun r3 =>
  (bnd (f_X8_size (r2 - r3)) fun r4 =>
  (chk (okc S 8 a0)
  (chk (ina S 10 (S.2.1 a0 0) 3)
  (if r4 < (S.1 (S.2.1 a0 0) (3 : Int32).toNatClampNeg) then
  (k5 (x3 ||| 0) (x4 + 1))
  else (k5 (x3 ||| (1 <<< (x4 &&& 31))) (x4 + 1))))))))))
  else (kx5 x3))))))))
set_option maxRecDepth 100000 in
set_option maxHeartbeats 4000000 in
theorem w_X8_edgesAt_B5 {X : CT} {g : GG} (C : CX X g cX8_edgesAt RX8 (some .int) 6 rm_X8_edgesAt) (S : St) (a0 : Nat) (a1 : Int32) (a2 : Int32) (kx5 : Int32 → Option Int32) (hkx5 : ∀ (x3 : Int32), J X g (Qm X g aI (pK S)) (cw (0, 0)) 88 [(3, .int x3)] [] S (kx5 x3)) : ∀ (n : Nat) (x3 : Int32) (x4 : Int32), J X g (Qm X g aI (pK S)) (cw (0, 0)) 5 [(0, rv g a0), (1, .int a1), (2, .int a2), (3, .int x3), (4, .int x4)] [] S (wl2 (f_X8_edgesAt_B5 S a0 a1 a2 kx5) n x3 x4) := by
  refine J.loop2 (lvf := fun (x3 : Int32) (x4 : Int32) => [(0, rv g a0), (1, .int a1), (2, .int a2), (3, .int x3), (4, .int x4)]) (Sf := fun (x3 : Int32) (x4 : Int32) => S) ?_
  intro k5 hk5 x3 x4
  show J X g _ _ 5 [(0, rv g a0), (1, .int a1), (2, .int a2), (3, .int x3), (4, .int x4)] [] S (f_X8_edgesAt_B5 S a0 a1 a2 kx5 k5 x3 x4)
  unfold f_X8_edgesAt_B5
  refine J.iload (pc := 5) C dX8_edgesAt_5 rfl ?_
  refine J.aload_n (pc := 7) C (x := a0) dX8_edgesAt_7 rfl rfl ?_
  refine J.getR (pc := 8) C fl_RX8_7 rfl dX8_edgesAt_8 ?_
  refine J.iconst (pc := 11) C dX8_edgesAt_11 ki_1 ?_
  refine J.iald (pc := 12) C dX8_edgesAt_12 ?_
  refine J.icmp_ge (pc := 13) C (tgt := 88) dX8_edgesAt_13 rfl ?_ ?_
  · exact J.pick [3] rfl (hkx5 _)
  · refine J.aload_n (pc := 16) C (x := a0) dX8_edgesAt_16 rfl rfl ?_
    refine J.getR (pc := 17) C fl_RX8_7 rfl dX8_edgesAt_17 ?_
    refine J.bipush (pc := 20) C dX8_edgesAt_20 kb_34 ?_
    refine J.iald (pc := 22) C dX8_edgesAt_22 ?_
    refine J.iload_n (pc := 23) C dX8_edgesAt_23 rfl rfl ?_
    refine J.sI (pc := 24) C ms_X8_has wm_RX8_104 (fun l => c_X8_has l g S (S.1 (S.2.1 a0 0) (34 : Int32).toNatClampNeg) a1) ⟨⟨Nat.zero_le _, Nat.zero_le _⟩, rfl, rfl⟩ rfl ⟨Nat.le_of_ble_eq_true rfl, Nat.le_of_ble_eq_true rfl⟩ rfl cat_n (Nat.le_of_ble_eq_true rfl) dX8_edgesAt_24 (fun r1 => ?_)
    refine J.if_ne (pc := 27) C (tgt := 88) dX8_edgesAt_27 rfl ?_ ?_
    · exact J.pick [3] rfl (hkx5 _)
    · refine J.aload_n (pc := 30) C (x := a0) dX8_edgesAt_30 rfl rfl ?_
      refine J.getR (pc := 31) C fl_RX8_7 rfl dX8_edgesAt_31 ?_
      refine J.iload_n (pc := 34) C dX8_edgesAt_34 rfl rfl ?_
      refine J.iload (pc := 35) C dX8_edgesAt_35 rfl ?_
      refine J.iload_n (pc := 37) C dX8_edgesAt_37 rfl rfl ?_
      refine J.sI (pc := 38) C ms_X8_shown wm_RX8_85 (fun l => c_X8_shown l g S (S.2.1 a0 0) a1 x4 a2) ⟨⟨Nat.zero_le _, Nat.zero_le _⟩, rfl, rfl⟩ rfl ⟨Nat.le_of_ble_eq_true rfl, Nat.le_of_ble_eq_true rfl⟩ rfl cat_n (Nat.le_of_ble_eq_true rfl) dX8_edgesAt_38 (fun r2 => ?_)
      refine J.aload_n (pc := 41) C (x := a0) dX8_edgesAt_41 rfl rfl ?_
      refine J.getR (pc := 42) C fl_RX8_7 rfl dX8_edgesAt_42 ?_
      refine J.iload_n (pc := 45) C dX8_edgesAt_45 rfl rfl ?_
      refine J.iload (pc := 46) C dX8_edgesAt_46 rfl ?_
      refine J.iconst (pc := 48) C dX8_edgesAt_48 ki_1 ?_
      refine J.isub (pc := 49) C dX8_edgesAt_49 ?_
      refine J.iload_n (pc := 50) C dX8_edgesAt_50 rfl rfl ?_
      refine J.sI (pc := 51) C ms_X8_shown wm_RX8_85 (fun l => c_X8_shown l g S (S.2.1 a0 0) a1 (x4 - 1) a2) ⟨⟨Nat.zero_le _, Nat.zero_le _⟩, rfl, rfl⟩ rfl ⟨Nat.le_of_ble_eq_true rfl, Nat.le_of_ble_eq_true rfl⟩ rfl (cat_i cat_n) (Nat.le_of_ble_eq_true rfl) dX8_edgesAt_51 (fun r3 => ?_)
      refine J.isub (pc := 54) C dX8_edgesAt_54 ?_
      refine J.sI (pc := 55) C ms_X8_size wm_RX8_124 (fun l => c_X8_size l g S (r2 - r3)) ⟨⟨Nat.zero_le _, Nat.zero_le _⟩, rfl, rfl⟩ rfl ⟨Nat.le_of_ble_eq_true rfl, Nat.le_of_ble_eq_true rfl⟩ rfl cat_n (Nat.le_of_ble_eq_true rfl) dX8_edgesAt_55 (fun r4 => ?_)
      refine J.istore (pc := 58) C (lv' := [(0, rv g a0), (1, .int a1), (2, .int a2), (3, .int x3), (4, .int x4), (5, .int r4)]) dX8_edgesAt_58 (Nat.le_of_ble_eq_true rfl) rfl ?_
      refine J.iload_n (pc := 60) C dX8_edgesAt_60 rfl rfl ?_
      refine J.iload (pc := 61) C dX8_edgesAt_61 rfl ?_
      refine J.aload_n (pc := 63) C (x := a0) dX8_edgesAt_63 rfl rfl ?_
      refine J.getR (pc := 64) C fl_RX8_7 rfl dX8_edgesAt_64 ?_
      refine J.iconst (pc := 67) C dX8_edgesAt_67 ki_3 ?_
      refine J.iald (pc := 68) C dX8_edgesAt_68 ?_
      refine J.icmp_lt (pc := 69) C (tgt := 79) dX8_edgesAt_69 rfl ?_ ?_
      · refine J.iconst (pc := 79) C dX8_edgesAt_79 ki_0 ?_
        refine J.ior (pc := 80) C dX8_edgesAt_80 ?_
        refine J.istore_n (pc := 81) C (lv' := [(0, rv g a0), (1, .int a1), (2, .int a2), (3, .int (x3 ||| 0)), (4, .int x4), (5, .int r4)]) dX8_edgesAt_81 rfl (Nat.le_of_ble_eq_true rfl) rfl ?_
        refine J.iinc (pc := 82) C (lv' := [(0, rv g a0), (1, .int a1), (2, .int a2), (3, .int (x3 ||| 0)), (4, .int (x4 + 1)), (5, .int r4)]) dX8_edgesAt_82 rfl (Nat.le_of_ble_eq_true rfl) ki_1 rfl ?_
        refine J.goto (pc := 85) C (tgt := 5) dX8_edgesAt_85 rfl ?_
        exact J.pick [0, 1, 2, 3, 4] rfl (hk5 _ _)
      · refine J.iconst (pc := 72) C dX8_edgesAt_72 ki_1 ?_
        refine J.iload (pc := 73) C dX8_edgesAt_73 rfl ?_
        refine J.ishl (pc := 75) C dX8_edgesAt_75 ?_
        refine J.goto (pc := 76) C (tgt := 80) dX8_edgesAt_76 rfl ?_
        refine J.ior (pc := 80) C dX8_edgesAt_80 ?_
        refine J.istore_n (pc := 81) C (lv' := [(0, rv g a0), (1, .int a1), (2, .int a2), (3, .int (x3 ||| (1 <<< (x4 &&& 31)))), (4, .int x4), (5, .int r4)]) dX8_edgesAt_81 rfl (Nat.le_of_ble_eq_true rfl) rfl ?_
        refine J.iinc (pc := 82) C (lv' := [(0, rv g a0), (1, .int a1), (2, .int a2), (3, .int (x3 ||| (1 <<< (x4 &&& 31)))), (4, .int (x4 + 1)), (5, .int r4)]) dX8_edgesAt_82 rfl (Nat.le_of_ble_eq_true rfl) ki_1 rfl ?_
        refine J.goto (pc := 85) C (tgt := 5) dX8_edgesAt_85 rfl ?_
        exact J.pick [0, 1, 2, 3, 4] rfl (hk5 _ _)
def f_X8_edgesAt (S : St) (a0 : Nat) (a1 : Int32) (a2 : Int32) : Option Int32 :=
  (wl2 (f_X8_edgesAt_B5 S a0 a1 a2 (fun (y3_5 : Int32) => (some y3_5))) FU 0 1)
set_option maxRecDepth 100000 in
set_option maxHeartbeats 4000000 in
theorem c_X8_edgesAt (l : Launch) (g : GG) (S : St) (a0 : Nat) (a1 : Int32) (a2 : Int32) : Ct l yX8_edgesAt cX8_edgesAt 6 (some .int) rm_X8_edgesAt g aI (pK S) [rv g a0, .int a1, .int a2] S (f_X8_edgesAt S a0 a1 a2) := by
  refine Ct.mk (cf := cw (0, 0)) (by decide +kernel) (cat_r (cat_i (cat_i cat_n))) (Nat.le_of_ble_eq_true rfl) rfl ?_
  intro X hXl hin C
  show J X g _ _ 0 [(0, rv g a0), (1, .int a1), (2, .int a2)] [] S (f_X8_edgesAt S a0 a1 a2)
  unfold f_X8_edgesAt
  refine J.iconst (pc := 0) C dX8_edgesAt_0 ki_0 ?_
  refine J.istore_n (pc := 1) C (lv' := [(0, rv g a0), (1, .int a1), (2, .int a2), (3, .int 0)]) dX8_edgesAt_1 rfl (Nat.le_of_ble_eq_true rfl) rfl ?_
  refine J.iconst (pc := 2) C dX8_edgesAt_2 ki_1 ?_
  refine J.istore (pc := 3) C (lv' := [(0, rv g a0), (1, .int a1), (2, .int a2), (3, .int 0), (4, .int 1)]) dX8_edgesAt_3 (Nat.le_of_ble_eq_true rfl) rfl ?_
  refine w_X8_edgesAt_B5 C _ _ _ _ _ (fun y3_5 => ?_) FU _ _
  refine J.iload_n (pc := 88) C dX8_edgesAt_88 rfl rfl ?_
  exact J.iret (pc := 89) C rfl rfl ⟨Nat.le_refl _, Nat.le_refl _⟩ dX8_edgesAt_89
abbrev rm_X8_in : Room := { frames := 0, cells := 0, slots := 0, locals := 0 }
def f_X8_in (a0 : Int32) (a1 : Int32) (a2 : Int32) : Option Int32 :=
  (if a0 < a1 then
  (some 0)
  else (if a2 < a0 then
  (some 0)
  else (some 1)))
set_option maxRecDepth 100000 in
set_option maxHeartbeats 4000000 in
theorem c_X8_in (l : Launch) (g : GG) (S : St) (a0 : Int32) (a1 : Int32) (a2 : Int32) : Ct l yX8_in cX8_in 3 (some .boolean) rm_X8_in g aI (pK S) [.int a0, .int a1, .int a2] S (f_X8_in a0 a1 a2) := by
  refine Ct.mk (cf := cw (0, 0)) (by decide +kernel) (cat_i (cat_i (cat_i cat_n))) (Nat.le_of_ble_eq_true rfl) rfl ?_
  intro X hXl hin C
  show J X g _ _ 0 [(0, .int a0), (1, .int a1), (2, .int a2)] [] S (f_X8_in a0 a1 a2)
  unfold f_X8_in
  refine J.iload_n (pc := 0) C dX8_in_0 rfl rfl ?_
  refine J.iload_n (pc := 1) C dX8_in_1 rfl rfl ?_
  refine J.icmp_lt (pc := 2) C (tgt := 14) dX8_in_2 rfl ?_ ?_
  · refine J.iconst (pc := 14) C dX8_in_14 ki_0 ?_
    exact J.zret (pc := 15) C rfl rfl rfl ⟨Nat.le_refl _, Nat.le_refl _⟩ dX8_in_15
  · refine J.iload_n (pc := 5) C dX8_in_5 rfl rfl ?_
    refine J.iload_n (pc := 6) C dX8_in_6 rfl rfl ?_
    refine J.icmp_gt (pc := 7) C (tgt := 14) dX8_in_7 rfl ?_ ?_
    · refine J.iconst (pc := 14) C dX8_in_14 ki_0 ?_
      exact J.zret (pc := 15) C rfl rfl rfl ⟨Nat.le_refl _, Nat.le_refl _⟩ dX8_in_15
    · refine J.iconst (pc := 10) C dX8_in_10 ki_1 ?_
      refine J.goto (pc := 11) C (tgt := 15) dX8_in_11 rfl ?_
      exact J.zret (pc := 15) C rfl rfl rfl ⟨Nat.le_refl _, Nat.le_refl _⟩ dX8_in_15
abbrev rm_X8_frameValue : Room := { frames := 0, cells := 0, slots := 0, locals := 0 }
def f_X8_frameValue (S : St) (a0 : Nat) (a1 : Int32) (a2 : Int32) : Option Int32 :=
  (chk (okc S 8 a0)
  (chk (ina S 10 (S.2.1 a0 0) ((37 + (162 * a1)) + a2))
  (some (S.1 (S.2.1 a0 0) ((37 + (162 * a1)) + a2).toNatClampNeg))))
set_option maxRecDepth 100000 in
set_option maxHeartbeats 4000000 in
theorem c_X8_frameValue (l : Launch) (g : GG) (S : St) (a0 : Nat) (a1 : Int32) (a2 : Int32) : Ct l yX8_frameValue cX8_frameValue 3 (some .int) rm_X8_frameValue g aI (pK S) [rv g a0, .int a1, .int a2] S (f_X8_frameValue S a0 a1 a2) := by
  refine Ct.mk (cf := cw (0, 0)) (by decide +kernel) (cat_r (cat_i (cat_i cat_n))) (Nat.le_of_ble_eq_true rfl) rfl ?_
  intro X hXl hin C
  show J X g _ _ 0 [(0, rv g a0), (1, .int a1), (2, .int a2)] [] S (f_X8_frameValue S a0 a1 a2)
  unfold f_X8_frameValue
  refine J.aload_n (pc := 0) C (x := a0) dX8_frameValue_0 rfl rfl ?_
  refine J.getR (pc := 1) C fl_RX8_7 rfl dX8_frameValue_1 ?_
  refine J.bipush (pc := 4) C dX8_frameValue_4 kb_37 ?_
  refine J.sipush (pc := 6) C dX8_frameValue_6 ks_162 ?_
  refine J.iload_n (pc := 9) C dX8_frameValue_9 rfl rfl ?_
  refine J.imul (pc := 10) C dX8_frameValue_10 ?_
  refine J.iadd (pc := 11) C dX8_frameValue_11 ?_
  refine J.iload_n (pc := 12) C dX8_frameValue_12 rfl rfl ?_
  refine J.iadd (pc := 13) C dX8_frameValue_13 ?_
  refine J.iald (pc := 14) C dX8_frameValue_14 ?_
  exact J.iret (pc := 15) C rfl rfl ⟨Nat.le_refl _, Nat.le_refl _⟩ dX8_frameValue_15
abbrev rm_X8_isSeen : Room := { frames := 1, cells := 0, slots := 0, locals := 22 }
def f_X8_isSeen (S : St) (a0 : Nat) (a1 : Int32) (a2 : Int32) : Option Int32 :=
  (chk (okc S 8 a0) (bnd (f_X8_frameValue S a0 a1 1) fun r1 =>
  (bnd (f_X8_has r1 a2) fun r2 =>
  (if r2 = 0 then
  (some 1)
  else (some 0)))))
set_option maxRecDepth 100000 in
set_option maxHeartbeats 4000000 in
theorem c_X8_isSeen (l : Launch) (g : GG) (S : St) (a0 : Nat) (a1 : Int32) (a2 : Int32) : Ct l yX8_isSeen cX8_isSeen 3 (some .boolean) rm_X8_isSeen g aI (pK S) [rv g a0, .int a1, .int a2] S (f_X8_isSeen S a0 a1 a2) := by
  refine Ct.mk (cf := cw (0, 0)) (by decide +kernel) (cat_r (cat_i (cat_i cat_n))) (Nat.le_of_ble_eq_true rfl) rfl ?_
  intro X hXl hin C
  show J X g _ _ 0 [(0, rv g a0), (1, .int a1), (2, .int a2)] [] S (f_X8_isSeen S a0 a1 a2)
  unfold f_X8_isSeen
  refine J.aload_n (pc := 0) C (x := a0) dX8_isSeen_0 rfl rfl ?_
  refine J.iload_n (pc := 1) C dX8_isSeen_1 rfl rfl ?_
  refine J.iconst (pc := 2) C dX8_isSeen_2 ki_1 ?_
  refine J.vI (pc := 3) C mv_X8_frameValue wm_RX8_100 (fun l => c_X8_frameValue l g S a0 a1 1) ⟨⟨Nat.zero_le _, Nat.zero_le _⟩, rfl, rfl⟩ rfl ⟨Nat.le_of_ble_eq_true rfl, Nat.le_of_ble_eq_true rfl⟩ rfl cat_n (Nat.le_of_ble_eq_true rfl) dX8_isSeen_3 (fun r1 => ?_)
  refine J.iload_n (pc := 6) C dX8_isSeen_6 rfl rfl ?_
  refine J.sI (pc := 7) C ms_X8_has wm_RX8_104 (fun l => c_X8_has l g S r1 a2) ⟨⟨Nat.zero_le _, Nat.zero_le _⟩, rfl, rfl⟩ rfl ⟨Nat.le_of_ble_eq_true rfl, Nat.le_of_ble_eq_true rfl⟩ rfl cat_n (Nat.le_of_ble_eq_true rfl) dX8_isSeen_7 (fun r2 => ?_)
  refine J.if_ne (pc := 10) C (tgt := 17) dX8_isSeen_10 rfl ?_ ?_
  · refine J.iconst (pc := 17) C dX8_isSeen_17 ki_0 ?_
    exact J.zret (pc := 18) C rfl rfl rfl ⟨Nat.le_refl _, Nat.le_refl _⟩ dX8_isSeen_18
  · refine J.iconst (pc := 13) C dX8_isSeen_13 ki_1 ?_
    refine J.goto (pc := 14) C (tgt := 18) dX8_isSeen_14 rfl ?_
    exact J.zret (pc := 18) C rfl rfl rfl ⟨Nat.le_refl _, Nat.le_refl _⟩ dX8_isSeen_18
abbrev rm_X8_pixelOf : Room := { frames := 1, cells := 0, slots := 0, locals := 22 }
def f_X8_pixelOf (S : St) (a0 : Nat) (a1 : Int32) (a2 : Int32) (a3 : Int32) : Option Int32 :=
  (chk (okc S 8 a0) (bnd (f_X8_frameValue S a0 a1 ((2 + (16 * a2)) + a3)) fun r1 =>
  (some r1)))
set_option maxRecDepth 100000 in
set_option maxHeartbeats 4000000 in
theorem c_X8_pixelOf (l : Launch) (g : GG) (S : St) (a0 : Nat) (a1 : Int32) (a2 : Int32) (a3 : Int32) : Ct l yX8_pixelOf cX8_pixelOf 4 (some .int) rm_X8_pixelOf g aI (pK S) [rv g a0, .int a1, .int a2, .int a3] S (f_X8_pixelOf S a0 a1 a2 a3) := by
  refine Ct.mk (cf := cw (0, 0)) (by decide +kernel) (cat_r (cat_i (cat_i (cat_i cat_n)))) (Nat.le_of_ble_eq_true rfl) rfl ?_
  intro X hXl hin C
  show J X g _ _ 0 [(0, rv g a0), (1, .int a1), (2, .int a2), (3, .int a3)] [] S (f_X8_pixelOf S a0 a1 a2 a3)
  unfold f_X8_pixelOf
  refine J.aload_n (pc := 0) C (x := a0) dX8_pixelOf_0 rfl rfl ?_
  refine J.iload_n (pc := 1) C dX8_pixelOf_1 rfl rfl ?_
  refine J.iconst (pc := 2) C dX8_pixelOf_2 ki_2 ?_
  refine J.bipush (pc := 3) C dX8_pixelOf_3 kb_16 ?_
  refine J.iload_n (pc := 5) C dX8_pixelOf_5 rfl rfl ?_
  refine J.imul (pc := 6) C dX8_pixelOf_6 ?_
  refine J.iadd (pc := 7) C dX8_pixelOf_7 ?_
  refine J.iload_n (pc := 8) C dX8_pixelOf_8 rfl rfl ?_
  refine J.iadd (pc := 9) C dX8_pixelOf_9 ?_
  refine J.vI (pc := 10) C mv_X8_frameValue wm_RX8_100 (fun l => c_X8_frameValue l g S a0 a1 ((2 + (16 * a2)) + a3)) ⟨⟨Nat.zero_le _, Nat.zero_le _⟩, rfl, rfl⟩ rfl ⟨Nat.le_of_ble_eq_true rfl, Nat.le_of_ble_eq_true rfl⟩ rfl cat_n (Nat.le_of_ble_eq_true rfl) dX8_pixelOf_10 (fun r1 => ?_)
  exact J.iret (pc := 13) C rfl rfl ⟨Nat.le_refl _, Nat.le_refl _⟩ dX8_pixelOf_13
abbrev rm_X8_isEdge : Room := { frames := 2, cells := 0, slots := 0, locals := 45 }
def f_X8_isEdge (S : St) (a0 : Nat) (a1 : Int32) (a2 : Int32) (a3 : Int32) : Option Int32 :=
  (chk (okc S 8 a0) (bnd (f_X8_isSeen S a0 a1 a2) fun r1 =>
  (if r1 = 0 then
  (some 0)
  else (chk (okc S 8 a0)
  (chk (ina S 10 (S.2.1 a0 0) 1)
  (bnd (f_X8_in a3 1 ((S.1 (S.2.1 a0 0) (1 : Int32).toNatClampNeg) - 1)) fun r2 =>
  (if r2 = 0 then
  (some 0)
  else (chk (okc S 8 a0) (bnd (f_X8_pixelOf S a0 a1 a2 a3) fun r3 =>
  (chk (okc S 8 a0) (bnd (f_X8_pixelOf S a0 a1 a2 (a3 - 1)) fun r4 =>
  (chk (okc S 8 a0)
  (chk (ina S 10 (S.2.1 a0 0) 3)
  (if (S.1 (S.2.1 a0 0) (3 : Int32).toNatClampNeg) ≤ (r3 - r4) then
  (some 1)
  else (chk (okc S 8 a0)
  (chk (ina S 10 (S.2.1 a0 0) 3)
  (if (-(r3 - r4)) < (S.1 (S.2.1 a0 0) (3 : Int32).toNatClampNeg) then
  (some 0)
  else (some 1))))))))))))))))))
set_option maxRecDepth 100000 in
set_option maxHeartbeats 4000000 in
theorem c_X8_isEdge (l : Launch) (g : GG) (S : St) (a0 : Nat) (a1 : Int32) (a2 : Int32) (a3 : Int32) : Ct l yX8_isEdge cX8_isEdge 5 (some .boolean) rm_X8_isEdge g aI (pK S) [rv g a0, .int a1, .int a2, .int a3] S (f_X8_isEdge S a0 a1 a2 a3) := by
  refine Ct.mk (cf := cw (0, 0)) (by decide +kernel) (cat_r (cat_i (cat_i (cat_i cat_n)))) (Nat.le_of_ble_eq_true rfl) rfl ?_
  intro X hXl hin C
  show J X g _ _ 0 [(0, rv g a0), (1, .int a1), (2, .int a2), (3, .int a3)] [] S (f_X8_isEdge S a0 a1 a2 a3)
  unfold f_X8_isEdge
  refine J.aload_n (pc := 0) C (x := a0) dX8_isEdge_0 rfl rfl ?_
  refine J.iload_n (pc := 1) C dX8_isEdge_1 rfl rfl ?_
  refine J.iload_n (pc := 2) C dX8_isEdge_2 rfl rfl ?_
  refine J.vI (pc := 3) C mv_X8_isSeen wm_RX8_107 (fun l => c_X8_isSeen l g S a0 a1 a2) ⟨⟨Nat.zero_le _, Nat.zero_le _⟩, rfl, rfl⟩ rfl ⟨Nat.le_of_ble_eq_true rfl, Nat.le_of_ble_eq_true rfl⟩ rfl cat_n (Nat.le_of_ble_eq_true rfl) dX8_isEdge_3 (fun r1 => ?_)
  refine J.if_eq (pc := 6) C (tgt := 25) dX8_isEdge_6 rfl ?_ ?_
  · refine J.iconst (pc := 25) C dX8_isEdge_25 ki_0 ?_
    exact J.zret (pc := 26) C rfl rfl rfl ⟨Nat.le_refl _, Nat.le_refl _⟩ dX8_isEdge_26
  · refine J.iload_n (pc := 9) C dX8_isEdge_9 rfl rfl ?_
    refine J.iconst (pc := 10) C dX8_isEdge_10 ki_1 ?_
    refine J.aload_n (pc := 11) C (x := a0) dX8_isEdge_11 rfl rfl ?_
    refine J.getR (pc := 12) C fl_RX8_7 rfl dX8_isEdge_12 ?_
    refine J.iconst (pc := 15) C dX8_isEdge_15 ki_1 ?_
    refine J.iald (pc := 16) C dX8_isEdge_16 ?_
    refine J.iconst (pc := 17) C dX8_isEdge_17 ki_1 ?_
    refine J.isub (pc := 18) C dX8_isEdge_18 ?_
    refine J.sI (pc := 19) C ms_X8_in wm_RX8_36 (fun l => c_X8_in l g S a3 1 ((S.1 (S.2.1 a0 0) (1 : Int32).toNatClampNeg) - 1)) ⟨⟨Nat.zero_le _, Nat.zero_le _⟩, rfl, rfl⟩ rfl ⟨Nat.le_of_ble_eq_true rfl, Nat.le_of_ble_eq_true rfl⟩ rfl cat_n (Nat.le_of_ble_eq_true rfl) dX8_isEdge_19 (fun r2 => ?_)
    refine J.if_ne (pc := 22) C (tgt := 27) dX8_isEdge_22 rfl ?_ ?_
    · refine J.aload_n (pc := 27) C (x := a0) dX8_isEdge_27 rfl rfl ?_
      refine J.iload_n (pc := 28) C dX8_isEdge_28 rfl rfl ?_
      refine J.iload_n (pc := 29) C dX8_isEdge_29 rfl rfl ?_
      refine J.iload_n (pc := 30) C dX8_isEdge_30 rfl rfl ?_
      refine J.vI (pc := 31) C mv_X8_pixelOf wm_RX8_110 (fun l => c_X8_pixelOf l g S a0 a1 a2 a3) ⟨⟨Nat.zero_le _, Nat.zero_le _⟩, rfl, rfl⟩ rfl ⟨Nat.le_of_ble_eq_true rfl, Nat.le_of_ble_eq_true rfl⟩ rfl cat_n (Nat.le_of_ble_eq_true rfl) dX8_isEdge_31 (fun r3 => ?_)
      refine J.aload_n (pc := 34) C (x := a0) dX8_isEdge_34 rfl rfl ?_
      refine J.iload_n (pc := 35) C dX8_isEdge_35 rfl rfl ?_
      refine J.iload_n (pc := 36) C dX8_isEdge_36 rfl rfl ?_
      refine J.iload_n (pc := 37) C dX8_isEdge_37 rfl rfl ?_
      refine J.iconst (pc := 38) C dX8_isEdge_38 ki_1 ?_
      refine J.isub (pc := 39) C dX8_isEdge_39 ?_
      refine J.vI (pc := 40) C mv_X8_pixelOf wm_RX8_110 (fun l => c_X8_pixelOf l g S a0 a1 a2 (a3 - 1)) ⟨⟨Nat.zero_le _, Nat.zero_le _⟩, rfl, rfl⟩ rfl ⟨Nat.le_of_ble_eq_true rfl, Nat.le_of_ble_eq_true rfl⟩ rfl (cat_i cat_n) (Nat.le_of_ble_eq_true rfl) dX8_isEdge_40 (fun r4 => ?_)
      refine J.isub (pc := 43) C dX8_isEdge_43 ?_
      refine J.istore (pc := 44) C (lv' := [(0, rv g a0), (1, .int a1), (2, .int a2), (3, .int a3), (4, .int (r3 - r4))]) dX8_isEdge_44 (Nat.le_of_ble_eq_true rfl) rfl ?_
      refine J.iload (pc := 46) C dX8_isEdge_46 rfl ?_
      refine J.aload_n (pc := 48) C (x := a0) dX8_isEdge_48 rfl rfl ?_
      refine J.getR (pc := 49) C fl_RX8_7 rfl dX8_isEdge_49 ?_
      refine J.iconst (pc := 52) C dX8_isEdge_52 ki_3 ?_
      refine J.iald (pc := 53) C dX8_isEdge_53 ?_
      refine J.icmp_ge (pc := 54) C (tgt := 69) dX8_isEdge_54 rfl ?_ ?_
      · refine J.iconst (pc := 69) C dX8_isEdge_69 ki_1 ?_
        refine J.goto (pc := 70) C (tgt := 74) dX8_isEdge_70 rfl ?_
        exact J.zret (pc := 74) C rfl rfl rfl ⟨Nat.le_refl _, Nat.le_refl _⟩ dX8_isEdge_74
      · refine J.iload (pc := 57) C dX8_isEdge_57 rfl ?_
        refine J.ineg (pc := 59) C dX8_isEdge_59 ?_
        refine J.aload_n (pc := 60) C (x := a0) dX8_isEdge_60 rfl rfl ?_
        refine J.getR (pc := 61) C fl_RX8_7 rfl dX8_isEdge_61 ?_
        refine J.iconst (pc := 64) C dX8_isEdge_64 ki_3 ?_
        refine J.iald (pc := 65) C dX8_isEdge_65 ?_
        refine J.icmp_lt (pc := 66) C (tgt := 73) dX8_isEdge_66 rfl ?_ ?_
        · refine J.iconst (pc := 73) C dX8_isEdge_73 ki_0 ?_
          exact J.zret (pc := 74) C rfl rfl rfl ⟨Nat.le_refl _, Nat.le_refl _⟩ dX8_isEdge_74
        · refine J.iconst (pc := 69) C dX8_isEdge_69 ki_1 ?_
          refine J.goto (pc := 70) C (tgt := 74) dX8_isEdge_70 rfl ?_
          exact J.zret (pc := 74) C rfl rfl rfl ⟨Nat.le_refl _, Nat.le_refl _⟩ dX8_isEdge_74
    · refine J.iconst (pc := 25) C dX8_isEdge_25 ki_0 ?_
      exact J.zret (pc := 26) C rfl rfl rfl ⟨Nat.le_refl _, Nat.le_refl _⟩ dX8_isEdge_26
abbrev rm_X8_edgesIn : Room := { frames := 3, cells := 0, slots := 0, locals := 69 }
def f_X8_edgesIn_B5 (S : St) (a0 : Nat) (a1 : Int32) (a2 : Int32) (kx5 : Int32 → Option Int32) (k5 : Int32 → Int32 → Option Int32) (x3 : Int32) (x4 : Int32) : Option Int32 :=
  (chk (okc S 8 a0)
  (chk (ina S 10 (S.2.1 a0 0) 1)
  (if (S.1 (S.2.1 a0 0) (1 : Int32).toNatClampNeg) ≤ x4 then
  (kx5 x3)
  else (chk (okc S 8 a0) (bnd (f_X8_isEdge S a0 a1 a2 x4) fun r1 =>
  (if r1 = 0 then
  (k5 (x3 ||| 0) (x4 + 1))
  else (k5 (x3 ||| (1 <<< (x4 &&& 31))) (x4 + 1))))))))
set_option maxRecDepth 100000 in
set_option maxHeartbeats 4000000 in
theorem w_X8_edgesIn_B5 {X : CT} {g : GG} (C : CX X g cX8_edgesIn RX8 (some .int) 5 rm_X8_edgesIn) (S : St) (a0 : Nat) (a1 : Int32) (a2 : Int32) (kx5 : Int32 → Option Int32) (hkx5 : ∀ (x3 : Int32), J X g (Qm X g aI (pK S)) (cw (0, 0)) 44 [(3, .int x3)] [] S (kx5 x3)) : ∀ (n : Nat) (x3 : Int32) (x4 : Int32), J X g (Qm X g aI (pK S)) (cw (0, 0)) 5 [(0, rv g a0), (1, .int a1), (2, .int a2), (3, .int x3), (4, .int x4)] [] S (wl2 (f_X8_edgesIn_B5 S a0 a1 a2 kx5) n x3 x4) := by
  refine J.loop2 (lvf := fun (x3 : Int32) (x4 : Int32) => [(0, rv g a0), (1, .int a1), (2, .int a2), (3, .int x3), (4, .int x4)]) (Sf := fun (x3 : Int32) (x4 : Int32) => S) ?_
  intro k5 hk5 x3 x4
  show J X g _ _ 5 [(0, rv g a0), (1, .int a1), (2, .int a2), (3, .int x3), (4, .int x4)] [] S (f_X8_edgesIn_B5 S a0 a1 a2 kx5 k5 x3 x4)
  unfold f_X8_edgesIn_B5
  refine J.iload (pc := 5) C dX8_edgesIn_5 rfl ?_
  refine J.aload_n (pc := 7) C (x := a0) dX8_edgesIn_7 rfl rfl ?_
  refine J.getR (pc := 8) C fl_RX8_7 rfl dX8_edgesIn_8 ?_
  refine J.iconst (pc := 11) C dX8_edgesIn_11 ki_1 ?_
  refine J.iald (pc := 12) C dX8_edgesIn_12 ?_
  refine J.icmp_ge (pc := 13) C (tgt := 44) dX8_edgesIn_13 rfl ?_ ?_
  · exact J.pick [3] rfl (hkx5 _)
  · refine J.iload_n (pc := 16) C dX8_edgesIn_16 rfl rfl ?_
    refine J.aload_n (pc := 17) C (x := a0) dX8_edgesIn_17 rfl rfl ?_
    refine J.iload_n (pc := 18) C dX8_edgesIn_18 rfl rfl ?_
    refine J.iload_n (pc := 19) C dX8_edgesIn_19 rfl rfl ?_
    refine J.iload (pc := 20) C dX8_edgesIn_20 rfl ?_
    refine J.vI (pc := 22) C mv_X8_isEdge wm_RX8_114 (fun l => c_X8_isEdge l g S a0 a1 a2 x4) ⟨⟨Nat.zero_le _, Nat.zero_le _⟩, rfl, rfl⟩ rfl ⟨Nat.le_of_ble_eq_true rfl, Nat.le_of_ble_eq_true rfl⟩ rfl (cat_i cat_n) (Nat.le_of_ble_eq_true rfl) dX8_edgesIn_22 (fun r1 => ?_)
    refine J.if_eq (pc := 25) C (tgt := 35) dX8_edgesIn_25 rfl ?_ ?_
    · refine J.iconst (pc := 35) C dX8_edgesIn_35 ki_0 ?_
      refine J.ior (pc := 36) C dX8_edgesIn_36 ?_
      refine J.istore_n (pc := 37) C (lv' := [(0, rv g a0), (1, .int a1), (2, .int a2), (3, .int (x3 ||| 0)), (4, .int x4)]) dX8_edgesIn_37 rfl (Nat.le_of_ble_eq_true rfl) rfl ?_
      refine J.iinc (pc := 38) C (lv' := [(0, rv g a0), (1, .int a1), (2, .int a2), (3, .int (x3 ||| 0)), (4, .int (x4 + 1))]) dX8_edgesIn_38 rfl (Nat.le_of_ble_eq_true rfl) ki_1 rfl ?_
      refine J.goto (pc := 41) C (tgt := 5) dX8_edgesIn_41 rfl ?_
      exact (hk5 _ _)
    · refine J.iconst (pc := 28) C dX8_edgesIn_28 ki_1 ?_
      refine J.iload (pc := 29) C dX8_edgesIn_29 rfl ?_
      refine J.ishl (pc := 31) C dX8_edgesIn_31 ?_
      refine J.goto (pc := 32) C (tgt := 36) dX8_edgesIn_32 rfl ?_
      refine J.ior (pc := 36) C dX8_edgesIn_36 ?_
      refine J.istore_n (pc := 37) C (lv' := [(0, rv g a0), (1, .int a1), (2, .int a2), (3, .int (x3 ||| (1 <<< (x4 &&& 31)))), (4, .int x4)]) dX8_edgesIn_37 rfl (Nat.le_of_ble_eq_true rfl) rfl ?_
      refine J.iinc (pc := 38) C (lv' := [(0, rv g a0), (1, .int a1), (2, .int a2), (3, .int (x3 ||| (1 <<< (x4 &&& 31)))), (4, .int (x4 + 1))]) dX8_edgesIn_38 rfl (Nat.le_of_ble_eq_true rfl) ki_1 rfl ?_
      refine J.goto (pc := 41) C (tgt := 5) dX8_edgesIn_41 rfl ?_
      exact (hk5 _ _)
def f_X8_edgesIn (S : St) (a0 : Nat) (a1 : Int32) (a2 : Int32) : Option Int32 :=
  (wl2 (f_X8_edgesIn_B5 S a0 a1 a2 (fun (y3_2 : Int32) => (some y3_2))) FU 0 1)
set_option maxRecDepth 100000 in
set_option maxHeartbeats 4000000 in
theorem c_X8_edgesIn (l : Launch) (g : GG) (S : St) (a0 : Nat) (a1 : Int32) (a2 : Int32) : Ct l yX8_edgesIn cX8_edgesIn 5 (some .int) rm_X8_edgesIn g aI (pK S) [rv g a0, .int a1, .int a2] S (f_X8_edgesIn S a0 a1 a2) := by
  refine Ct.mk (cf := cw (0, 0)) (by decide +kernel) (cat_r (cat_i (cat_i cat_n))) (Nat.le_of_ble_eq_true rfl) rfl ?_
  intro X hXl hin C
  show J X g _ _ 0 [(0, rv g a0), (1, .int a1), (2, .int a2)] [] S (f_X8_edgesIn S a0 a1 a2)
  unfold f_X8_edgesIn
  refine J.iconst (pc := 0) C dX8_edgesIn_0 ki_0 ?_
  refine J.istore_n (pc := 1) C (lv' := [(0, rv g a0), (1, .int a1), (2, .int a2), (3, .int 0)]) dX8_edgesIn_1 rfl (Nat.le_of_ble_eq_true rfl) rfl ?_
  refine J.iconst (pc := 2) C dX8_edgesIn_2 ki_1 ?_
  refine J.istore (pc := 3) C (lv' := [(0, rv g a0), (1, .int a1), (2, .int a2), (3, .int 0), (4, .int 1)]) dX8_edgesIn_3 (Nat.le_of_ble_eq_true rfl) rfl ?_
  refine w_X8_edgesIn_B5 C _ _ _ _ _ (fun y3_2 => ?_) FU _ _
  refine J.iload_n (pc := 44) C dX8_edgesIn_44 rfl rfl ?_
  exact J.iret (pc := 45) C rfl rfl ⟨Nat.le_refl _, Nat.le_refl _⟩ dX8_edgesIn_45
abbrev rm_X8_isFrame : Room := { frames := 1, cells := 0, slots := 0, locals := 22 }
def f_X8_isFrame (S : St) (a0 : Nat) (a1 : Int32) : Option Int32 :=
  (chk (okc S 8 a0)
  (chk (ina S 10 (S.2.1 a0 0) 36)
  (bnd (f_X8_in a1 0 ((S.1 (S.2.1 a0 0) (36 : Int32).toNatClampNeg) - 1)) fun r1 =>
  (chk (r1 = 0 ∨ r1 = 1) (some r1)))))
set_option maxRecDepth 100000 in
set_option maxHeartbeats 4000000 in
theorem c_X8_isFrame (l : Launch) (g : GG) (S : St) (a0 : Nat) (a1 : Int32) : Ct l yX8_isFrame cX8_isFrame 2 (some .boolean) rm_X8_isFrame g aI (pK S) [rv g a0, .int a1] S (f_X8_isFrame S a0 a1) := by
  refine Ct.mk (cf := cw (0, 0)) (by decide +kernel) (cat_r (cat_i cat_n)) (Nat.le_of_ble_eq_true rfl) rfl ?_
  intro X hXl hin C
  show J X g _ _ 0 [(0, rv g a0), (1, .int a1)] [] S (f_X8_isFrame S a0 a1)
  unfold f_X8_isFrame
  refine J.iload_n (pc := 0) C dX8_isFrame_0 rfl rfl ?_
  refine J.iconst (pc := 1) C dX8_isFrame_1 ki_0 ?_
  refine J.aload_n (pc := 2) C (x := a0) dX8_isFrame_2 rfl rfl ?_
  refine J.getR (pc := 3) C fl_RX8_7 rfl dX8_isFrame_3 ?_
  refine J.bipush (pc := 6) C dX8_isFrame_6 kb_36 ?_
  refine J.iald (pc := 8) C dX8_isFrame_8 ?_
  refine J.iconst (pc := 9) C dX8_isFrame_9 ki_1 ?_
  refine J.isub (pc := 10) C dX8_isFrame_10 ?_
  refine J.sI (pc := 11) C ms_X8_in wm_RX8_36 (fun l => c_X8_in l g S a1 0 ((S.1 (S.2.1 a0 0) (36 : Int32).toNatClampNeg) - 1)) ⟨⟨Nat.zero_le _, Nat.zero_le _⟩, rfl, rfl⟩ rfl ⟨Nat.le_of_ble_eq_true rfl, Nat.le_of_ble_eq_true rfl⟩ rfl cat_n (Nat.le_of_ble_eq_true rfl) dX8_isFrame_11 (fun r1 => ?_)
  refine J.ck (fun hz => ?_)
  exact J.zret (pc := 14) C (nar_z hz) rfl rfl ⟨Nat.le_refl _, Nat.le_refl _⟩ dX8_isFrame_14
abbrev rm_X8_mostVoted : Room := { frames := 0, cells := 0, slots := 0, locals := 0 }
def f_X8_mostVoted_B6 (S : St) (a0 : Nat) (kx6 : Int32 → Int32 → Option Int32) (k6 : Int32 → Int32 → Int32 → Option Int32) (x1 : Int32) (x2 : Int32) (x3 : Int32) : Option Int32 :=
  (if (17 : Int32) ≤ x3 then
  (kx6 x1 x2)
  else (chk (okc S 8 a0)
  (chk (ina S 10 (S.2.1 a0 6) x3)
  (chk (okc S 8 a0)
  (chk (ina S 10 (S.2.1 a0 6) x1)
  (if (S.1 (S.2.1 a0 6) x3.toNatClampNeg) ≤ (S.1 (S.2.1 a0 6) x1.toNatClampNeg) then
  (chk (okc S 8 a0)
  (chk (ina S 10 (S.2.1 a0 6) x3)
  (chk (okc S 8 a0)
  (chk (ina S 10 (S.2.1 a0 6) x1)
  (if (S.1 (S.2.1 a0 6) x3.toNatClampNeg) = (S.1 (S.2.1 a0 6) x1.toNatClampNeg) then
  (k6 x1 (x2 + 1) (x3 + 1))
  else (k6 x1 x2 (x3 + 1)))))))
  else (k6 x3 0 (x3 + 1))))))))
set_option maxRecDepth 100000 in
set_option maxHeartbeats 4000000 in
theorem w_X8_mostVoted_B6 {X : CT} {g : GG} (C : CX X g cX8_mostVoted RX8 (some .int) 4 rm_X8_mostVoted) (S : St) (a0 : Nat) (kx6 : Int32 → Int32 → Option Int32) (hkx6 : ∀ (x1 : Int32) (x2 : Int32), J X g (Qm X g aI (pK S)) (cw (0, 0)) 58 [(0, rv g a0), (1, .int x1), (2, .int x2)] [] S (kx6 x1 x2)) : ∀ (n : Nat) (x1 : Int32) (x2 : Int32) (x3 : Int32), J X g (Qm X g aI (pK S)) (cw (0, 0)) 6 [(0, rv g a0), (1, .int x1), (2, .int x2), (3, .int x3)] [] S (wl3 (f_X8_mostVoted_B6 S a0 kx6) n x1 x2 x3) := by
  refine J.loop3 (lvf := fun (x1 : Int32) (x2 : Int32) (x3 : Int32) => [(0, rv g a0), (1, .int x1), (2, .int x2), (3, .int x3)]) (Sf := fun (x1 : Int32) (x2 : Int32) (x3 : Int32) => S) ?_
  intro k6 hk6 x1 x2 x3
  show J X g _ _ 6 [(0, rv g a0), (1, .int x1), (2, .int x2), (3, .int x3)] [] S (f_X8_mostVoted_B6 S a0 kx6 k6 x1 x2 x3)
  unfold f_X8_mostVoted_B6
  refine J.iload_n (pc := 6) C dX8_mostVoted_6 rfl rfl ?_
  refine J.bipush (pc := 7) C dX8_mostVoted_7 kb_17 ?_
  refine J.icmp_ge (pc := 9) C (tgt := 58) dX8_mostVoted_9 rfl ?_ ?_
  · exact J.pick [0, 1, 2] rfl (hkx6 _ _)
  · refine J.aload_n (pc := 12) C (x := a0) dX8_mostVoted_12 rfl rfl ?_
    refine J.getR (pc := 13) C fl_RX8_22 rfl dX8_mostVoted_13 ?_
    refine J.iload_n (pc := 16) C dX8_mostVoted_16 rfl rfl ?_
    refine J.iald (pc := 17) C dX8_mostVoted_17 ?_
    refine J.aload_n (pc := 18) C (x := a0) dX8_mostVoted_18 rfl rfl ?_
    refine J.getR (pc := 19) C fl_RX8_22 rfl dX8_mostVoted_19 ?_
    refine J.iload_n (pc := 22) C dX8_mostVoted_22 rfl rfl ?_
    refine J.iald (pc := 23) C dX8_mostVoted_23 ?_
    refine J.icmp_le (pc := 24) C (tgt := 34) dX8_mostVoted_24 rfl ?_ ?_
    · refine J.aload_n (pc := 34) C (x := a0) dX8_mostVoted_34 rfl rfl ?_
      refine J.getR (pc := 35) C fl_RX8_22 rfl dX8_mostVoted_35 ?_
      refine J.iload_n (pc := 38) C dX8_mostVoted_38 rfl rfl ?_
      refine J.iald (pc := 39) C dX8_mostVoted_39 ?_
      refine J.aload_n (pc := 40) C (x := a0) dX8_mostVoted_40 rfl rfl ?_
      refine J.getR (pc := 41) C fl_RX8_22 rfl dX8_mostVoted_41 ?_
      refine J.iload_n (pc := 44) C dX8_mostVoted_44 rfl rfl ?_
      refine J.iald (pc := 45) C dX8_mostVoted_45 ?_
      refine J.icmp_ne (pc := 46) C (tgt := 52) dX8_mostVoted_46 rfl ?_ ?_
      · refine J.iinc (pc := 52) C (lv' := [(0, rv g a0), (1, .int x1), (2, .int x2), (3, .int (x3 + 1))]) dX8_mostVoted_52 rfl (Nat.le_of_ble_eq_true rfl) ki_1 rfl ?_
        refine J.goto (pc := 55) C (tgt := 6) dX8_mostVoted_55 rfl ?_
        exact (hk6 _ _ _)
      · refine J.iinc (pc := 49) C (lv' := [(0, rv g a0), (1, .int x1), (2, .int (x2 + 1)), (3, .int x3)]) dX8_mostVoted_49 rfl (Nat.le_of_ble_eq_true rfl) ki_1 rfl ?_
        refine J.iinc (pc := 52) C (lv' := [(0, rv g a0), (1, .int x1), (2, .int (x2 + 1)), (3, .int (x3 + 1))]) dX8_mostVoted_52 rfl (Nat.le_of_ble_eq_true rfl) ki_1 rfl ?_
        refine J.goto (pc := 55) C (tgt := 6) dX8_mostVoted_55 rfl ?_
        exact (hk6 _ _ _)
    · refine J.iload_n (pc := 27) C dX8_mostVoted_27 rfl rfl ?_
      refine J.istore_n (pc := 28) C (lv' := [(0, rv g a0), (1, .int x3), (2, .int x2), (3, .int x3)]) dX8_mostVoted_28 rfl (Nat.le_of_ble_eq_true rfl) rfl ?_
      refine J.iconst (pc := 29) C dX8_mostVoted_29 ki_0 ?_
      refine J.istore_n (pc := 30) C (lv' := [(0, rv g a0), (1, .int x3), (2, .int 0), (3, .int x3)]) dX8_mostVoted_30 rfl (Nat.le_of_ble_eq_true rfl) rfl ?_
      refine J.goto (pc := 31) C (tgt := 52) dX8_mostVoted_31 rfl ?_
      refine J.iinc (pc := 52) C (lv' := [(0, rv g a0), (1, .int x3), (2, .int 0), (3, .int (x3 + 1))]) dX8_mostVoted_52 rfl (Nat.le_of_ble_eq_true rfl) ki_1 rfl ?_
      refine J.goto (pc := 55) C (tgt := 6) dX8_mostVoted_55 rfl ?_
      exact (hk6 _ _ _)
def f_X8_mostVoted (S : St) (a0 : Nat) : Option Int32 :=
  (wl3 (f_X8_mostVoted_B6 S a0 (fun (y1_1 : Int32) (y2_2 : Int32) => (chk (okc S 8 a0)
  (chk (ina S 10 (S.2.1 a0 6) y1_1)
  (if (S.1 (S.2.1 a0 6) y1_1.toNatClampNeg) = 0 then
  (some (-1000000))
  else (if y2_2 ≤ 0 then
  (some (y1_1 - 8))
  else (some (-1000000)))))))) FU 0 0 1)
set_option maxRecDepth 100000 in
set_option maxHeartbeats 4000000 in
theorem c_X8_mostVoted (l : Launch) (g : GG) (S : St) (a0 : Nat) : Ct l yX8_mostVoted cX8_mostVoted 4 (some .int) rm_X8_mostVoted g aI (pK S) [rv g a0] S (f_X8_mostVoted S a0) := by
  refine Ct.mk (cf := cw (0, 0)) (by decide +kernel) (cat_r cat_n) (Nat.le_of_ble_eq_true rfl) rfl ?_
  intro X hXl hin C
  show J X g _ _ 0 [(0, rv g a0)] [] S (f_X8_mostVoted S a0)
  unfold f_X8_mostVoted
  refine J.iconst (pc := 0) C dX8_mostVoted_0 ki_0 ?_
  refine J.istore_n (pc := 1) C (lv' := [(0, rv g a0), (1, .int 0)]) dX8_mostVoted_1 rfl (Nat.le_of_ble_eq_true rfl) rfl ?_
  refine J.iconst (pc := 2) C dX8_mostVoted_2 ki_0 ?_
  refine J.istore_n (pc := 3) C (lv' := [(0, rv g a0), (1, .int 0), (2, .int 0)]) dX8_mostVoted_3 rfl (Nat.le_of_ble_eq_true rfl) rfl ?_
  refine J.iconst (pc := 4) C dX8_mostVoted_4 ki_1 ?_
  refine J.istore_n (pc := 5) C (lv' := [(0, rv g a0), (1, .int 0), (2, .int 0), (3, .int 1)]) dX8_mostVoted_5 rfl (Nat.le_of_ble_eq_true rfl) rfl ?_
  refine w_X8_mostVoted_B6 C _ _ _ (fun y1_1 y2_2 => ?_) FU _ _ _
  refine J.aload_n (pc := 58) C (x := a0) dX8_mostVoted_58 rfl rfl ?_
  refine J.getR (pc := 59) C fl_RX8_22 rfl dX8_mostVoted_59 ?_
  refine J.iload_n (pc := 62) C dX8_mostVoted_62 rfl rfl ?_
  refine J.iald (pc := 63) C dX8_mostVoted_63 ?_
  refine J.if_eq (pc := 64) C (tgt := 71) dX8_mostVoted_64 rfl ?_ ?_
  · refine J.ldc (pc := 71) C wc_RX8_49 dX8_mostVoted_71 ?_
    refine J.goto (pc := 73) C (tgt := 80) dX8_mostVoted_73 rfl ?_
    exact J.iret (pc := 80) C rfl rfl ⟨Nat.le_refl _, Nat.le_refl _⟩ dX8_mostVoted_80
  · refine J.iload_n (pc := 67) C dX8_mostVoted_67 rfl rfl ?_
    refine J.if_le (pc := 68) C (tgt := 76) dX8_mostVoted_68 rfl ?_ ?_
    · refine J.iload_n (pc := 76) C dX8_mostVoted_76 rfl rfl ?_
      refine J.bipush (pc := 77) C dX8_mostVoted_77 kb_8 ?_
      refine J.isub (pc := 79) C dX8_mostVoted_79 ?_
      exact J.iret (pc := 80) C rfl rfl ⟨Nat.le_refl _, Nat.le_refl _⟩ dX8_mostVoted_80
    · refine J.ldc (pc := 71) C wc_RX8_49 dX8_mostVoted_71 ?_
      refine J.goto (pc := 73) C (tgt := 80) dX8_mostVoted_73 rfl ?_
      exact J.iret (pc := 80) C rfl rfl ⟨Nat.le_refl _, Nat.le_refl _⟩ dX8_mostVoted_80
abbrev rm_X8_noVotes : Room := { frames := 0, cells := 0, slots := 0, locals := 0 }
def f_X8_noVotes_B2 (a0 : Nat) (kx2 : St → Option St) (k2 : St → Int32 → Option St) (S : St) (x1 : Int32) : Option St :=
  (if (17 : Int32) ≤ x1 then
  (kx2 S)
  else (chk (okc S 8 a0)
  (chk (inw S 10 (S.2.1 a0 6) x1) (vlt (upI S (S.2.1 a0 6) x1.toNatClampNeg 0) fun S_1 =>
  (k2 S_1 (x1 + 1))))))
set_option maxRecDepth 100000 in
set_option maxHeartbeats 4000000 in
theorem w_X8_noVotes_B2 {X : CT} {g : GG} (C : CX X g cX8_noVotes RX8 none 2 rm_X8_noVotes) (a0 : Nat) (kx2 : St → Option St) (hkx2 : ∀ (S : St), J X g (Qm X g aU pU) (cw (0, 0)) 21 [] [] S (kx2 S)) : ∀ (n : Nat) (S : St) (x1 : Int32), J X g (Qm X g aU pU) (cw (0, 0)) 2 [(0, rv g a0), (1, .int x1)] [] S (wl2 (f_X8_noVotes_B2 a0 kx2) n S x1) := by
  refine J.loop2 (lvf := fun (S : St) (x1 : Int32) => [(0, rv g a0), (1, .int x1)]) (Sf := fun (S : St) (x1 : Int32) => S) ?_
  intro k2 hk2 S x1
  show J X g _ _ 2 [(0, rv g a0), (1, .int x1)] [] S (f_X8_noVotes_B2 a0 kx2 k2 S x1)
  unfold f_X8_noVotes_B2
  refine J.iload_n (pc := 2) C dX8_noVotes_2 rfl rfl ?_
  refine J.bipush (pc := 3) C dX8_noVotes_3 kb_17 ?_
  refine J.icmp_ge (pc := 5) C (tgt := 21) dX8_noVotes_5 rfl ?_ ?_
  · exact J.pick [] rfl (hkx2 _)
  · refine J.aload_n (pc := 8) C (x := a0) dX8_noVotes_8 rfl rfl ?_
    refine J.getR (pc := 9) C fl_RX8_22 rfl dX8_noVotes_9 ?_
    refine J.iload_n (pc := 12) C dX8_noVotes_12 rfl rfl ?_
    refine J.iconst (pc := 13) C dX8_noVotes_13 ki_0 ?_
    refine J.iasts (pc := 14) C dX8_noVotes_14 (fun S_1 => ?_)
    refine J.iinc (pc := 15) C (lv' := [(0, rv g a0), (1, .int (x1 + 1))]) dX8_noVotes_15 rfl (Nat.le_of_ble_eq_true rfl) ki_1 rfl ?_
    refine J.goto (pc := 18) C (tgt := 2) dX8_noVotes_18 rfl ?_
    exact (hk2 _ _)
def f_X8_noVotes (S : St) (a0 : Nat) : Option St :=
  (wl2 (f_X8_noVotes_B2 a0 (fun (S_2 : St) => (some S_2))) FU S 0)
set_option maxRecDepth 100000 in
set_option maxHeartbeats 4000000 in
theorem c_X8_noVotes (l : Launch) (g : GG) (S : St) (a0 : Nat) : Ct l yX8_noVotes cX8_noVotes 2 none rm_X8_noVotes g aU pU [rv g a0] S (f_X8_noVotes S a0) := by
  refine Ct.mk (cf := cw (0, 0)) (by decide +kernel) (cat_r cat_n) (Nat.le_of_ble_eq_true rfl) rfl ?_
  intro X hXl hin C
  show J X g _ _ 0 [(0, rv g a0)] [] S (f_X8_noVotes S a0)
  unfold f_X8_noVotes
  refine J.iconst (pc := 0) C dX8_noVotes_0 ki_0 ?_
  refine J.istore_n (pc := 1) C (lv' := [(0, rv g a0), (1, .int 0)]) dX8_noVotes_1 rfl (Nat.le_of_ble_eq_true rfl) rfl ?_
  refine w_X8_noVotes_B2 C _ _ (fun S_2 => ?_) FU _ _
  exact J.vret (pc := 21) C rfl rfl ⟨Nat.le_refl _, Nat.le_refl _⟩ dX8_noVotes_21
abbrev rm_X8_agreeing : Room := { frames := 1, cells := 0, slots := 0, locals := 22 }
def f_X8_agreeing_B5 (a0 : Int32) (a1 : Int32) (a2 : Int32) (kx5 : Int32 → Option Int32) (k5 : Int32 → Int32 → Option Int32) (x3 : Int32) (x4 : Int32) : Option Int32 :=
  (if (16 : Int32) ≤ x4 then
  (kx5 x3)
  else (bnd (f_X8_has a0 x4) fun r1 =>
  (if r1 = 0 then
  (k5 (x3 + 0) (x4 + 1))
  else (bnd (f_X8_in (x4 + a2) 1 15) fun r2 =>
  (if r2 = 0 then
  (k5 (x3 + 0) (x4 + 1))
  else (bnd (f_X8_has a1 (x4 + a2)) fun r3 =>
  (if r3 = 0 then
  (k5 (x3 + 0) (x4 + 1))
  else (k5 (x3 + 1) (x4 + 1)))))))))
set_option maxRecDepth 100000 in
set_option maxHeartbeats 4000000 in
theorem w_X8_agreeing_B5 {X : CT} {g : GG} (C : CX X g cX8_agreeing RX8 (some .int) 5 rm_X8_agreeing) (S : St) (a0 : Int32) (a1 : Int32) (a2 : Int32) (kx5 : Int32 → Option Int32) (hkx5 : ∀ (x3 : Int32), J X g (Qm X g aI (pK S)) (cw (0, 0)) 59 [(3, .int x3)] [] S (kx5 x3)) : ∀ (n : Nat) (x3 : Int32) (x4 : Int32), J X g (Qm X g aI (pK S)) (cw (0, 0)) 5 [(0, .int a0), (1, .int a1), (2, .int a2), (3, .int x3), (4, .int x4)] [] S (wl2 (f_X8_agreeing_B5 a0 a1 a2 kx5) n x3 x4) := by
  refine J.loop2 (lvf := fun (x3 : Int32) (x4 : Int32) => [(0, .int a0), (1, .int a1), (2, .int a2), (3, .int x3), (4, .int x4)]) (Sf := fun (x3 : Int32) (x4 : Int32) => S) ?_
  intro k5 hk5 x3 x4
  show J X g _ _ 5 [(0, .int a0), (1, .int a1), (2, .int a2), (3, .int x3), (4, .int x4)] [] S (f_X8_agreeing_B5 a0 a1 a2 kx5 k5 x3 x4)
  unfold f_X8_agreeing_B5
  refine J.iload (pc := 5) C dX8_agreeing_5 rfl ?_
  refine J.bipush (pc := 7) C dX8_agreeing_7 kb_16 ?_
  refine J.icmp_ge (pc := 9) C (tgt := 59) dX8_agreeing_9 rfl ?_ ?_
  · exact J.pick [3] rfl (hkx5 _)
  · refine J.iload_n (pc := 12) C dX8_agreeing_12 rfl rfl ?_
    refine J.iload_n (pc := 13) C dX8_agreeing_13 rfl rfl ?_
    refine J.iload (pc := 14) C dX8_agreeing_14 rfl ?_
    refine J.sI (pc := 16) C ms_X8_has wm_RX8_104 (fun l => c_X8_has l g S a0 x4) ⟨⟨Nat.zero_le _, Nat.zero_le _⟩, rfl, rfl⟩ rfl ⟨Nat.le_of_ble_eq_true rfl, Nat.le_of_ble_eq_true rfl⟩ rfl (cat_i cat_n) (Nat.le_of_ble_eq_true rfl) dX8_agreeing_16 (fun r1 => ?_)
    refine J.if_eq (pc := 19) C (tgt := 50) dX8_agreeing_19 rfl ?_ ?_
    · refine J.iconst (pc := 50) C dX8_agreeing_50 ki_0 ?_
      refine J.iadd (pc := 51) C dX8_agreeing_51 ?_
      refine J.istore_n (pc := 52) C (lv' := [(0, .int a0), (1, .int a1), (2, .int a2), (3, .int (x3 + 0)), (4, .int x4)]) dX8_agreeing_52 rfl (Nat.le_of_ble_eq_true rfl) rfl ?_
      refine J.iinc (pc := 53) C (lv' := [(0, .int a0), (1, .int a1), (2, .int a2), (3, .int (x3 + 0)), (4, .int (x4 + 1))]) dX8_agreeing_53 rfl (Nat.le_of_ble_eq_true rfl) ki_1 rfl ?_
      refine J.goto (pc := 56) C (tgt := 5) dX8_agreeing_56 rfl ?_
      exact (hk5 _ _)
    · refine J.iload (pc := 22) C dX8_agreeing_22 rfl ?_
      refine J.iload_n (pc := 24) C dX8_agreeing_24 rfl rfl ?_
      refine J.iadd (pc := 25) C dX8_agreeing_25 ?_
      refine J.iconst (pc := 26) C dX8_agreeing_26 ki_1 ?_
      refine J.bipush (pc := 27) C dX8_agreeing_27 kb_15 ?_
      refine J.sI (pc := 29) C ms_X8_in wm_RX8_36 (fun l => c_X8_in l g S (x4 + a2) 1 15) ⟨⟨Nat.zero_le _, Nat.zero_le _⟩, rfl, rfl⟩ rfl ⟨Nat.le_of_ble_eq_true rfl, Nat.le_of_ble_eq_true rfl⟩ rfl (cat_i cat_n) (Nat.le_of_ble_eq_true rfl) dX8_agreeing_29 (fun r2 => ?_)
      refine J.if_eq (pc := 32) C (tgt := 50) dX8_agreeing_32 rfl ?_ ?_
      · refine J.iconst (pc := 50) C dX8_agreeing_50 ki_0 ?_
        refine J.iadd (pc := 51) C dX8_agreeing_51 ?_
        refine J.istore_n (pc := 52) C (lv' := [(0, .int a0), (1, .int a1), (2, .int a2), (3, .int (x3 + 0)), (4, .int x4)]) dX8_agreeing_52 rfl (Nat.le_of_ble_eq_true rfl) rfl ?_
        refine J.iinc (pc := 53) C (lv' := [(0, .int a0), (1, .int a1), (2, .int a2), (3, .int (x3 + 0)), (4, .int (x4 + 1))]) dX8_agreeing_53 rfl (Nat.le_of_ble_eq_true rfl) ki_1 rfl ?_
        refine J.goto (pc := 56) C (tgt := 5) dX8_agreeing_56 rfl ?_
        exact (hk5 _ _)
      · refine J.iload_n (pc := 35) C dX8_agreeing_35 rfl rfl ?_
        refine J.iload (pc := 36) C dX8_agreeing_36 rfl ?_
        refine J.iload_n (pc := 38) C dX8_agreeing_38 rfl rfl ?_
        refine J.iadd (pc := 39) C dX8_agreeing_39 ?_
        refine J.sI (pc := 40) C ms_X8_has wm_RX8_104 (fun l => c_X8_has l g S a1 (x4 + a2)) ⟨⟨Nat.zero_le _, Nat.zero_le _⟩, rfl, rfl⟩ rfl ⟨Nat.le_of_ble_eq_true rfl, Nat.le_of_ble_eq_true rfl⟩ rfl (cat_i cat_n) (Nat.le_of_ble_eq_true rfl) dX8_agreeing_40 (fun r3 => ?_)
        refine J.if_eq (pc := 43) C (tgt := 50) dX8_agreeing_43 rfl ?_ ?_
        · refine J.iconst (pc := 50) C dX8_agreeing_50 ki_0 ?_
          refine J.iadd (pc := 51) C dX8_agreeing_51 ?_
          refine J.istore_n (pc := 52) C (lv' := [(0, .int a0), (1, .int a1), (2, .int a2), (3, .int (x3 + 0)), (4, .int x4)]) dX8_agreeing_52 rfl (Nat.le_of_ble_eq_true rfl) rfl ?_
          refine J.iinc (pc := 53) C (lv' := [(0, .int a0), (1, .int a1), (2, .int a2), (3, .int (x3 + 0)), (4, .int (x4 + 1))]) dX8_agreeing_53 rfl (Nat.le_of_ble_eq_true rfl) ki_1 rfl ?_
          refine J.goto (pc := 56) C (tgt := 5) dX8_agreeing_56 rfl ?_
          exact (hk5 _ _)
        · refine J.iconst (pc := 46) C dX8_agreeing_46 ki_1 ?_
          refine J.goto (pc := 47) C (tgt := 51) dX8_agreeing_47 rfl ?_
          refine J.iadd (pc := 51) C dX8_agreeing_51 ?_
          refine J.istore_n (pc := 52) C (lv' := [(0, .int a0), (1, .int a1), (2, .int a2), (3, .int (x3 + 1)), (4, .int x4)]) dX8_agreeing_52 rfl (Nat.le_of_ble_eq_true rfl) rfl ?_
          refine J.iinc (pc := 53) C (lv' := [(0, .int a0), (1, .int a1), (2, .int a2), (3, .int (x3 + 1)), (4, .int (x4 + 1))]) dX8_agreeing_53 rfl (Nat.le_of_ble_eq_true rfl) ki_1 rfl ?_
          refine J.goto (pc := 56) C (tgt := 5) dX8_agreeing_56 rfl ?_
          exact (hk5 _ _)
def f_X8_agreeing (a0 : Int32) (a1 : Int32) (a2 : Int32) : Option Int32 :=
  (wl2 (f_X8_agreeing_B5 a0 a1 a2 (fun (y3_4 : Int32) => (some y3_4))) FU 0 1)
set_option maxRecDepth 100000 in
set_option maxHeartbeats 4000000 in
theorem c_X8_agreeing (l : Launch) (g : GG) (S : St) (a0 : Int32) (a1 : Int32) (a2 : Int32) : Ct l yX8_agreeing cX8_agreeing 5 (some .int) rm_X8_agreeing g aI (pK S) [.int a0, .int a1, .int a2] S (f_X8_agreeing a0 a1 a2) := by
  refine Ct.mk (cf := cw (0, 0)) (by decide +kernel) (cat_i (cat_i (cat_i cat_n))) (Nat.le_of_ble_eq_true rfl) rfl ?_
  intro X hXl hin C
  show J X g _ _ 0 [(0, .int a0), (1, .int a1), (2, .int a2)] [] S (f_X8_agreeing a0 a1 a2)
  unfold f_X8_agreeing
  refine J.iconst (pc := 0) C dX8_agreeing_0 ki_0 ?_
  refine J.istore_n (pc := 1) C (lv' := [(0, .int a0), (1, .int a1), (2, .int a2), (3, .int 0)]) dX8_agreeing_1 rfl (Nat.le_of_ble_eq_true rfl) rfl ?_
  refine J.iconst (pc := 2) C dX8_agreeing_2 ki_1 ?_
  refine J.istore (pc := 3) C (lv' := [(0, .int a0), (1, .int a1), (2, .int a2), (3, .int 0), (4, .int 1)]) dX8_agreeing_3 (Nat.le_of_ble_eq_true rfl) rfl ?_
  refine w_X8_agreeing_B5 C _ _ _ _ _ (fun y3_4 => ?_) FU _ _
  refine J.iload_n (pc := 59) C dX8_agreeing_59 rfl rfl ?_
  exact J.iret (pc := 60) C rfl rfl ⟨Nat.le_refl _, Nat.le_refl _⟩ dX8_agreeing_60
abbrev rm_X8_voteBy : Room := { frames := 2, cells := 0, slots := 0, locals := 46 }
def f_X8_voteBy_B9 (a0 : Int32) (a1 : Int32) (kx9 : Int32 → Option Int32) (k9 : Int32 → Int32 → Int32 → Option Int32) (x2 : Int32) (x3 : Int32) (x4 : Int32) : Option Int32 :=
  (if (9 : Int32) ≤ x4 then
  (kx9 x2)
  else (bnd (f_X8_agreeing a0 a1 x4) fun r1 =>
  (if x3 < r1 then
  (k9 x4 r1 (x4 + 1))
  else (if r1 = x3 then
  (if r1 ≤ 0 then
  (k9 x2 x3 (x4 + 1))
  else (bnd (f_X8_size x4) fun r2 =>
  (bnd (f_X8_size x2) fun r3 =>
  (if r3 ≤ r2 then
  (k9 x2 x3 (x4 + 1))
  else (k9 x4 r1 (x4 + 1))))))
  else (k9 x2 x3 (x4 + 1))))))
set_option maxRecDepth 100000 in
set_option maxHeartbeats 4000000 in
theorem w_X8_voteBy_B9 {X : CT} {g : GG} (C : CX X g cX8_voteBy RX8 (some .int) 6 rm_X8_voteBy) (S : St) (a0 : Int32) (a1 : Int32) (kx9 : Int32 → Option Int32) (hkx9 : ∀ (x2 : Int32), J X g (Qm X g aI (pK S)) (cw (0, 0)) 66 [(2, .int x2)] [] S (kx9 x2)) : ∀ (n : Nat) (x2 : Int32) (x3 : Int32) (x4 : Int32), J X g (Qm X g aI (pK S)) (cw (0, 0)) 9 [(0, .int a0), (1, .int a1), (2, .int x2), (3, .int x3), (4, .int x4)] [] S (wl3 (f_X8_voteBy_B9 a0 a1 kx9) n x2 x3 x4) := by
  refine J.loop3 (lvf := fun (x2 : Int32) (x3 : Int32) (x4 : Int32) => [(0, .int a0), (1, .int a1), (2, .int x2), (3, .int x3), (4, .int x4)]) (Sf := fun (x2 : Int32) (x3 : Int32) (x4 : Int32) => S) ?_
  intro k9 hk9 x2 x3 x4
  show J X g _ _ 9 [(0, .int a0), (1, .int a1), (2, .int x2), (3, .int x3), (4, .int x4)] [] S (f_X8_voteBy_B9 a0 a1 kx9 k9 x2 x3 x4)
  unfold f_X8_voteBy_B9
  refine J.iload (pc := 9) C dX8_voteBy_9 rfl ?_
  refine J.bipush (pc := 11) C dX8_voteBy_11 kb_9 ?_
  refine J.icmp_ge (pc := 13) C (tgt := 66) dX8_voteBy_13 rfl ?_ ?_
  · exact J.pick [2] rfl (hkx9 _)
  · refine J.iload_n (pc := 16) C dX8_voteBy_16 rfl rfl ?_
    refine J.iload_n (pc := 17) C dX8_voteBy_17 rfl rfl ?_
    refine J.iload (pc := 18) C dX8_voteBy_18 rfl ?_
    refine J.sI (pc := 20) C ms_X8_agreeing wm_RX8_121 (fun l => c_X8_agreeing l g S a0 a1 x4) ⟨⟨Nat.zero_le _, Nat.zero_le _⟩, rfl, rfl⟩ rfl ⟨Nat.le_of_ble_eq_true rfl, Nat.le_of_ble_eq_true rfl⟩ rfl cat_n (Nat.le_of_ble_eq_true rfl) dX8_voteBy_20 (fun r1 => ?_)
    refine J.istore (pc := 23) C (lv' := [(0, .int a0), (1, .int a1), (2, .int x2), (3, .int x3), (4, .int x4), (5, .int r1)]) dX8_voteBy_23 (Nat.le_of_ble_eq_true rfl) rfl ?_
    refine J.iload (pc := 25) C dX8_voteBy_25 rfl ?_
    refine J.iload_n (pc := 27) C dX8_voteBy_27 rfl rfl ?_
    refine J.icmp_gt (pc := 28) C (tgt := 54) dX8_voteBy_28 rfl ?_ ?_
    · refine J.iload (pc := 54) C dX8_voteBy_54 rfl ?_
      refine J.istore_n (pc := 56) C (lv' := [(0, .int a0), (1, .int a1), (2, .int x4), (3, .int x3), (4, .int x4), (5, .int r1)]) dX8_voteBy_56 rfl (Nat.le_of_ble_eq_true rfl) rfl ?_
      refine J.iload (pc := 57) C dX8_voteBy_57 rfl ?_
      refine J.istore_n (pc := 59) C (lv' := [(0, .int a0), (1, .int a1), (2, .int x4), (3, .int r1), (4, .int x4), (5, .int r1)]) dX8_voteBy_59 rfl (Nat.le_of_ble_eq_true rfl) rfl ?_
      refine J.iinc (pc := 60) C (lv' := [(0, .int a0), (1, .int a1), (2, .int x4), (3, .int r1), (4, .int (x4 + 1)), (5, .int r1)]) dX8_voteBy_60 rfl (Nat.le_of_ble_eq_true rfl) ki_1 rfl ?_
      refine J.goto (pc := 63) C (tgt := 9) dX8_voteBy_63 rfl ?_
      exact J.pick [0, 1, 2, 3, 4] rfl (hk9 _ _ _)
    · refine J.iload (pc := 31) C dX8_voteBy_31 rfl ?_
      refine J.iload_n (pc := 33) C dX8_voteBy_33 rfl rfl ?_
      refine J.icmp_ne (pc := 34) C (tgt := 60) dX8_voteBy_34 rfl ?_ ?_
      · refine J.iinc (pc := 60) C (lv' := [(0, .int a0), (1, .int a1), (2, .int x2), (3, .int x3), (4, .int (x4 + 1)), (5, .int r1)]) dX8_voteBy_60 rfl (Nat.le_of_ble_eq_true rfl) ki_1 rfl ?_
        refine J.goto (pc := 63) C (tgt := 9) dX8_voteBy_63 rfl ?_
        exact J.pick [0, 1, 2, 3, 4] rfl (hk9 _ _ _)
      · refine J.iload (pc := 37) C dX8_voteBy_37 rfl ?_
        refine J.if_le (pc := 39) C (tgt := 60) dX8_voteBy_39 rfl ?_ ?_
        · refine J.iinc (pc := 60) C (lv' := [(0, .int a0), (1, .int a1), (2, .int x2), (3, .int x3), (4, .int (x4 + 1)), (5, .int r1)]) dX8_voteBy_60 rfl (Nat.le_of_ble_eq_true rfl) ki_1 rfl ?_
          refine J.goto (pc := 63) C (tgt := 9) dX8_voteBy_63 rfl ?_
          exact J.pick [0, 1, 2, 3, 4] rfl (hk9 _ _ _)
        · refine J.iload (pc := 42) C dX8_voteBy_42 rfl ?_
          refine J.sI (pc := 44) C ms_X8_size wm_RX8_124 (fun l => c_X8_size l g S x4) ⟨⟨Nat.zero_le _, Nat.zero_le _⟩, rfl, rfl⟩ rfl ⟨Nat.le_of_ble_eq_true rfl, Nat.le_of_ble_eq_true rfl⟩ rfl cat_n (Nat.le_of_ble_eq_true rfl) dX8_voteBy_44 (fun r2 => ?_)
          refine J.iload_n (pc := 47) C dX8_voteBy_47 rfl rfl ?_
          refine J.sI (pc := 48) C ms_X8_size wm_RX8_124 (fun l => c_X8_size l g S x2) ⟨⟨Nat.zero_le _, Nat.zero_le _⟩, rfl, rfl⟩ rfl ⟨Nat.le_of_ble_eq_true rfl, Nat.le_of_ble_eq_true rfl⟩ rfl (cat_i cat_n) (Nat.le_of_ble_eq_true rfl) dX8_voteBy_48 (fun r3 => ?_)
          refine J.icmp_ge (pc := 51) C (tgt := 60) dX8_voteBy_51 rfl ?_ ?_
          · refine J.iinc (pc := 60) C (lv' := [(0, .int a0), (1, .int a1), (2, .int x2), (3, .int x3), (4, .int (x4 + 1)), (5, .int r1)]) dX8_voteBy_60 rfl (Nat.le_of_ble_eq_true rfl) ki_1 rfl ?_
            refine J.goto (pc := 63) C (tgt := 9) dX8_voteBy_63 rfl ?_
            exact J.pick [0, 1, 2, 3, 4] rfl (hk9 _ _ _)
          · refine J.iload (pc := 54) C dX8_voteBy_54 rfl ?_
            refine J.istore_n (pc := 56) C (lv' := [(0, .int a0), (1, .int a1), (2, .int x4), (3, .int x3), (4, .int x4), (5, .int r1)]) dX8_voteBy_56 rfl (Nat.le_of_ble_eq_true rfl) rfl ?_
            refine J.iload (pc := 57) C dX8_voteBy_57 rfl ?_
            refine J.istore_n (pc := 59) C (lv' := [(0, .int a0), (1, .int a1), (2, .int x4), (3, .int r1), (4, .int x4), (5, .int r1)]) dX8_voteBy_59 rfl (Nat.le_of_ble_eq_true rfl) rfl ?_
            refine J.iinc (pc := 60) C (lv' := [(0, .int a0), (1, .int a1), (2, .int x4), (3, .int r1), (4, .int (x4 + 1)), (5, .int r1)]) dX8_voteBy_60 rfl (Nat.le_of_ble_eq_true rfl) ki_1 rfl ?_
            refine J.goto (pc := 63) C (tgt := 9) dX8_voteBy_63 rfl ?_
            exact J.pick [0, 1, 2, 3, 4] rfl (hk9 _ _ _)
def f_X8_voteBy (a0 : Int32) (a1 : Int32) : Option Int32 :=
  (wl3 (f_X8_voteBy_B9 a0 a1 (fun (y2_4 : Int32) => (some y2_4))) FU (-1000000) 0 (-8))
set_option maxRecDepth 100000 in
set_option maxHeartbeats 4000000 in
theorem c_X8_voteBy (l : Launch) (g : GG) (S : St) (a0 : Int32) (a1 : Int32) : Ct l yX8_voteBy cX8_voteBy 6 (some .int) rm_X8_voteBy g aI (pK S) [.int a0, .int a1] S (f_X8_voteBy a0 a1) := by
  refine Ct.mk (cf := cw (0, 0)) (by decide +kernel) (cat_i (cat_i cat_n)) (Nat.le_of_ble_eq_true rfl) rfl ?_
  intro X hXl hin C
  show J X g _ _ 0 [(0, .int a0), (1, .int a1)] [] S (f_X8_voteBy a0 a1)
  unfold f_X8_voteBy
  refine J.ldc (pc := 0) C wc_RX8_49 dX8_voteBy_0 ?_
  refine J.istore_n (pc := 2) C (lv' := [(0, .int a0), (1, .int a1), (2, .int (-1000000))]) dX8_voteBy_2 rfl (Nat.le_of_ble_eq_true rfl) rfl ?_
  refine J.iconst (pc := 3) C dX8_voteBy_3 ki_0 ?_
  refine J.istore_n (pc := 4) C (lv' := [(0, .int a0), (1, .int a1), (2, .int (-1000000)), (3, .int 0)]) dX8_voteBy_4 rfl (Nat.le_of_ble_eq_true rfl) rfl ?_
  refine J.bipush (pc := 5) C dX8_voteBy_5 kb_m8 ?_
  refine J.istore (pc := 7) C (lv' := [(0, .int a0), (1, .int a1), (2, .int (-1000000)), (3, .int 0), (4, .int (-8))]) dX8_voteBy_7 (Nat.le_of_ble_eq_true rfl) rfl ?_
  refine w_X8_voteBy_B9 C _ _ _ _ (fun y2_4 => ?_) FU _ _ _
  refine J.iload_n (pc := 66) C dX8_voteBy_66 rfl rfl ?_
  exact J.iret (pc := 67) C rfl rfl ⟨Nat.le_refl _, Nat.le_refl _⟩ dX8_voteBy_67
abbrev rm_X8_bestWait : Room := { frames := 4, cells := 0, slots := 0, locals := 100 }
def f_X8_bestWait_B42 (a0 : Nat) (a1 : Int32) (a2 : Int32) (a3 : Int32) (a4 : Int32) (a5 : Int32) (kx42 : St → Option (Int32 × St)) (k42 : St → Int32 → Option (Int32 × St)) (S : St) (x6 : Int32) : Option (Int32 × St) :=
  (chk (okc S 8 a0)
  (chk (ina S 10 (S.2.1 a0 0) 0)
  (if (S.1 (S.2.1 a0 0) (0 : Int32).toNatClampNeg) ≤ x6 then
  (kx42 S)
  else (chk (okc S 8 a0)
  (chk (ina S 10 (S.2.1 a0 0) 33)
  (chk (okc S 8 a0)
  (chk (ina S 10 (S.2.1 a0 0) 2)
  (chk (okc S 8 a0) (bnd (f_X8_edgesAt S a0 x6 (((S.1 (S.2.1 a0 0) (33 : Int32).toNatClampNeg) + a5) + (x6 * (S.1 (S.2.1 a0 0) (2 : Int32).toNatClampNeg)))) fun r4 =>
  (chk (okc S 8 a0) (bnd (f_X8_edgesIn S a0 a1 x6) fun r5 =>
  (bnd (f_X8_voteBy r5 r4) fun r6 =>
  (chk (okc S 8 a0) (bnd (f_X8_counts S a0 r6 1) fun S_7 =>
  (k42 S_7 (x6 + 1))))))))))))))))
set_option maxRecDepth 100000 in
set_option maxHeartbeats 4000000 in
theorem w_X8_bestWait_B42 {X : CT} {g : GG} (C : CX X g cX8_bestWait RX8 (some .int) 8 rm_X8_bestWait) (a0 : Nat) (a1 : Int32) (a2 : Int32) (a3 : Int32) (a4 : Int32) (a5 : Int32) (kx42 : St → Option (Int32 × St)) (hkx42 : ∀ (S : St), J X g (Qm X g aW pW) (cw (0, 0)) 104 [(0, rv g a0), (1, .int a1), (2, .int a2), (3, .int a3), (4, .int a4), (5, .int a5)] [] S (kx42 S)) : ∀ (n : Nat) (S : St) (x6 : Int32), J X g (Qm X g aW pW) (cw (0, 0)) 42 [(0, rv g a0), (1, .int a1), (2, .int a2), (3, .int a3), (4, .int a4), (5, .int a5), (6, .int x6)] [] S (wl2 (f_X8_bestWait_B42 a0 a1 a2 a3 a4 a5 kx42) n S x6) := by
  refine J.loop2 (lvf := fun (S : St) (x6 : Int32) => [(0, rv g a0), (1, .int a1), (2, .int a2), (3, .int a3), (4, .int a4), (5, .int a5), (6, .int x6)]) (Sf := fun (S : St) (x6 : Int32) => S) ?_
  intro k42 hk42 S x6
  show J X g _ _ 42 [(0, rv g a0), (1, .int a1), (2, .int a2), (3, .int a3), (4, .int a4), (5, .int a5), (6, .int x6)] [] S (f_X8_bestWait_B42 a0 a1 a2 a3 a4 a5 kx42 k42 S x6)
  unfold f_X8_bestWait_B42
  refine J.iload (pc := 42) C dX8_bestWait_42 rfl ?_
  refine J.aload_n (pc := 44) C (x := a0) dX8_bestWait_44 rfl rfl ?_
  refine J.getR (pc := 45) C fl_RX8_7 rfl dX8_bestWait_45 ?_
  refine J.iconst (pc := 48) C dX8_bestWait_48 ki_0 ?_
  refine J.iald (pc := 49) C dX8_bestWait_49 ?_
  refine J.icmp_ge (pc := 50) C (tgt := 104) dX8_bestWait_50 rfl ?_ ?_
  · exact J.pick [0, 1, 2, 3, 4, 5] rfl (hkx42 _)
  · refine J.aload_n (pc := 53) C (x := a0) dX8_bestWait_53 rfl rfl ?_
    refine J.iload (pc := 54) C dX8_bestWait_54 rfl ?_
    refine J.aload_n (pc := 56) C (x := a0) dX8_bestWait_56 rfl rfl ?_
    refine J.getR (pc := 57) C fl_RX8_7 rfl dX8_bestWait_57 ?_
    refine J.bipush (pc := 60) C dX8_bestWait_60 kb_33 ?_
    refine J.iald (pc := 62) C dX8_bestWait_62 ?_
    refine J.iload (pc := 63) C dX8_bestWait_63 rfl ?_
    refine J.iadd (pc := 65) C dX8_bestWait_65 ?_
    refine J.iload (pc := 66) C dX8_bestWait_66 rfl ?_
    refine J.aload_n (pc := 68) C (x := a0) dX8_bestWait_68 rfl rfl ?_
    refine J.getR (pc := 69) C fl_RX8_7 rfl dX8_bestWait_69 ?_
    refine J.iconst (pc := 72) C dX8_bestWait_72 ki_2 ?_
    refine J.iald (pc := 73) C dX8_bestWait_73 ?_
    refine J.imul (pc := 74) C dX8_bestWait_74 ?_
    refine J.iadd (pc := 75) C dX8_bestWait_75 ?_
    refine J.vI (pc := 76) C mv_X8_edgesAt wm_RX8_161 (fun l => c_X8_edgesAt l g S a0 x6 (((S.1 (S.2.1 a0 0) (33 : Int32).toNatClampNeg) + a5) + (x6 * (S.1 (S.2.1 a0 0) (2 : Int32).toNatClampNeg)))) ⟨⟨Nat.zero_le _, Nat.zero_le _⟩, rfl, rfl⟩ rfl ⟨Nat.le_of_ble_eq_true rfl, Nat.le_of_ble_eq_true rfl⟩ rfl cat_n (Nat.le_of_ble_eq_true rfl) dX8_bestWait_76 (fun r4 => ?_)
    refine J.istore (pc := 79) C (lv' := [(0, rv g a0), (1, .int a1), (2, .int a2), (3, .int a3), (4, .int a4), (5, .int a5), (6, .int x6), (7, .int r4)]) dX8_bestWait_79 (Nat.le_of_ble_eq_true rfl) rfl ?_
    refine J.aload_n (pc := 81) C (x := a0) dX8_bestWait_81 rfl rfl ?_
    refine J.aload_n (pc := 82) C (x := a0) dX8_bestWait_82 rfl rfl ?_
    refine J.iload_n (pc := 83) C dX8_bestWait_83 rfl rfl ?_
    refine J.iload (pc := 84) C dX8_bestWait_84 rfl ?_
    refine J.vI (pc := 86) C mv_X8_edgesIn wm_RX8_117 (fun l => c_X8_edgesIn l g S a0 a1 x6) ⟨⟨Nat.zero_le _, Nat.zero_le _⟩, rfl, rfl⟩ rfl ⟨Nat.le_of_ble_eq_true rfl, Nat.le_of_ble_eq_true rfl⟩ rfl (cat_r cat_n) (Nat.le_of_ble_eq_true rfl) dX8_bestWait_86 (fun r5 => ?_)
    refine J.iload (pc := 89) C dX8_bestWait_89 rfl ?_
    refine J.sI (pc := 91) C ms_X8_voteBy wm_RX8_127 (fun l => c_X8_voteBy l g S r5 r4) ⟨⟨Nat.zero_le _, Nat.zero_le _⟩, rfl, rfl⟩ rfl ⟨Nat.le_of_ble_eq_true rfl, Nat.le_of_ble_eq_true rfl⟩ rfl (cat_r cat_n) (Nat.le_of_ble_eq_true rfl) dX8_bestWait_91 (fun r6 => ?_)
    refine J.iconst (pc := 94) C dX8_bestWait_94 ki_1 ?_
    refine J.vU (pc := 95) C mv_X8_counts wm_RX8_142 (fun l => c_X8_counts l g S a0 r6 1) ⟨⟨Nat.zero_le _, Nat.zero_le _⟩, rfl, rfl⟩ rfl ⟨Nat.le_of_ble_eq_true rfl, Nat.le_of_ble_eq_true rfl⟩ rfl cat_n (Nat.le_of_ble_eq_true rfl) dX8_bestWait_95 (fun S_7 => ?_)
    refine J.iinc (pc := 98) C (lv' := [(0, rv g a0), (1, .int a1), (2, .int a2), (3, .int a3), (4, .int a4), (5, .int a5), (6, .int (x6 + 1)), (7, .int r4)]) dX8_bestWait_98 rfl (Nat.le_of_ble_eq_true rfl) ki_1 rfl ?_
    refine J.goto (pc := 101) C (tgt := 42) dX8_bestWait_101 rfl ?_
    exact J.pick [0, 1, 2, 3, 4, 5, 6] rfl (hk42 _ _)
def f_X8_bestWait_B28 (a0 : Nat) (a1 : Int32) (a2 : Int32) (kx28 : St → Int32 → Int32 → Option (Int32 × St)) (k28 : St → Int32 → Int32 → Int32 → Option (Int32 × St)) (S : St) (x3 : Int32) (x4 : Int32) (x5 : Int32) : Option (Int32 × St) :=
  (if (41 : Int32) ≤ x5 then
  (kx28 S x3 x4)
  else (chk (okc S 8 a0) (bnd (f_X8_noVotes S a0) fun S_3 =>
  (wl2 (f_X8_bestWait_B42 a0 a1 a2 x3 x4 x5 (fun (S_8 : St) => (chk (okc S_8 8 a0) (bnd (f_X8_mostVoted S_8 a0) fun r9 =>
  (if r9 = (-1000000) then
  (k28 S_8 x3 x4 (x5 + 1))
  else (chk (okc S_8 8 a0)
  (chk (ina S_8 10 (S_8.2.1 a0 6) (r9 + 8))
  (if (S_8.1 (S_8.2.1 a0 6) (r9 + 8).toNatClampNeg) ≤ x4 then
  (k28 S_8 x3 x4 (x5 + 1))
  else (chk (okc S_8 8 a0)
  (chk (ina S_8 10 (S_8.2.1 a0 6) (r9 + 8))
  (vlt (S_8.1 (S_8.2.1 a0 6) (r9 + 8).toNatClampNeg) fun v10 =>
  (k28 S_8 x5 v10 (x5 + 1))))))))))))) FU S_3 0))))
set_option maxRecDepth 100000 in
set_option maxHeartbeats 4000000 in
theorem w_X8_bestWait_B28 {X : CT} {g : GG} (C : CX X g cX8_bestWait RX8 (some .int) 8 rm_X8_bestWait) (a0 : Nat) (a1 : Int32) (a2 : Int32) (kx28 : St → Int32 → Int32 → Option (Int32 × St)) (hkx28 : ∀ (S : St) (x3 : Int32) (x4 : Int32), J X g (Qm X g aW pW) (cw (0, 0)) 153 [(2, .int a2), (3, .int x3), (4, .int x4)] [] S (kx28 S x3 x4)) : ∀ (n : Nat) (S : St) (x3 : Int32) (x4 : Int32) (x5 : Int32), J X g (Qm X g aW pW) (cw (0, 0)) 28 [(0, rv g a0), (1, .int a1), (2, .int a2), (3, .int x3), (4, .int x4), (5, .int x5)] [] S (wl4 (f_X8_bestWait_B28 a0 a1 a2 kx28) n S x3 x4 x5) := by
  refine J.loop4 (lvf := fun (S : St) (x3 : Int32) (x4 : Int32) (x5 : Int32) => [(0, rv g a0), (1, .int a1), (2, .int a2), (3, .int x3), (4, .int x4), (5, .int x5)]) (Sf := fun (S : St) (x3 : Int32) (x4 : Int32) (x5 : Int32) => S) ?_
  intro k28 hk28 S x3 x4 x5
  show J X g _ _ 28 [(0, rv g a0), (1, .int a1), (2, .int a2), (3, .int x3), (4, .int x4), (5, .int x5)] [] S (f_X8_bestWait_B28 a0 a1 a2 kx28 k28 S x3 x4 x5)
  unfold f_X8_bestWait_B28
  refine J.iload (pc := 28) C dX8_bestWait_28 rfl ?_
  refine J.bipush (pc := 30) C dX8_bestWait_30 kb_41 ?_
  refine J.icmp_ge (pc := 32) C (tgt := 153) dX8_bestWait_32 rfl ?_ ?_
  · exact J.pick [2, 3, 4] rfl (hkx28 _ _ _)
  · refine J.aload_n (pc := 35) C (x := a0) dX8_bestWait_35 rfl rfl ?_
    refine J.vU (pc := 36) C mv_X8_noVotes wm_RX8_136 (fun l => c_X8_noVotes l g S a0) ⟨⟨Nat.zero_le _, Nat.zero_le _⟩, rfl, rfl⟩ rfl ⟨Nat.le_of_ble_eq_true rfl, Nat.le_of_ble_eq_true rfl⟩ rfl cat_n (Nat.le_of_ble_eq_true rfl) dX8_bestWait_36 (fun S_3 => ?_)
    refine J.iconst (pc := 39) C dX8_bestWait_39 ki_0 ?_
    refine J.istore (pc := 40) C (lv' := [(0, rv g a0), (1, .int a1), (2, .int a2), (3, .int x3), (4, .int x4), (5, .int x5), (6, .int 0)]) dX8_bestWait_40 (Nat.le_of_ble_eq_true rfl) rfl ?_
    refine w_X8_bestWait_B42 C _ _ _ _ _ _ _ (fun S_8 => ?_) FU _ _
    refine J.aload_n (pc := 104) C (x := a0) dX8_bestWait_104 rfl rfl ?_
    refine J.vI (pc := 105) C mv_X8_mostVoted wm_RX8_146 (fun l => c_X8_mostVoted l g S_8 a0) ⟨⟨Nat.zero_le _, Nat.zero_le _⟩, rfl, rfl⟩ rfl ⟨Nat.le_of_ble_eq_true rfl, Nat.le_of_ble_eq_true rfl⟩ rfl cat_n (Nat.le_of_ble_eq_true rfl) dX8_bestWait_105 (fun r9 => ?_)
    refine J.istore (pc := 108) C (lv' := [(0, rv g a0), (1, .int a1), (2, .int a2), (3, .int x3), (4, .int x4), (5, .int x5), (6, .int r9)]) dX8_bestWait_108 (Nat.le_of_ble_eq_true rfl) rfl ?_
    refine J.iload (pc := 110) C dX8_bestWait_110 rfl ?_
    refine J.ldc (pc := 112) C wc_RX8_49 dX8_bestWait_112 ?_
    refine J.icmp_eq (pc := 114) C (tgt := 147) dX8_bestWait_114 rfl ?_ ?_
    · refine J.iinc (pc := 147) C (lv' := [(0, rv g a0), (1, .int a1), (2, .int a2), (3, .int x3), (4, .int x4), (5, .int (x5 + 1)), (6, .int r9)]) dX8_bestWait_147 rfl (Nat.le_of_ble_eq_true rfl) ki_1 rfl ?_
      refine J.goto (pc := 150) C (tgt := 28) dX8_bestWait_150 rfl ?_
      exact J.pick [0, 1, 2, 3, 4, 5] rfl (hk28 _ _ _ _)
    · refine J.aload_n (pc := 117) C (x := a0) dX8_bestWait_117 rfl rfl ?_
      refine J.getR (pc := 118) C fl_RX8_22 rfl dX8_bestWait_118 ?_
      refine J.iload (pc := 121) C dX8_bestWait_121 rfl ?_
      refine J.bipush (pc := 123) C dX8_bestWait_123 kb_8 ?_
      refine J.iadd (pc := 125) C dX8_bestWait_125 ?_
      refine J.iald (pc := 126) C dX8_bestWait_126 ?_
      refine J.iload (pc := 127) C dX8_bestWait_127 rfl ?_
      refine J.icmp_le (pc := 129) C (tgt := 147) dX8_bestWait_129 rfl ?_ ?_
      · refine J.iinc (pc := 147) C (lv' := [(0, rv g a0), (1, .int a1), (2, .int a2), (3, .int x3), (4, .int x4), (5, .int (x5 + 1)), (6, .int r9)]) dX8_bestWait_147 rfl (Nat.le_of_ble_eq_true rfl) ki_1 rfl ?_
        refine J.goto (pc := 150) C (tgt := 28) dX8_bestWait_150 rfl ?_
        exact J.pick [0, 1, 2, 3, 4, 5] rfl (hk28 _ _ _ _)
      · refine J.iload (pc := 132) C dX8_bestWait_132 rfl ?_
        refine J.istore_n (pc := 134) C (lv' := [(0, rv g a0), (1, .int a1), (2, .int a2), (3, .int x5), (4, .int x4), (5, .int x5), (6, .int r9)]) dX8_bestWait_134 rfl (Nat.le_of_ble_eq_true rfl) rfl ?_
        refine J.aload_n (pc := 135) C (x := a0) dX8_bestWait_135 rfl rfl ?_
        refine J.getR (pc := 136) C fl_RX8_22 rfl dX8_bestWait_136 ?_
        refine J.iload (pc := 139) C dX8_bestWait_139 rfl ?_
        refine J.bipush (pc := 141) C dX8_bestWait_141 kb_8 ?_
        refine J.iadd (pc := 143) C dX8_bestWait_143 ?_
        refine J.iald (pc := 144) C dX8_bestWait_144 ?_
        refine J.topi (fun v10 => ?_)
        refine J.istore (pc := 145) C (lv' := [(0, rv g a0), (1, .int a1), (2, .int a2), (3, .int x5), (4, .int v10), (5, .int x5), (6, .int r9)]) dX8_bestWait_145 (Nat.le_of_ble_eq_true rfl) rfl ?_
        refine J.iinc (pc := 147) C (lv' := [(0, rv g a0), (1, .int a1), (2, .int a2), (3, .int x5), (4, .int v10), (5, .int (x5 + 1)), (6, .int r9)]) dX8_bestWait_147 rfl (Nat.le_of_ble_eq_true rfl) ki_1 rfl ?_
        refine J.goto (pc := 150) C (tgt := 28) dX8_bestWait_150 rfl ?_
        exact J.pick [0, 1, 2, 3, 4, 5] rfl (hk28 _ _ _ _)
def f_X8_bestWait (S : St) (a0 : Nat) (a1 : Int32) (a2 : Int32) : Option (Int32 × St) :=
  (chk (okc S 8 a0) (bnd (f_X8_isFrame S a0 a1) fun r1 =>
  (if r1 = 0 then
  (some ((-10000001), S))
  else (bnd (f_X8_in a2 0 1) fun r2 =>
  (if r2 = 0 then
  (some ((-10000001), S))
  else (wl4 (f_X8_bestWait_B28 a0 a1 a2 (fun (S_13 : St) (y3_11 : Int32) (y4_12 : Int32) => (if y3_11 = 0 then
  (some ((-10000004), S_13))
  else (if a2 = 0 then
  (some (y3_11, S_13))
  else (some (y4_12, S_13)))))) FU S 0 0 1))))))
set_option maxRecDepth 100000 in
set_option maxHeartbeats 4000000 in
theorem c_X8_bestWait (l : Launch) (g : GG) (S : St) (a0 : Nat) (a1 : Int32) (a2 : Int32) : Ct l yX8_bestWait cX8_bestWait 8 (some .int) rm_X8_bestWait g aW pW [rv g a0, .int a1, .int a2] S (f_X8_bestWait S a0 a1 a2) := by
  refine Ct.mk (cf := cw (0, 0)) (by decide +kernel) (cat_r (cat_i (cat_i cat_n))) (Nat.le_of_ble_eq_true rfl) rfl ?_
  intro X hXl hin C
  show J X g _ _ 0 [(0, rv g a0), (1, .int a1), (2, .int a2)] [] S (f_X8_bestWait S a0 a1 a2)
  unfold f_X8_bestWait
  refine J.aload_n (pc := 0) C (x := a0) dX8_bestWait_0 rfl rfl ?_
  refine J.iload_n (pc := 1) C dX8_bestWait_1 rfl rfl ?_
  refine J.vI (pc := 2) C mv_X8_isFrame wm_RX8_97 (fun l => c_X8_isFrame l g S a0 a1) ⟨⟨Nat.zero_le _, Nat.zero_le _⟩, rfl, rfl⟩ rfl ⟨Nat.le_of_ble_eq_true rfl, Nat.le_of_ble_eq_true rfl⟩ rfl cat_n (Nat.le_of_ble_eq_true rfl) dX8_bestWait_2 (fun r1 => ?_)
  refine J.if_eq (pc := 5) C (tgt := 17) dX8_bestWait_5 rfl ?_ ?_
  · refine J.ldc (pc := 17) C wc_RX8_44 dX8_bestWait_17 ?_
    exact J.iret (pc := 19) C rfl rfl ⟨Nat.le_refl _, Nat.le_refl _⟩ dX8_bestWait_19
  · refine J.iload_n (pc := 8) C dX8_bestWait_8 rfl rfl ?_
    refine J.iconst (pc := 9) C dX8_bestWait_9 ki_0 ?_
    refine J.iconst (pc := 10) C dX8_bestWait_10 ki_1 ?_
    refine J.sI (pc := 11) C ms_X8_in wm_RX8_36 (fun l => c_X8_in l g S a2 0 1) ⟨⟨Nat.zero_le _, Nat.zero_le _⟩, rfl, rfl⟩ rfl ⟨Nat.le_of_ble_eq_true rfl, Nat.le_of_ble_eq_true rfl⟩ rfl cat_n (Nat.le_of_ble_eq_true rfl) dX8_bestWait_11 (fun r2 => ?_)
    refine J.if_ne (pc := 14) C (tgt := 20) dX8_bestWait_14 rfl ?_ ?_
    · refine J.iconst (pc := 20) C dX8_bestWait_20 ki_0 ?_
      refine J.istore_n (pc := 21) C (lv' := [(0, rv g a0), (1, .int a1), (2, .int a2), (3, .int 0)]) dX8_bestWait_21 rfl (Nat.le_of_ble_eq_true rfl) rfl ?_
      refine J.iconst (pc := 22) C dX8_bestWait_22 ki_0 ?_
      refine J.istore (pc := 23) C (lv' := [(0, rv g a0), (1, .int a1), (2, .int a2), (3, .int 0), (4, .int 0)]) dX8_bestWait_23 (Nat.le_of_ble_eq_true rfl) rfl ?_
      refine J.iconst (pc := 25) C dX8_bestWait_25 ki_1 ?_
      refine J.istore (pc := 26) C (lv' := [(0, rv g a0), (1, .int a1), (2, .int a2), (3, .int 0), (4, .int 0), (5, .int 1)]) dX8_bestWait_26 (Nat.le_of_ble_eq_true rfl) rfl ?_
      refine w_X8_bestWait_B28 C _ _ _ _ (fun S_13 y3_11 y4_12 => ?_) FU _ _ _ _
      refine J.iload_n (pc := 153) C dX8_bestWait_153 rfl rfl ?_
      refine J.if_ne (pc := 154) C (tgt := 162) dX8_bestWait_154 rfl ?_ ?_
      · refine J.iload_n (pc := 162) C dX8_bestWait_162 rfl rfl ?_
        refine J.if_ne (pc := 163) C (tgt := 170) dX8_bestWait_163 rfl ?_ ?_
        · refine J.iload (pc := 170) C dX8_bestWait_170 rfl ?_
          exact J.iret (pc := 172) C rfl rfl ⟨Nat.le_refl _, Nat.le_refl _⟩ dX8_bestWait_172
        · refine J.iload_n (pc := 166) C dX8_bestWait_166 rfl rfl ?_
          refine J.goto (pc := 167) C (tgt := 172) dX8_bestWait_167 rfl ?_
          exact J.iret (pc := 172) C rfl rfl ⟨Nat.le_refl _, Nat.le_refl _⟩ dX8_bestWait_172
      · refine J.ldc (pc := 157) C wc_RX8_120 dX8_bestWait_157 ?_
        refine J.goto (pc := 159) C (tgt := 172) dX8_bestWait_159 rfl ?_
        exact J.iret (pc := 172) C rfl rfl ⟨Nat.le_refl _, Nat.le_refl _⟩ dX8_bestWait_172
    · refine J.ldc (pc := 17) C wc_RX8_44 dX8_bestWait_17 ?_
      exact J.iret (pc := 19) C rfl rfl ⟨Nat.le_refl _, Nat.le_refl _⟩ dX8_bestWait_19
abbrev rm_X8_bits : Room := { frames := 0, cells := 0, slots := 0, locals := 0 }
def f_X8_bits_B4 (a0 : Int32) (kx4 : Int32 → Option Int32) (k4 : Int32 → Int32 → Option Int32) (x1 : Int32) (x2 : Int32) : Option Int32 :=
  (if (17 : Int32) ≤ x2 then
  (kx4 x1)
  else (k4 (x1 + ((a0 >>> (x2 &&& 31)) &&& 1)) (x2 + 1)))
set_option maxRecDepth 100000 in
set_option maxHeartbeats 4000000 in
theorem w_X8_bits_B4 {X : CT} {g : GG} (C : CX X g cX8_bits RX8 (some .int) 3 rm_X8_bits) (S : St) (a0 : Int32) (kx4 : Int32 → Option Int32) (hkx4 : ∀ (x1 : Int32), J X g (Qm X g aI (pK S)) (cw (0, 0)) 24 [(1, .int x1)] [] S (kx4 x1)) : ∀ (n : Nat) (x1 : Int32) (x2 : Int32), J X g (Qm X g aI (pK S)) (cw (0, 0)) 4 [(0, .int a0), (1, .int x1), (2, .int x2)] [] S (wl2 (f_X8_bits_B4 a0 kx4) n x1 x2) := by
  refine J.loop2 (lvf := fun (x1 : Int32) (x2 : Int32) => [(0, .int a0), (1, .int x1), (2, .int x2)]) (Sf := fun (x1 : Int32) (x2 : Int32) => S) ?_
  intro k4 hk4 x1 x2
  show J X g _ _ 4 [(0, .int a0), (1, .int x1), (2, .int x2)] [] S (f_X8_bits_B4 a0 kx4 k4 x1 x2)
  unfold f_X8_bits_B4
  refine J.iload_n (pc := 4) C dX8_bits_4 rfl rfl ?_
  refine J.bipush (pc := 5) C dX8_bits_5 kb_17 ?_
  refine J.icmp_ge (pc := 7) C (tgt := 24) dX8_bits_7 rfl ?_ ?_
  · exact J.pick [1] rfl (hkx4 _)
  · refine J.iload_n (pc := 10) C dX8_bits_10 rfl rfl ?_
    refine J.iload_n (pc := 11) C dX8_bits_11 rfl rfl ?_
    refine J.iload_n (pc := 12) C dX8_bits_12 rfl rfl ?_
    refine J.ishr (pc := 13) C dX8_bits_13 ?_
    refine J.iconst (pc := 14) C dX8_bits_14 ki_1 ?_
    refine J.iand (pc := 15) C dX8_bits_15 ?_
    refine J.iadd (pc := 16) C dX8_bits_16 ?_
    refine J.istore_n (pc := 17) C (lv' := [(0, .int a0), (1, .int (x1 + ((a0 >>> (x2 &&& 31)) &&& 1))), (2, .int x2)]) dX8_bits_17 rfl (Nat.le_of_ble_eq_true rfl) rfl ?_
    refine J.iinc (pc := 18) C (lv' := [(0, .int a0), (1, .int (x1 + ((a0 >>> (x2 &&& 31)) &&& 1))), (2, .int (x2 + 1))]) dX8_bits_18 rfl (Nat.le_of_ble_eq_true rfl) ki_1 rfl ?_
    refine J.goto (pc := 21) C (tgt := 4) dX8_bits_21 rfl ?_
    exact (hk4 _ _)
def f_X8_bits (a0 : Int32) : Option Int32 :=
  (wl2 (f_X8_bits_B4 a0 (fun (y1_1 : Int32) => (some y1_1))) FU 0 0)
set_option maxRecDepth 100000 in
set_option maxHeartbeats 4000000 in
theorem c_X8_bits (l : Launch) (g : GG) (S : St) (a0 : Int32) : Ct l yX8_bits cX8_bits 3 (some .int) rm_X8_bits g aI (pK S) [.int a0] S (f_X8_bits a0) := by
  refine Ct.mk (cf := cw (0, 0)) (by decide +kernel) (cat_i cat_n) (Nat.le_of_ble_eq_true rfl) rfl ?_
  intro X hXl hin C
  show J X g _ _ 0 [(0, .int a0)] [] S (f_X8_bits a0)
  unfold f_X8_bits
  refine J.iconst (pc := 0) C dX8_bits_0 ki_0 ?_
  refine J.istore_n (pc := 1) C (lv' := [(0, .int a0), (1, .int 0)]) dX8_bits_1 rfl (Nat.le_of_ble_eq_true rfl) rfl ?_
  refine J.iconst (pc := 2) C dX8_bits_2 ki_0 ?_
  refine J.istore_n (pc := 3) C (lv' := [(0, .int a0), (1, .int 0), (2, .int 0)]) dX8_bits_3 rfl (Nat.le_of_ble_eq_true rfl) rfl ?_
  refine w_X8_bits_B4 C _ _ _ (fun y1_1 => ?_) FU _ _
  refine J.iload_n (pc := 24) C dX8_bits_24 rfl rfl ?_
  exact J.iret (pc := 25) C rfl rfl ⟨Nat.le_refl _, Nat.le_refl _⟩ dX8_bits_25
