abbrev rm_J6_bitCount_0f7a4 : Room := { frames := 0, cells := 0, slots := 0, locals := 0 }
def f_J6_bitCount_0f7a4 (a0 : Int32) : Option Int32 :=
  (vlt (a0 - (((a0.toUInt32 >>> ((1 : Int32).toUInt32 &&& Int32.toUInt32 31)).toInt32) &&& 1431655765)) fun v1 =>
  (vlt ((v1 &&& 858993459) + (((v1.toUInt32 >>> ((2 : Int32).toUInt32 &&& Int32.toUInt32 31)).toInt32) &&& 858993459)) fun v2 =>
  (vlt ((v2 + ((v2.toUInt32 >>> ((4 : Int32).toUInt32 &&& Int32.toUInt32 31)).toInt32)) &&& 252645135) fun v3 =>
  (vlt (v3 + ((v3.toUInt32 >>> ((8 : Int32).toUInt32 &&& Int32.toUInt32 31)).toInt32)) fun v4 =>
  (vlt (v4 + ((v4.toUInt32 >>> ((16 : Int32).toUInt32 &&& Int32.toUInt32 31)).toInt32)) fun v5 =>
  (some (v5 &&& 63)))))))
set_option maxRecDepth 100000 in
set_option maxHeartbeats 4000000 in
theorem c_J6_bitCount_0f7a4 (l : Launch) (g : GG) (S : St) (a0 : Int32) : Ct l yJ6_bitCount_0f7a4 cJ6_bitCount_0f7a4 1 (some .int) rm_J6_bitCount_0f7a4 g aI (pK S) [.int a0] S (f_J6_bitCount_0f7a4 a0) := by
  refine Ct.mk (cf := cw (0, 0)) (by decide +kernel) (cat_i cat_n) (Nat.le_of_ble_eq_true rfl) rfl ?_
  intro X hXl hin C
  show J X g _ _ 0 [(0, .int a0)] [] S (f_J6_bitCount_0f7a4 a0)
  unfold f_J6_bitCount_0f7a4
  refine J.iload_n (pc := 0) C dJ6_bitCount_0f7a4_0 rfl rfl ?_
  refine J.iload_n (pc := 1) C dJ6_bitCount_0f7a4_1 rfl rfl ?_
  refine J.iconst (pc := 2) C dJ6_bitCount_0f7a4_2 ki_1 ?_
  refine J.iushr (pc := 3) C dJ6_bitCount_0f7a4_3 ?_
  refine J.ldcw (pc := 4) C wc_RJ6_265 dJ6_bitCount_0f7a4_4 ?_
  refine J.iand (pc := 7) C dJ6_bitCount_0f7a4_7 ?_
  refine J.isub (pc := 8) C dJ6_bitCount_0f7a4_8 ?_
  refine J.topi (fun v1 => ?_)
  refine J.istore_n (pc := 9) C (lv' := [(0, .int v1)]) dJ6_bitCount_0f7a4_9 rfl (Nat.le_of_ble_eq_true rfl) rfl ?_
  refine J.iload_n (pc := 10) C dJ6_bitCount_0f7a4_10 rfl rfl ?_
  refine J.ldcw (pc := 11) C wc_RJ6_266 dJ6_bitCount_0f7a4_11 ?_
  refine J.iand (pc := 14) C dJ6_bitCount_0f7a4_14 ?_
  refine J.iload_n (pc := 15) C dJ6_bitCount_0f7a4_15 rfl rfl ?_
  refine J.iconst (pc := 16) C dJ6_bitCount_0f7a4_16 ki_2 ?_
  refine J.iushr (pc := 17) C dJ6_bitCount_0f7a4_17 ?_
  refine J.ldcw (pc := 18) C wc_RJ6_266 dJ6_bitCount_0f7a4_18 ?_
  refine J.iand (pc := 21) C dJ6_bitCount_0f7a4_21 ?_
  refine J.iadd (pc := 22) C dJ6_bitCount_0f7a4_22 ?_
  refine J.topi (fun v2 => ?_)
  refine J.istore_n (pc := 23) C (lv' := [(0, .int v2)]) dJ6_bitCount_0f7a4_23 rfl (Nat.le_of_ble_eq_true rfl) rfl ?_
  refine J.iload_n (pc := 24) C dJ6_bitCount_0f7a4_24 rfl rfl ?_
  refine J.iload_n (pc := 25) C dJ6_bitCount_0f7a4_25 rfl rfl ?_
  refine J.iconst (pc := 26) C dJ6_bitCount_0f7a4_26 ki_4 ?_
  refine J.iushr (pc := 27) C dJ6_bitCount_0f7a4_27 ?_
  refine J.iadd (pc := 28) C dJ6_bitCount_0f7a4_28 ?_
  refine J.ldcw (pc := 29) C wc_RJ6_267 dJ6_bitCount_0f7a4_29 ?_
  refine J.iand (pc := 32) C dJ6_bitCount_0f7a4_32 ?_
  refine J.topi (fun v3 => ?_)
  refine J.istore_n (pc := 33) C (lv' := [(0, .int v3)]) dJ6_bitCount_0f7a4_33 rfl (Nat.le_of_ble_eq_true rfl) rfl ?_
  refine J.iload_n (pc := 34) C dJ6_bitCount_0f7a4_34 rfl rfl ?_
  refine J.iload_n (pc := 35) C dJ6_bitCount_0f7a4_35 rfl rfl ?_
  refine J.bipush (pc := 36) C dJ6_bitCount_0f7a4_36 kb_8 ?_
  refine J.iushr (pc := 38) C dJ6_bitCount_0f7a4_38 ?_
  refine J.iadd (pc := 39) C dJ6_bitCount_0f7a4_39 ?_
  refine J.topi (fun v4 => ?_)
  refine J.istore_n (pc := 40) C (lv' := [(0, .int v4)]) dJ6_bitCount_0f7a4_40 rfl (Nat.le_of_ble_eq_true rfl) rfl ?_
  refine J.iload_n (pc := 41) C dJ6_bitCount_0f7a4_41 rfl rfl ?_
  refine J.iload_n (pc := 42) C dJ6_bitCount_0f7a4_42 rfl rfl ?_
  refine J.bipush (pc := 43) C dJ6_bitCount_0f7a4_43 kb_16 ?_
  refine J.iushr (pc := 45) C dJ6_bitCount_0f7a4_45 ?_
  refine J.iadd (pc := 46) C dJ6_bitCount_0f7a4_46 ?_
  refine J.topi (fun v5 => ?_)
  refine J.istore_n (pc := 47) C (lv' := [(0, .int v5)]) dJ6_bitCount_0f7a4_47 rfl (Nat.le_of_ble_eq_true rfl) rfl ?_
  refine J.iload_n (pc := 48) C dJ6_bitCount_0f7a4_48 rfl rfl ?_
  refine J.bipush (pc := 49) C dJ6_bitCount_0f7a4_49 kb_63 ?_
  refine J.iand (pc := 51) C dJ6_bitCount_0f7a4_51 ?_
  exact J.iret (pc := 52) C rfl rfl ⟨Nat.le_refl _, Nat.le_refl _⟩ dJ6_bitCount_0f7a4_52
abbrev rm_J9_abs_0f7a4 : Room := { frames := 0, cells := 0, slots := 0, locals := 0 }
def f_J9_abs_0f7a4 (a0 : Int32) : Option Int32 :=
  (if (0 : Int32) ≤ a0 then
  (some a0)
  else (some (-a0)))
set_option maxRecDepth 100000 in
set_option maxHeartbeats 4000000 in
theorem c_J9_abs_0f7a4 (l : Launch) (g : GG) (S : St) (a0 : Int32) : Ct l yJ9_abs_0f7a4 cJ9_abs_0f7a4 1 (some .int) rm_J9_abs_0f7a4 g aI (pK S) [.int a0] S (f_J9_abs_0f7a4 a0) := by
  refine Ct.mk (cf := cw (0, 0)) (by decide +kernel) (cat_i cat_n) (Nat.le_of_ble_eq_true rfl) rfl ?_
  intro X hXl hin C
  show J X g _ _ 0 [(0, .int a0)] [] S (f_J9_abs_0f7a4 a0)
  unfold f_J9_abs_0f7a4
  refine J.iload_n (pc := 0) C dJ9_abs_0f7a4_0 rfl rfl ?_
  refine J.if_ge (pc := 1) C (tgt := 9) dJ9_abs_0f7a4_1 rfl ?_ ?_
  · refine J.iload_n (pc := 9) C dJ9_abs_0f7a4_9 rfl rfl ?_
    exact J.iret (pc := 10) C rfl rfl ⟨Nat.le_refl _, Nat.le_refl _⟩ dJ9_abs_0f7a4_10
  · refine J.iload_n (pc := 4) C dJ9_abs_0f7a4_4 rfl rfl ?_
    refine J.ineg (pc := 5) C dJ9_abs_0f7a4_5 ?_
    refine J.goto (pc := 6) C (tgt := 10) dJ9_abs_0f7a4_6 rfl ?_
    exact J.iret (pc := 10) C rfl rfl ⟨Nat.le_refl _, Nat.le_refl _⟩ dJ9_abs_0f7a4_10
abbrev rm_J9_floorDiv_7cf53 : Room := { frames := 0, cells := 0, slots := 0, locals := 0 }
def f_J9_floorDiv_7cf53 (a0 : Int32) (a1 : Int32) : Option Int32 :=
  (chk (¬ a1 = 0)
  (if (0 : Int32) ≤ (a0 ^^^ a1) then
  (some (a0 / a1))
  else (if ((a0 / a1) * a1) = a0 then
  (some (a0 / a1))
  else (some ((a0 / a1) - 1)))))
set_option maxRecDepth 100000 in
set_option maxHeartbeats 4000000 in
theorem c_J9_floorDiv_7cf53 (l : Launch) (g : GG) (S : St) (a0 : Int32) (a1 : Int32) : Ct l yJ9_floorDiv_7cf53 cJ9_floorDiv_7cf53 3 (some .int) rm_J9_floorDiv_7cf53 g aI (pK S) [.int a0, .int a1] S (f_J9_floorDiv_7cf53 a0 a1) := by
  refine Ct.mk (cf := cw (0, 0)) (by decide +kernel) (cat_i (cat_i cat_n)) (Nat.le_of_ble_eq_true rfl) rfl ?_
  intro X hXl hin C
  show J X g _ _ 0 [(0, .int a0), (1, .int a1)] [] S (f_J9_floorDiv_7cf53 a0 a1)
  unfold f_J9_floorDiv_7cf53
  refine J.iload_n (pc := 0) C dJ9_floorDiv_7cf53_0 rfl rfl ?_
  refine J.iload_n (pc := 1) C dJ9_floorDiv_7cf53_1 rfl rfl ?_
  refine J.idiv (pc := 2) C dJ9_floorDiv_7cf53_2 ?_
  refine J.istore_n (pc := 3) C (lv' := [(0, .int a0), (1, .int a1), (2, .int (a0 / a1))]) dJ9_floorDiv_7cf53_3 rfl (Nat.le_of_ble_eq_true rfl) rfl ?_
  refine J.iload_n (pc := 4) C dJ9_floorDiv_7cf53_4 rfl rfl ?_
  refine J.iload_n (pc := 5) C dJ9_floorDiv_7cf53_5 rfl rfl ?_
  refine J.ixor (pc := 6) C dJ9_floorDiv_7cf53_6 ?_
  refine J.if_ge (pc := 7) C (tgt := 21) dJ9_floorDiv_7cf53_7 rfl ?_ ?_
  · refine J.iload_n (pc := 21) C dJ9_floorDiv_7cf53_21 rfl rfl ?_
    exact J.iret (pc := 22) C rfl rfl ⟨Nat.le_refl _, Nat.le_refl _⟩ dJ9_floorDiv_7cf53_22
  · refine J.iload_n (pc := 10) C dJ9_floorDiv_7cf53_10 rfl rfl ?_
    refine J.iload_n (pc := 11) C dJ9_floorDiv_7cf53_11 rfl rfl ?_
    refine J.imul (pc := 12) C dJ9_floorDiv_7cf53_12 ?_
    refine J.iload_n (pc := 13) C dJ9_floorDiv_7cf53_13 rfl rfl ?_
    refine J.icmp_eq (pc := 14) C (tgt := 21) dJ9_floorDiv_7cf53_14 rfl ?_ ?_
    · refine J.iload_n (pc := 21) C dJ9_floorDiv_7cf53_21 rfl rfl ?_
      exact J.iret (pc := 22) C rfl rfl ⟨Nat.le_refl _, Nat.le_refl _⟩ dJ9_floorDiv_7cf53_22
    · refine J.iload_n (pc := 17) C dJ9_floorDiv_7cf53_17 rfl rfl ?_
      refine J.iconst (pc := 18) C dJ9_floorDiv_7cf53_18 ki_1 ?_
      refine J.isub (pc := 19) C dJ9_floorDiv_7cf53_19 ?_
      exact J.iret (pc := 20) C rfl rfl ⟨Nat.le_refl _, Nat.le_refl _⟩ dJ9_floorDiv_7cf53_20
abbrev rm_J9_max_7cf53 : Room := { frames := 0, cells := 0, slots := 0, locals := 0 }
def f_J9_max_7cf53 (a0 : Int32) (a1 : Int32) : Option Int32 :=
  (if a0 < a1 then
  (some a1)
  else (some a0))
set_option maxRecDepth 100000 in
set_option maxHeartbeats 4000000 in
theorem c_J9_max_7cf53 (l : Launch) (g : GG) (S : St) (a0 : Int32) (a1 : Int32) : Ct l yJ9_max_7cf53 cJ9_max_7cf53 2 (some .int) rm_J9_max_7cf53 g aI (pK S) [.int a0, .int a1] S (f_J9_max_7cf53 a0 a1) := by
  refine Ct.mk (cf := cw (0, 0)) (by decide +kernel) (cat_i (cat_i cat_n)) (Nat.le_of_ble_eq_true rfl) rfl ?_
  intro X hXl hin C
  show J X g _ _ 0 [(0, .int a0), (1, .int a1)] [] S (f_J9_max_7cf53 a0 a1)
  unfold f_J9_max_7cf53
  refine J.iload_n (pc := 0) C dJ9_max_7cf53_0 rfl rfl ?_
  refine J.iload_n (pc := 1) C dJ9_max_7cf53_1 rfl rfl ?_
  refine J.icmp_lt (pc := 2) C (tgt := 9) dJ9_max_7cf53_2 rfl ?_ ?_
  · refine J.iload_n (pc := 9) C dJ9_max_7cf53_9 rfl rfl ?_
    exact J.iret (pc := 10) C rfl rfl ⟨Nat.le_refl _, Nat.le_refl _⟩ dJ9_max_7cf53_10
  · refine J.iload_n (pc := 5) C dJ9_max_7cf53_5 rfl rfl ?_
    refine J.goto (pc := 6) C (tgt := 10) dJ9_max_7cf53_6 rfl ?_
    exact J.iret (pc := 10) C rfl rfl ⟨Nat.le_refl _, Nat.le_refl _⟩ dJ9_max_7cf53_10
abbrev rm_J9_min_7cf53 : Room := { frames := 0, cells := 0, slots := 0, locals := 0 }
def f_J9_min_7cf53 (a0 : Int32) (a1 : Int32) : Option Int32 :=
  (if a1 < a0 then
  (some a1)
  else (some a0))
set_option maxRecDepth 100000 in
set_option maxHeartbeats 4000000 in
theorem c_J9_min_7cf53 (l : Launch) (g : GG) (S : St) (a0 : Int32) (a1 : Int32) : Ct l yJ9_min_7cf53 cJ9_min_7cf53 2 (some .int) rm_J9_min_7cf53 g aI (pK S) [.int a0, .int a1] S (f_J9_min_7cf53 a0 a1) := by
  refine Ct.mk (cf := cw (0, 0)) (by decide +kernel) (cat_i (cat_i cat_n)) (Nat.le_of_ble_eq_true rfl) rfl ?_
  intro X hXl hin C
  show J X g _ _ 0 [(0, .int a0), (1, .int a1)] [] S (f_J9_min_7cf53 a0 a1)
  unfold f_J9_min_7cf53
  refine J.iload_n (pc := 0) C dJ9_min_7cf53_0 rfl rfl ?_
  refine J.iload_n (pc := 1) C dJ9_min_7cf53_1 rfl rfl ?_
  refine J.icmp_gt (pc := 2) C (tgt := 9) dJ9_min_7cf53_2 rfl ?_ ?_
  · refine J.iload_n (pc := 9) C dJ9_min_7cf53_9 rfl rfl ?_
    exact J.iret (pc := 10) C rfl rfl ⟨Nat.le_refl _, Nat.le_refl _⟩ dJ9_min_7cf53_10
  · refine J.iload_n (pc := 5) C dJ9_min_7cf53_5 rfl rfl ?_
    refine J.goto (pc := 6) C (tgt := 10) dJ9_min_7cf53_6 rfl ?_
    exact J.iret (pc := 10) C rfl rfl ⟨Nat.le_refl _, Nat.le_refl _⟩ dJ9_min_7cf53_10
abbrev rm_X3_frameAt : Room := { frames := 0, cells := 0, slots := 0, locals := 0 }
def f_X3_frameAt (S : St) (a0 : Nat) (a1 : Int32) : Option Nat :=
  (if a1 < 0 then
  (some 0)
  else (chk (okc S 3 a0)
  (if (S.1 a0 4) ≤ a1 then
  (some 0)
  else (chk (okc S 3 a0)
  (chk (okc S 12 (S.2.1 a0 3))
  (if (Int32.ofNat (ln (S.2.1 a0 3))) ≤ a1 then
  (some 0)
  else (chk (okc S 3 a0)
  (chk (ina S 12 (S.2.1 a0 3) a1)
  (some (S.2.1 (S.2.1 a0 3) a1.toNatClampNeg))))))))))
set_option maxRecDepth 100000 in
set_option maxHeartbeats 4000000 in
theorem c_X3_frameAt (l : Launch) (g : GG) (S : St) (a0 : Nat) (a1 : Int32) : Ct l yX3_frameAt cX3_frameAt 2 (some (.object "RowVotes$Frame")) rm_X3_frameAt g (aR g) (pK S) [rv g a0, .int a1] S (f_X3_frameAt S a0 a1) := by
  refine Ct.mk (cf := cw (0, 0)) (by decide +kernel) (cat_r (cat_i cat_n)) (Nat.le_of_ble_eq_true rfl) rfl ?_
  intro X hXl hin C
  show J X g _ _ 0 [(0, rv g a0), (1, .int a1)] [] S (f_X3_frameAt S a0 a1)
  unfold f_X3_frameAt
  refine J.iload_n (pc := 0) C dX3_frameAt_0 rfl rfl ?_
  refine J.if_lt (pc := 1) C (tgt := 30) dX3_frameAt_1 rfl ?_ ?_
  · refine J.anull (pc := 30) C dX3_frameAt_30 ?_
    exact J.aret (pc := 31) C rfl rfl ⟨Nat.le_refl _, Nat.le_refl _⟩ dX3_frameAt_31
  · refine J.iload_n (pc := 4) C dX3_frameAt_4 rfl rfl ?_
    refine J.aload_n (pc := 5) C (x := a0) dX3_frameAt_5 rfl rfl ?_
    refine J.getI (pc := 6) C fl_RX3_67 rfl dX3_frameAt_6 ?_
    refine J.icmp_ge (pc := 9) C (tgt := 30) dX3_frameAt_9 rfl ?_ ?_
    · refine J.anull (pc := 30) C dX3_frameAt_30 ?_
      exact J.aret (pc := 31) C rfl rfl ⟨Nat.le_refl _, Nat.le_refl _⟩ dX3_frameAt_31
    · refine J.iload_n (pc := 12) C dX3_frameAt_12 rfl rfl ?_
      refine J.aload_n (pc := 13) C (x := a0) dX3_frameAt_13 rfl rfl ?_
      refine J.getR (pc := 14) C fl_RX3_23 rfl dX3_frameAt_14 ?_
      refine J.alen (pc := 17) C 12 (by decide) dX3_frameAt_17 ?_
      refine J.icmp_ge (pc := 18) C (tgt := 30) dX3_frameAt_18 rfl ?_ ?_
      · refine J.anull (pc := 30) C dX3_frameAt_30 ?_
        exact J.aret (pc := 31) C rfl rfl ⟨Nat.le_refl _, Nat.le_refl _⟩ dX3_frameAt_31
      · refine J.aload_n (pc := 21) C (x := a0) dX3_frameAt_21 rfl rfl ?_
        refine J.getR (pc := 22) C fl_RX3_23 rfl dX3_frameAt_22 ?_
        refine J.iload_n (pc := 25) C dX3_frameAt_25 rfl rfl ?_
        refine J.aald (pc := 26) C 12 (by decide) (fun _ => rfl) rfl dX3_frameAt_26 ?_
        refine J.goto (pc := 27) C (tgt := 31) dX3_frameAt_27 rfl ?_
        exact J.aret (pc := 31) C rfl rfl ⟨Nat.le_refl _, Nat.le_refl _⟩ dX3_frameAt_31
abbrev rm_X7_dimmed : Room := { frames := 0, cells := 0, slots := 0, locals := 0 }
def f_X7_dimmed (a0 : Int32) (a1 : Int32) : Option Int32 :=
  (chk (¬ (100 : Int32) = 0)
  (some ((a0 * a1) / 100)))
set_option maxRecDepth 100000 in
set_option maxHeartbeats 4000000 in
theorem c_X7_dimmed (l : Launch) (g : GG) (S : St) (a0 : Int32) (a1 : Int32) : Ct l yX7_dimmed cX7_dimmed 2 (some .int) rm_X7_dimmed g aI (pK S) [.int a0, .int a1] S (f_X7_dimmed a0 a1) := by
  refine Ct.mk (cf := cw (0, 0)) (by decide +kernel) (cat_i (cat_i cat_n)) (Nat.le_of_ble_eq_true rfl) rfl ?_
  intro X hXl hin C
  show J X g _ _ 0 [(0, .int a0), (1, .int a1)] [] S (f_X7_dimmed a0 a1)
  unfold f_X7_dimmed
  refine J.iload_n (pc := 0) C dX7_dimmed_0 rfl rfl ?_
  refine J.iload_n (pc := 1) C dX7_dimmed_1 rfl rfl ?_
  refine J.imul (pc := 2) C dX7_dimmed_2 ?_
  refine J.bipush (pc := 3) C dX7_dimmed_3 kb_100 ?_
  refine J.idiv (pc := 5) C dX7_dimmed_5 ?_
  exact J.iret (pc := 6) C rfl rfl ⟨Nat.le_refl _, Nat.le_refl _⟩ dX7_dimmed_6
abbrev rm_X0_keepRow : Room := { frames := 1, cells := 0, slots := 0, locals := 21 }
def f_X0_keepRow_B9 (a0 : Nat) (a2 : Nat) (a3 : Int32) (a4 : Int32) (kx9 : St → Option St) (k9 : St → Int32 → Option St) (S : St) (x5 : Int32) : Option St :=
  (chk (okc S 10 a2)
  (if (Int32.ofNat (ln a2)) ≤ x5 then
  (kx9 S)
  else (if (a4 + x5) < 0 then
  (k9 S (x5 + 1))
  else (chk (okc S 0 a0)
  (chk (okc S 10 (S.2.1 a0 2))
  (if (Int32.ofNat (ln (S.2.1 a0 2))) ≤ (a4 + x5) then
  (k9 S (x5 + 1))
  else (chk (okc S 0 a0)
  (chk (ina S 10 a2 x5)
  (bnd (f_X7_dimmed (S.1 a2 x5.toNatClampNeg) a3) fun r1 =>
  (chk (inw S 10 (S.2.1 a0 2) (a4 + x5)) (vlt (upI S (S.2.1 a0 2) (a4 + x5).toNatClampNeg r1) fun S_2 =>
  (k9 S_2 (x5 + 1)))))))))))))
set_option maxRecDepth 100000 in
set_option maxHeartbeats 4000000 in
theorem w_X0_keepRow_B9 {X : CT} {g : GG} (C : CX X g cX0_keepRow RX0 none 7 rm_X0_keepRow) (a0 : Nat) (a2 : Nat) (a3 : Int32) (a4 : Int32) (kx9 : St → Option St) (hkx9 : ∀ (S : St), J X g (Qm X g aU pU) (cw (0, 0)) 59 [] [] S (kx9 S)) : ∀ (n : Nat) (S : St) (x5 : Int32), J X g (Qm X g aU pU) (cw (0, 0)) 9 [(0, rv g a0), (2, rv g a2), (3, .int a3), (4, .int a4), (5, .int x5)] [] S (wl2 (f_X0_keepRow_B9 a0 a2 a3 a4 kx9) n S x5) := by
  refine J.loop2 (lvf := fun (S : St) (x5 : Int32) => [(0, rv g a0), (2, rv g a2), (3, .int a3), (4, .int a4), (5, .int x5)]) (Sf := fun (S : St) (x5 : Int32) => S) ?_
  intro k9 hk9 S x5
  show J X g _ _ 9 [(0, rv g a0), (2, rv g a2), (3, .int a3), (4, .int a4), (5, .int x5)] [] S (f_X0_keepRow_B9 a0 a2 a3 a4 kx9 k9 S x5)
  unfold f_X0_keepRow_B9
  refine J.iload (pc := 9) C dX0_keepRow_9 rfl ?_
  refine J.aload_n (pc := 11) C (x := a2) dX0_keepRow_11 rfl rfl ?_
  refine J.alen (pc := 12) C 10 (by decide) dX0_keepRow_12 ?_
  refine J.icmp_ge (pc := 13) C (tgt := 59) dX0_keepRow_13 rfl ?_ ?_
  · exact J.pick [] rfl (hkx9 _)
  · refine J.iload (pc := 16) C dX0_keepRow_16 rfl ?_
    refine J.iload (pc := 18) C dX0_keepRow_18 rfl ?_
    refine J.iadd (pc := 20) C dX0_keepRow_20 ?_
    refine J.istore (pc := 21) C (lv' := [(0, rv g a0), (2, rv g a2), (3, .int a3), (4, .int a4), (5, .int x5), (6, .int (a4 + x5))]) dX0_keepRow_21 (Nat.le_of_ble_eq_true rfl) rfl ?_
    refine J.iload (pc := 23) C dX0_keepRow_23 rfl ?_
    refine J.if_lt (pc := 25) C (tgt := 53) dX0_keepRow_25 rfl ?_ ?_
    · refine J.iinc (pc := 53) C (lv' := [(0, rv g a0), (2, rv g a2), (3, .int a3), (4, .int a4), (5, .int (x5 + 1)), (6, .int (a4 + x5))]) dX0_keepRow_53 rfl (Nat.le_of_ble_eq_true rfl) ki_1 rfl ?_
      refine J.goto (pc := 56) C (tgt := 9) dX0_keepRow_56 rfl ?_
      exact J.pick [0, 1, 2, 3, 4] rfl (hk9 _ _)
    · refine J.iload (pc := 28) C dX0_keepRow_28 rfl ?_
      refine J.aload_n (pc := 30) C (x := a0) dX0_keepRow_30 rfl rfl ?_
      refine J.getR (pc := 31) C fl_RX0_9 rfl dX0_keepRow_31 ?_
      refine J.alen (pc := 34) C 10 (by decide) dX0_keepRow_34 ?_
      refine J.icmp_ge (pc := 35) C (tgt := 53) dX0_keepRow_35 rfl ?_ ?_
      · refine J.iinc (pc := 53) C (lv' := [(0, rv g a0), (2, rv g a2), (3, .int a3), (4, .int a4), (5, .int (x5 + 1)), (6, .int (a4 + x5))]) dX0_keepRow_53 rfl (Nat.le_of_ble_eq_true rfl) ki_1 rfl ?_
        refine J.goto (pc := 56) C (tgt := 9) dX0_keepRow_56 rfl ?_
        exact J.pick [0, 1, 2, 3, 4] rfl (hk9 _ _)
      · refine J.aload_n (pc := 38) C (x := a0) dX0_keepRow_38 rfl rfl ?_
        refine J.getR (pc := 39) C fl_RX0_9 rfl dX0_keepRow_39 ?_
        refine J.iload (pc := 42) C dX0_keepRow_42 rfl ?_
        refine J.aload_n (pc := 44) C (x := a2) dX0_keepRow_44 rfl rfl ?_
        refine J.iload (pc := 45) C dX0_keepRow_45 rfl ?_
        refine J.iald (pc := 47) C dX0_keepRow_47 ?_
        refine J.iload_n (pc := 48) C dX0_keepRow_48 rfl rfl ?_
        refine J.snI (pc := 49) C ms_X7_dimmed wn_RX0_26 (fun l => c_X7_dimmed l g S (S.1 a2 x5.toNatClampNeg) a3) ⟨⟨Nat.zero_le _, Nat.zero_le _⟩, rfl, rfl⟩ rfl ⟨Nat.le_of_ble_eq_true rfl, Nat.le_of_ble_eq_true rfl⟩ rfl (cat_i (cat_r cat_n)) (Nat.le_of_ble_eq_true rfl) dX0_keepRow_49 (fun r1 => ?_)
        refine J.iasts (pc := 52) C dX0_keepRow_52 (fun S_2 => ?_)
        refine J.iinc (pc := 53) C (lv' := [(0, rv g a0), (2, rv g a2), (3, .int a3), (4, .int a4), (5, .int (x5 + 1)), (6, .int (a4 + x5))]) dX0_keepRow_53 rfl (Nat.le_of_ble_eq_true rfl) ki_1 rfl ?_
        refine J.goto (pc := 56) C (tgt := 9) dX0_keepRow_56 rfl ?_
        exact J.pick [0, 1, 2, 3, 4] rfl (hk9 _ _)
def f_X0_keepRow (S : St) (a0 : Nat) (a1 : Int32) (a2 : Nat) (a3 : Int32) : Option St :=
  (wl2 (f_X0_keepRow_B9 a0 a2 a3 (a1 * 16) (fun (S_3 : St) => (some S_3))) FU S 0)
set_option maxRecDepth 100000 in
set_option maxHeartbeats 4000000 in
theorem c_X0_keepRow (l : Launch) (g : GG) (S : St) (a0 : Nat) (a1 : Int32) (a2 : Nat) (a3 : Int32) : Ct l yX0_keepRow cX0_keepRow 7 none rm_X0_keepRow g aU pU [rv g a0, .int a1, rv g a2, .int a3] S (f_X0_keepRow S a0 a1 a2 a3) := by
  refine Ct.mk (cf := cw (0, 0)) (by decide +kernel) (cat_r (cat_i (cat_r (cat_i cat_n)))) (Nat.le_of_ble_eq_true rfl) rfl ?_
  intro X hXl hin C
  show J X g _ _ 0 [(0, rv g a0), (1, .int a1), (2, rv g a2), (3, .int a3)] [] S (f_X0_keepRow S a0 a1 a2 a3)
  unfold f_X0_keepRow
  refine J.iload_n (pc := 0) C dX0_keepRow_0 rfl rfl ?_
  refine J.bipush (pc := 1) C dX0_keepRow_1 kb_16 ?_
  refine J.imul (pc := 3) C dX0_keepRow_3 ?_
  refine J.istore (pc := 4) C (lv' := [(0, rv g a0), (1, .int a1), (2, rv g a2), (3, .int a3), (4, .int (a1 * 16))]) dX0_keepRow_4 (Nat.le_of_ble_eq_true rfl) rfl ?_
  refine J.iconst (pc := 6) C dX0_keepRow_6 ki_0 ?_
  refine J.istore (pc := 7) C (lv' := [(0, rv g a0), (1, .int a1), (2, rv g a2), (3, .int a3), (4, .int (a1 * 16)), (5, .int 0)]) dX0_keepRow_7 (Nat.le_of_ble_eq_true rfl) rfl ?_
  refine J.pick [0, 2, 3, 4, 5] rfl ?_
  refine w_X0_keepRow_B9 C _ _ _ _ _ (fun S_3 => ?_) FU _ _
  exact J.vret (pc := 59) C rfl rfl ⟨Nat.le_refl _, Nat.le_refl _⟩ dX0_keepRow_59
abbrev rm_X7_holds : Room := { frames := 0, cells := 0, slots := 0, locals := 0 }
def f_X7_holds (a0 : Int32) (a1 : Int32) : Option Int32 :=
  (if ((a0 >>> (a1 &&& 31)) &&& 1) = 1 then
  (some 1)
  else (some 0))
set_option maxRecDepth 100000 in
set_option maxHeartbeats 4000000 in
theorem c_X7_holds (l : Launch) (g : GG) (S : St) (a0 : Int32) (a1 : Int32) : Ct l yX7_holds cX7_holds 2 (some .boolean) rm_X7_holds g aI (pK S) [.int a0, .int a1] S (f_X7_holds a0 a1) := by
  refine Ct.mk (cf := cw (0, 0)) (by decide +kernel) (cat_i (cat_i cat_n)) (Nat.le_of_ble_eq_true rfl) rfl ?_
  intro X hXl hin C
  show J X g _ _ 0 [(0, .int a0), (1, .int a1)] [] S (f_X7_holds a0 a1)
  unfold f_X7_holds
  refine J.iload_n (pc := 0) C dX7_holds_0 rfl rfl ?_
  refine J.iload_n (pc := 1) C dX7_holds_1 rfl rfl ?_
  refine J.ishr (pc := 2) C dX7_holds_2 ?_
  refine J.iconst (pc := 3) C dX7_holds_3 ki_1 ?_
  refine J.iand (pc := 4) C dX7_holds_4 ?_
  refine J.iconst (pc := 5) C dX7_holds_5 ki_1 ?_
  refine J.icmp_ne (pc := 6) C (tgt := 13) dX7_holds_6 rfl ?_ ?_
  · refine J.iconst (pc := 13) C dX7_holds_13 ki_0 ?_
    exact J.zret (pc := 14) C rfl rfl rfl ⟨Nat.le_refl _, Nat.le_refl _⟩ dX7_holds_14
  · refine J.iconst (pc := 9) C dX7_holds_9 ki_1 ?_
    refine J.goto (pc := 10) C (tgt := 14) dX7_holds_10 rfl ?_
    exact J.zret (pc := 14) C rfl rfl rfl ⟨Nat.le_refl _, Nat.le_refl _⟩ dX7_holds_14
abbrev rm_X3_paintOver : Room := { frames := 1, cells := 0, slots := 0, locals := 21 }
def f_X3_paintOver_B3 (a1 : Nat) (a2 : Int32) (a3 : Int32) (kx3 : St → Option St) (k3 : St → Int32 → Option St) (S : St) (x4 : Int32) : Option St :=
  (chk (okc S 10 a1)
  (if (Int32.ofNat (ln a1)) ≤ x4 then
  (kx3 S)
  else (bnd (f_X7_holds a2 x4) fun r1 =>
  (if r1 = 0 then
  (k3 S (x4 + 1))
  else (chk (inw S 10 a1 x4) (vlt (upI S a1 x4.toNatClampNeg a3) fun S_2 =>
  (k3 S_2 (x4 + 1))))))))
set_option maxRecDepth 100000 in
set_option maxHeartbeats 4000000 in
theorem w_X3_paintOver_B3 {X : CT} {g : GG} (C : CX X g cX3_paintOver RX3 none 5 rm_X3_paintOver) (a1 : Nat) (a2 : Int32) (a3 : Int32) (kx3 : St → Option St) (hkx3 : ∀ (S : St), J X g (Qm X g aU pU) (cw (0, 0)) 30 [] [] S (kx3 S)) : ∀ (n : Nat) (S : St) (x4 : Int32), J X g (Qm X g aU pU) (cw (0, 0)) 3 [(1, rv g a1), (2, .int a2), (3, .int a3), (4, .int x4)] [] S (wl2 (f_X3_paintOver_B3 a1 a2 a3 kx3) n S x4) := by
  refine J.loop2 (lvf := fun (S : St) (x4 : Int32) => [(1, rv g a1), (2, .int a2), (3, .int a3), (4, .int x4)]) (Sf := fun (S : St) (x4 : Int32) => S) ?_
  intro k3 hk3 S x4
  show J X g _ _ 3 [(1, rv g a1), (2, .int a2), (3, .int a3), (4, .int x4)] [] S (f_X3_paintOver_B3 a1 a2 a3 kx3 k3 S x4)
  unfold f_X3_paintOver_B3
  refine J.iload (pc := 3) C dX3_paintOver_3 rfl ?_
  refine J.aload_n (pc := 5) C (x := a1) dX3_paintOver_5 rfl rfl ?_
  refine J.alen (pc := 6) C 10 (by decide) dX3_paintOver_6 ?_
  refine J.icmp_ge (pc := 7) C (tgt := 30) dX3_paintOver_7 rfl ?_ ?_
  · exact J.pick [] rfl (hkx3 _)
  · refine J.iload_n (pc := 10) C dX3_paintOver_10 rfl rfl ?_
    refine J.iload (pc := 11) C dX3_paintOver_11 rfl ?_
    refine J.snI (pc := 13) C ms_X7_holds wn_RX3_112 (fun l => c_X7_holds l g S a2 x4) ⟨⟨Nat.zero_le _, Nat.zero_le _⟩, rfl, rfl⟩ rfl ⟨Nat.le_of_ble_eq_true rfl, Nat.le_of_ble_eq_true rfl⟩ rfl cat_n (Nat.le_of_ble_eq_true rfl) dX3_paintOver_13 (fun r1 => ?_)
    refine J.if_eq (pc := 16) C (tgt := 24) dX3_paintOver_16 rfl ?_ ?_
    · refine J.iinc (pc := 24) C (lv' := [(1, rv g a1), (2, .int a2), (3, .int a3), (4, .int (x4 + 1))]) dX3_paintOver_24 rfl (Nat.le_of_ble_eq_true rfl) ki_1 rfl ?_
      refine J.goto (pc := 27) C (tgt := 3) dX3_paintOver_27 rfl ?_
      exact (hk3 _ _)
    · refine J.aload_n (pc := 19) C (x := a1) dX3_paintOver_19 rfl rfl ?_
      refine J.iload (pc := 20) C dX3_paintOver_20 rfl ?_
      refine J.iload_n (pc := 22) C dX3_paintOver_22 rfl rfl ?_
      refine J.iasts (pc := 23) C dX3_paintOver_23 (fun S_2 => ?_)
      refine J.iinc (pc := 24) C (lv' := [(1, rv g a1), (2, .int a2), (3, .int a3), (4, .int (x4 + 1))]) dX3_paintOver_24 rfl (Nat.le_of_ble_eq_true rfl) ki_1 rfl ?_
      refine J.goto (pc := 27) C (tgt := 3) dX3_paintOver_27 rfl ?_
      exact (hk3 _ _)
def f_X3_paintOver (S : St) (a0 : Nat) (a1 : Nat) (a2 : Int32) (a3 : Int32) : Option St :=
  (wl2 (f_X3_paintOver_B3 a1 a2 a3 (fun (S_3 : St) => (some S_3))) FU S 0)
set_option maxRecDepth 100000 in
set_option maxHeartbeats 4000000 in
theorem c_X3_paintOver (l : Launch) (g : GG) (S : St) (a0 : Nat) (a1 : Nat) (a2 : Int32) (a3 : Int32) : Ct l yX3_paintOver cX3_paintOver 5 none rm_X3_paintOver g aU pU [rv g a0, rv g a1, .int a2, .int a3] S (f_X3_paintOver S a0 a1 a2 a3) := by
  refine Ct.mk (cf := cw (0, 0)) (by decide +kernel) (cat_r (cat_r (cat_i (cat_i cat_n)))) (Nat.le_of_ble_eq_true rfl) rfl ?_
  intro X hXl hin C
  show J X g _ _ 0 [(0, rv g a0), (1, rv g a1), (2, .int a2), (3, .int a3)] [] S (f_X3_paintOver S a0 a1 a2 a3)
  unfold f_X3_paintOver
  refine J.iconst (pc := 0) C dX3_paintOver_0 ki_0 ?_
  refine J.istore (pc := 1) C (lv' := [(0, rv g a0), (1, rv g a1), (2, .int a2), (3, .int a3), (4, .int 0)]) dX3_paintOver_1 (Nat.le_of_ble_eq_true rfl) rfl ?_
  refine J.pick [1, 2, 3, 4] rfl ?_
  refine w_X3_paintOver_B3 C _ _ _ _ (fun S_3 => ?_) FU _ _
  exact J.vret (pc := 30) C rfl rfl ⟨Nat.le_refl _, Nat.le_refl _⟩ dX3_paintOver_30
abbrev rm_X7_numberIn : Room := { frames := 0, cells := 0, slots := 0, locals := 0 }
def f_X7_numberIn (S : St) (a0 : Nat) (a1 : Int32) : Option Int32 :=
  (if a1 < 0 then
  (some 0)
  else (chk (okc S 10 a0)
  (if (Int32.ofNat (ln a0)) ≤ a1 then
  (some 0)
  else (chk (ina S 10 a0 a1)
  (some (S.1 a0 a1.toNatClampNeg))))))
set_option maxRecDepth 100000 in
set_option maxHeartbeats 4000000 in
theorem c_X7_numberIn (l : Launch) (g : GG) (S : St) (a0 : Nat) (a1 : Int32) : Ct l yX7_numberIn cX7_numberIn 2 (some .int) rm_X7_numberIn g aI (pK S) [rv g a0, .int a1] S (f_X7_numberIn S a0 a1) := by
  refine Ct.mk (cf := cw (0, 0)) (by decide +kernel) (cat_r (cat_i cat_n)) (Nat.le_of_ble_eq_true rfl) rfl ?_
  intro X hXl hin C
  show J X g _ _ 0 [(0, rv g a0), (1, .int a1)] [] S (f_X7_numberIn S a0 a1)
  unfold f_X7_numberIn
  refine J.iload_n (pc := 0) C dX7_numberIn_0 rfl rfl ?_
  refine J.if_lt (pc := 1) C (tgt := 16) dX7_numberIn_1 rfl ?_ ?_
  · refine J.iconst (pc := 16) C dX7_numberIn_16 ki_0 ?_
    exact J.iret (pc := 17) C rfl rfl ⟨Nat.le_refl _, Nat.le_refl _⟩ dX7_numberIn_17
  · refine J.iload_n (pc := 4) C dX7_numberIn_4 rfl rfl ?_
    refine J.aload_n (pc := 5) C (x := a0) dX7_numberIn_5 rfl rfl ?_
    refine J.alen (pc := 6) C 10 (by decide) dX7_numberIn_6 ?_
    refine J.icmp_ge (pc := 7) C (tgt := 16) dX7_numberIn_7 rfl ?_ ?_
    · refine J.iconst (pc := 16) C dX7_numberIn_16 ki_0 ?_
      exact J.iret (pc := 17) C rfl rfl ⟨Nat.le_refl _, Nat.le_refl _⟩ dX7_numberIn_17
    · refine J.aload_n (pc := 10) C (x := a0) dX7_numberIn_10 rfl rfl ?_
      refine J.iload_n (pc := 11) C dX7_numberIn_11 rfl rfl ?_
      refine J.iald (pc := 12) C dX7_numberIn_12 ?_
      refine J.goto (pc := 13) C (tgt := 17) dX7_numberIn_13 rfl ?_
      exact J.iret (pc := 17) C rfl rfl ⟨Nat.le_refl _, Nat.le_refl _⟩ dX7_numberIn_17
abbrev rm_X3_setting : Room := { frames := 1, cells := 0, slots := 0, locals := 21 }
def f_X3_setting (S : St) (a0 : Nat) (a1 : Int32) : Option Int32 :=
  (chk (okc S 3 a0)
  (bnd (f_X7_numberIn S (S.2.1 a0 0) a1) fun r1 =>
  (some r1)))
set_option maxRecDepth 100000 in
set_option maxHeartbeats 4000000 in
theorem c_X3_setting (l : Launch) (g : GG) (S : St) (a0 : Nat) (a1 : Int32) : Ct l yX3_setting cX3_setting 2 (some .int) rm_X3_setting g aI (pK S) [rv g a0, .int a1] S (f_X3_setting S a0 a1) := by
  refine Ct.mk (cf := cw (0, 0)) (by decide +kernel) (cat_r (cat_i cat_n)) (Nat.le_of_ble_eq_true rfl) rfl ?_
  intro X hXl hin C
  show J X g _ _ 0 [(0, rv g a0), (1, .int a1)] [] S (f_X3_setting S a0 a1)
  unfold f_X3_setting
  refine J.aload_n (pc := 0) C (x := a0) dX3_setting_0 rfl rfl ?_
  refine J.getR (pc := 1) C fl_RX3_9 rfl dX3_setting_1 ?_
  refine J.iload_n (pc := 4) C dX3_setting_4 rfl rfl ?_
  refine J.snI (pc := 5) C ms_X7_numberIn wn_RX3_36 (fun l => c_X7_numberIn l g S (S.2.1 a0 0) a1) ⟨⟨Nat.zero_le _, Nat.zero_le _⟩, rfl, rfl⟩ rfl ⟨Nat.le_of_ble_eq_true rfl, Nat.le_of_ble_eq_true rfl⟩ rfl cat_n (Nat.le_of_ble_eq_true rfl) dX3_setting_5 (fun r1 => ?_)
  exact J.iret (pc := 8) C rfl rfl ⟨Nat.le_refl _, Nat.le_refl _⟩ dX3_setting_8
abbrev rm_X3_thingAt : Room := { frames := 0, cells := 0, slots := 0, locals := 0 }
def f_X3_thingAt (S : St) (a0 : Nat) (a1 : Int32) : Option Nat :=
  (if a1 < 0 then
  (some 0)
  else (chk (okc S 3 a0)
  (if (S.1 a0 2) ≤ a1 then
  (some 0)
  else (chk (okc S 3 a0)
  (chk (okc S 14 (S.2.1 a0 1))
  (if (Int32.ofNat (ln (S.2.1 a0 1))) ≤ a1 then
  (some 0)
  else (chk (okc S 3 a0)
  (chk (ina S 14 (S.2.1 a0 1) a1)
  (some (S.2.1 (S.2.1 a0 1) a1.toNatClampNeg))))))))))
set_option maxRecDepth 100000 in
set_option maxHeartbeats 4000000 in
theorem c_X3_thingAt (l : Launch) (g : GG) (S : St) (a0 : Nat) (a1 : Int32) : Ct l yX3_thingAt cX3_thingAt 2 (some (.object "RowVotes$Thing")) rm_X3_thingAt g (aR g) (pK S) [rv g a0, .int a1] S (f_X3_thingAt S a0 a1) := by
  refine Ct.mk (cf := cw (0, 0)) (by decide +kernel) (cat_r (cat_i cat_n)) (Nat.le_of_ble_eq_true rfl) rfl ?_
  intro X hXl hin C
  show J X g _ _ 0 [(0, rv g a0), (1, .int a1)] [] S (f_X3_thingAt S a0 a1)
  unfold f_X3_thingAt
  refine J.iload_n (pc := 0) C dX3_thingAt_0 rfl rfl ?_
  refine J.if_lt (pc := 1) C (tgt := 30) dX3_thingAt_1 rfl ?_ ?_
  · refine J.anull (pc := 30) C dX3_thingAt_30 ?_
    exact J.aret (pc := 31) C rfl rfl ⟨Nat.le_refl _, Nat.le_refl _⟩ dX3_thingAt_31
  · refine J.iload_n (pc := 4) C dX3_thingAt_4 rfl rfl ?_
    refine J.aload_n (pc := 5) C (x := a0) dX3_thingAt_5 rfl rfl ?_
    refine J.getI (pc := 6) C fl_RX3_56 rfl dX3_thingAt_6 ?_
    refine J.icmp_ge (pc := 9) C (tgt := 30) dX3_thingAt_9 rfl ?_ ?_
    · refine J.anull (pc := 30) C dX3_thingAt_30 ?_
      exact J.aret (pc := 31) C rfl rfl ⟨Nat.le_refl _, Nat.le_refl _⟩ dX3_thingAt_31
    · refine J.iload_n (pc := 12) C dX3_thingAt_12 rfl rfl ?_
      refine J.aload_n (pc := 13) C (x := a0) dX3_thingAt_13 rfl rfl ?_
      refine J.getR (pc := 14) C fl_RX3_17 rfl dX3_thingAt_14 ?_
      refine J.alen (pc := 17) C 14 (by decide) dX3_thingAt_17 ?_
      refine J.icmp_ge (pc := 18) C (tgt := 30) dX3_thingAt_18 rfl ?_ ?_
      · refine J.anull (pc := 30) C dX3_thingAt_30 ?_
        exact J.aret (pc := 31) C rfl rfl ⟨Nat.le_refl _, Nat.le_refl _⟩ dX3_thingAt_31
      · refine J.aload_n (pc := 21) C (x := a0) dX3_thingAt_21 rfl rfl ?_
        refine J.getR (pc := 22) C fl_RX3_17 rfl dX3_thingAt_22 ?_
        refine J.iload_n (pc := 25) C dX3_thingAt_25 rfl rfl ?_
        refine J.aald (pc := 26) C 14 (by decide) (fun _ => rfl) rfl dX3_thingAt_26 ?_
        refine J.goto (pc := 27) C (tgt := 31) dX3_thingAt_27 rfl ?_
        exact J.aret (pc := 31) C rfl rfl ⟨Nat.le_refl _, Nat.le_refl _⟩ dX3_thingAt_31
abbrev rm_X5_isIn : Room := { frames := 0, cells := 0, slots := 0, locals := 0 }
def f_X5_isIn (S : St) (a0 : Nat) (a1 : Int32) : Option Int32 :=
  (chk (okc S 5 a0)
  (if a1 < (S.1 a0 0) then
  (some 0)
  else (chk (okc S 5 a0)
  (if (S.1 a0 1) < a1 then
  (some 0)
  else (some 1)))))
set_option maxRecDepth 100000 in
set_option maxHeartbeats 4000000 in
theorem c_X5_isIn (l : Launch) (g : GG) (S : St) (a0 : Nat) (a1 : Int32) : Ct l yX5_isIn cX5_isIn 2 (some .boolean) rm_X5_isIn g aI (pK S) [rv g a0, .int a1] S (f_X5_isIn S a0 a1) := by
  refine Ct.mk (cf := cw (0, 0)) (by decide +kernel) (cat_r (cat_i cat_n)) (Nat.le_of_ble_eq_true rfl) rfl ?_
  intro X hXl hin C
  show J X g _ _ 0 [(0, rv g a0), (1, .int a1)] [] S (f_X5_isIn S a0 a1)
  unfold f_X5_isIn
  refine J.iload_n (pc := 0) C dX5_isIn_0 rfl rfl ?_
  refine J.aload_n (pc := 1) C (x := a0) dX5_isIn_1 rfl rfl ?_
  refine J.getI (pc := 2) C fl_RX5_7 rfl dX5_isIn_2 ?_
  refine J.icmp_lt (pc := 5) C (tgt := 20) dX5_isIn_5 rfl ?_ ?_
  · refine J.iconst (pc := 20) C dX5_isIn_20 ki_0 ?_
    exact J.zret (pc := 21) C rfl rfl rfl ⟨Nat.le_refl _, Nat.le_refl _⟩ dX5_isIn_21
  · refine J.iload_n (pc := 8) C dX5_isIn_8 rfl rfl ?_
    refine J.aload_n (pc := 9) C (x := a0) dX5_isIn_9 rfl rfl ?_
    refine J.getI (pc := 10) C fl_RX5_13 rfl dX5_isIn_10 ?_
    refine J.icmp_gt (pc := 13) C (tgt := 20) dX5_isIn_13 rfl ?_ ?_
    · refine J.iconst (pc := 20) C dX5_isIn_20 ki_0 ?_
      exact J.zret (pc := 21) C rfl rfl rfl ⟨Nat.le_refl _, Nat.le_refl _⟩ dX5_isIn_21
    · refine J.iconst (pc := 16) C dX5_isIn_16 ki_1 ?_
      refine J.goto (pc := 17) C (tgt := 21) dX5_isIn_17 rfl ?_
      exact J.zret (pc := 21) C rfl rfl rfl ⟨Nat.le_refl _, Nat.le_refl _⟩ dX5_isIn_21
abbrev rm_X5_positionAt : Room := { frames := 0, cells := 0, slots := 0, locals := 0 }
def f_X5_positionAt (S : St) (a0 : Nat) (a1 : Int32) : Option Int32 :=
  (chk (okc S 5 a0)
  (chk (okc S 5 a0)
  (some ((S.1 a0 2) + ((S.1 a0 3) * a1)))))
set_option maxRecDepth 100000 in
set_option maxHeartbeats 4000000 in
theorem c_X5_positionAt (l : Launch) (g : GG) (S : St) (a0 : Nat) (a1 : Int32) : Ct l yX5_positionAt cX5_positionAt 2 (some .int) rm_X5_positionAt g aI (pK S) [rv g a0, .int a1] S (f_X5_positionAt S a0 a1) := by
  refine Ct.mk (cf := cw (0, 0)) (by decide +kernel) (cat_r (cat_i cat_n)) (Nat.le_of_ble_eq_true rfl) rfl ?_
  intro X hXl hin C
  show J X g _ _ 0 [(0, rv g a0), (1, .int a1)] [] S (f_X5_positionAt S a0 a1)
  unfold f_X5_positionAt
  refine J.aload_n (pc := 0) C (x := a0) dX5_positionAt_0 rfl rfl ?_
  refine J.getI (pc := 1) C fl_RX5_16 rfl dX5_positionAt_1 ?_
  refine J.aload_n (pc := 4) C (x := a0) dX5_positionAt_4 rfl rfl ?_
  refine J.getI (pc := 5) C fl_RX5_19 rfl dX5_positionAt_5 ?_
  refine J.iload_n (pc := 8) C dX5_positionAt_8 rfl rfl ?_
  refine J.imul (pc := 9) C dX5_positionAt_9 ?_
  refine J.iadd (pc := 10) C dX5_positionAt_10 ?_
  exact J.iret (pc := 11) C rfl rfl ⟨Nat.le_refl _, Nat.le_refl _⟩ dX5_positionAt_11
abbrev rm_X7_columnsCovered : Room := { frames := 1, cells := 0, slots := 0, locals := 22 }
def f_X7_columnsCovered (a0 : Int32) (a1 : Int32) : Option Int32 :=
  (bnd (f_J9_floorDiv_7cf53 (a0 + 49) 100) fun r1 =>
  (bnd (f_J9_min_7cf53 16 r1) fun r2 =>
  (bnd (f_J9_max_7cf53 0 r2) fun r3 =>
  (bnd (f_J9_floorDiv_7cf53 ((a0 + a1) + 49) 100) fun r4 =>
  (bnd (f_J9_min_7cf53 16 r4) fun r5 =>
  (bnd (f_J9_max_7cf53 0 r5) fun r6 =>
  (some ((1 <<< (r6 &&& 31)) - (1 <<< (r3 &&& 31))))))))))
set_option maxRecDepth 100000 in
set_option maxHeartbeats 4000000 in
theorem c_X7_columnsCovered (l : Launch) (g : GG) (S : St) (a0 : Int32) (a1 : Int32) : Ct l yX7_columnsCovered cX7_columnsCovered 4 (some .int) rm_X7_columnsCovered g aI (pK S) [.int a0, .int a1] S (f_X7_columnsCovered a0 a1) := by
  refine Ct.mk (cf := cw (0, 0)) (by decide +kernel) (cat_i (cat_i cat_n)) (Nat.le_of_ble_eq_true rfl) rfl ?_
  intro X hXl hin C
  show J X g _ _ 0 [(0, .int a0), (1, .int a1)] [] S (f_X7_columnsCovered a0 a1)
  unfold f_X7_columnsCovered
  refine J.iconst (pc := 0) C dX7_columnsCovered_0 ki_0 ?_
  refine J.bipush (pc := 1) C dX7_columnsCovered_1 kb_16 ?_
  refine J.iload_n (pc := 3) C dX7_columnsCovered_3 rfl rfl ?_
  refine J.bipush (pc := 4) C dX7_columnsCovered_4 kb_49 ?_
  refine J.iadd (pc := 6) C dX7_columnsCovered_6 ?_
  refine J.bipush (pc := 7) C dX7_columnsCovered_7 kb_100 ?_
  refine J.sI (pc := 9) C ms_J9_floorDiv_7cf53 wm_RX7_302 (fun l => c_J9_floorDiv_7cf53 l g S (a0 + 49) 100) ⟨⟨Nat.zero_le _, Nat.zero_le _⟩, rfl, rfl⟩ rfl ⟨Nat.le_of_ble_eq_true rfl, Nat.le_of_ble_eq_true rfl⟩ rfl (cat_i (cat_i cat_n)) (Nat.le_of_ble_eq_true rfl) dX7_columnsCovered_9 (fun r1 => ?_)
  refine J.sI (pc := 12) C ms_J9_min_7cf53 wm_RX7_307 (fun l => c_J9_min_7cf53 l g S 16 r1) ⟨⟨Nat.zero_le _, Nat.zero_le _⟩, rfl, rfl⟩ rfl ⟨Nat.le_of_ble_eq_true rfl, Nat.le_of_ble_eq_true rfl⟩ rfl (cat_i cat_n) (Nat.le_of_ble_eq_true rfl) dX7_columnsCovered_12 (fun r2 => ?_)
  refine J.sI (pc := 15) C ms_J9_max_7cf53 wm_RX7_310 (fun l => c_J9_max_7cf53 l g S 0 r2) ⟨⟨Nat.zero_le _, Nat.zero_le _⟩, rfl, rfl⟩ rfl ⟨Nat.le_of_ble_eq_true rfl, Nat.le_of_ble_eq_true rfl⟩ rfl cat_n (Nat.le_of_ble_eq_true rfl) dX7_columnsCovered_15 (fun r3 => ?_)
  refine J.istore_n (pc := 18) C (lv' := [(0, .int a0), (1, .int a1), (2, .int r3)]) dX7_columnsCovered_18 rfl (Nat.le_of_ble_eq_true rfl) rfl ?_
  refine J.iconst (pc := 19) C dX7_columnsCovered_19 ki_0 ?_
  refine J.bipush (pc := 20) C dX7_columnsCovered_20 kb_16 ?_
  refine J.iload_n (pc := 22) C dX7_columnsCovered_22 rfl rfl ?_
  refine J.iload_n (pc := 23) C dX7_columnsCovered_23 rfl rfl ?_
  refine J.iadd (pc := 24) C dX7_columnsCovered_24 ?_
  refine J.bipush (pc := 25) C dX7_columnsCovered_25 kb_49 ?_
  refine J.iadd (pc := 27) C dX7_columnsCovered_27 ?_
  refine J.bipush (pc := 28) C dX7_columnsCovered_28 kb_100 ?_
  refine J.sI (pc := 30) C ms_J9_floorDiv_7cf53 wm_RX7_302 (fun l => c_J9_floorDiv_7cf53 l g S ((a0 + a1) + 49) 100) ⟨⟨Nat.zero_le _, Nat.zero_le _⟩, rfl, rfl⟩ rfl ⟨Nat.le_of_ble_eq_true rfl, Nat.le_of_ble_eq_true rfl⟩ rfl (cat_i (cat_i cat_n)) (Nat.le_of_ble_eq_true rfl) dX7_columnsCovered_30 (fun r4 => ?_)
  refine J.sI (pc := 33) C ms_J9_min_7cf53 wm_RX7_307 (fun l => c_J9_min_7cf53 l g S 16 r4) ⟨⟨Nat.zero_le _, Nat.zero_le _⟩, rfl, rfl⟩ rfl ⟨Nat.le_of_ble_eq_true rfl, Nat.le_of_ble_eq_true rfl⟩ rfl (cat_i cat_n) (Nat.le_of_ble_eq_true rfl) dX7_columnsCovered_33 (fun r5 => ?_)
  refine J.sI (pc := 36) C ms_J9_max_7cf53 wm_RX7_310 (fun l => c_J9_max_7cf53 l g S 0 r5) ⟨⟨Nat.zero_le _, Nat.zero_le _⟩, rfl, rfl⟩ rfl ⟨Nat.le_of_ble_eq_true rfl, Nat.le_of_ble_eq_true rfl⟩ rfl cat_n (Nat.le_of_ble_eq_true rfl) dX7_columnsCovered_36 (fun r6 => ?_)
  refine J.istore_n (pc := 39) C (lv' := [(0, .int a0), (1, .int a1), (2, .int r3), (3, .int r6)]) dX7_columnsCovered_39 rfl (Nat.le_of_ble_eq_true rfl) rfl ?_
  refine J.iconst (pc := 40) C dX7_columnsCovered_40 ki_1 ?_
  refine J.iload_n (pc := 41) C dX7_columnsCovered_41 rfl rfl ?_
  refine J.ishl (pc := 42) C dX7_columnsCovered_42 ?_
  refine J.iconst (pc := 43) C dX7_columnsCovered_43 ki_1 ?_
  refine J.iload_n (pc := 44) C dX7_columnsCovered_44 rfl rfl ?_
  refine J.ishl (pc := 45) C dX7_columnsCovered_45 ?_
  refine J.isub (pc := 46) C dX7_columnsCovered_46 ?_
  exact J.iret (pc := 47) C rfl rfl ⟨Nat.le_refl _, Nat.le_refl _⟩ dX7_columnsCovered_47
abbrev rm_X3_paint : Room := { frames := 2, cells := 0, slots := 0, locals := 45 }
def f_X3_paint_B10 (a0 : Nat) (a1 : Int32) (a2 : Int32) (a3 : Int32) (a4 : Int32) (a5 : Nat) (a6 : Int32) (kx10 : St → Option St) (k10 : St → Int32 → Option St) (S : St) (x7 : Int32) : Option St :=
  (chk (okc S 10 a5)
  (if (Int32.ofNat (ln a5)) ≤ x7 then
  (kx10 S)
  else (chk (inw S 10 a5 x7) (vlt (upI S a5 x7.toNatClampNeg a6) fun S_2 =>
  (k10 S_2 (x7 + 1))))))
set_option maxRecDepth 100000 in
set_option maxHeartbeats 4000000 in
theorem w_X3_paint_B10 {X : CT} {g : GG} (C : CX X g cX3_paint RX3 none 10 rm_X3_paint) (a0 : Nat) (a1 : Int32) (a2 : Int32) (a3 : Int32) (a4 : Int32) (a5 : Nat) (a6 : Int32) (kx10 : St → Option St) (hkx10 : ∀ (S : St), J X g (Qm X g aU pU) (cw (0, 0)) 31 [(0, rv g a0), (1, .int a1), (2, .int a2), (3, .int a3), (4, .int a4), (5, rv g a5)] [] S (kx10 S)) : ∀ (n : Nat) (S : St) (x7 : Int32), J X g (Qm X g aU pU) (cw (0, 0)) 10 [(0, rv g a0), (1, .int a1), (2, .int a2), (3, .int a3), (4, .int a4), (5, rv g a5), (6, .int a6), (7, .int x7)] [] S (wl2 (f_X3_paint_B10 a0 a1 a2 a3 a4 a5 a6 kx10) n S x7) := by
  refine J.loop2 (lvf := fun (S : St) (x7 : Int32) => [(0, rv g a0), (1, .int a1), (2, .int a2), (3, .int a3), (4, .int a4), (5, rv g a5), (6, .int a6), (7, .int x7)]) (Sf := fun (S : St) (x7 : Int32) => S) ?_
  intro k10 hk10 S x7
  show J X g _ _ 10 [(0, rv g a0), (1, .int a1), (2, .int a2), (3, .int a3), (4, .int a4), (5, rv g a5), (6, .int a6), (7, .int x7)] [] S (f_X3_paint_B10 a0 a1 a2 a3 a4 a5 a6 kx10 k10 S x7)
  unfold f_X3_paint_B10
  refine J.iload (pc := 10) C dX3_paint_10 rfl ?_
  refine J.aload (pc := 12) C (x := a5) dX3_paint_12 rfl ?_
  refine J.alen (pc := 14) C 10 (by decide) dX3_paint_14 ?_
  refine J.icmp_ge (pc := 15) C (tgt := 31) dX3_paint_15 rfl ?_ ?_
  · exact J.pick [0, 1, 2, 3, 4, 5] rfl (hkx10 _)
  · refine J.aload (pc := 18) C (x := a5) dX3_paint_18 rfl ?_
    refine J.iload (pc := 20) C dX3_paint_20 rfl ?_
    refine J.iload (pc := 22) C dX3_paint_22 rfl ?_
    refine J.iasts (pc := 24) C dX3_paint_24 (fun S_2 => ?_)
    refine J.iinc (pc := 25) C (lv' := [(0, rv g a0), (1, .int a1), (2, .int a2), (3, .int a3), (4, .int a4), (5, rv g a5), (6, .int a6), (7, .int (x7 + 1))]) dX3_paint_25 rfl (Nat.le_of_ble_eq_true rfl) ki_1 rfl ?_
    refine J.goto (pc := 28) C (tgt := 10) dX3_paint_28 rfl ?_
    exact (hk10 _ _)
def f_X3_paint_J90 (S : St) (a0 : Nat) (a1 : Int32) (a2 : Int32) (a3 : Int32) (a4 : Int32) (a5 : Nat) (kx34 : St → Option St) (k34 : St → Int32 → Option St) (x7 : Int32) (x8 : Nat) (t0 : Int32) : Option St :=
  (chk (okc S 5 x8)
  (chk (okc S 3 a0) (bnd (f_X3_paintOver S a0 a5 t0 (S.1 x8 5)) fun S_8 =>
  (k34 S_8 (x7 + 1)))))
set_option maxRecDepth 100000 in
set_option maxHeartbeats 4000000 in
theorem w_X3_paint_J90 {X : CT} {g : GG} (C : CX X g cX3_paint RX3 none 10 rm_X3_paint) (S : St) (a0 : Nat) (a1 : Int32) (a2 : Int32) (a3 : Int32) (a4 : Int32) (a5 : Nat) (kx34 : St → Option St) (k34 : St → Int32 → Option St) (x7 : Int32) (x8 : Nat) (t0 : Int32) (hkx34 : ∀ (S : St), J X g (Qm X g aU pU) (cw (0, 0)) 111 [] [] S (kx34 S)) (hk34 : ∀ (S : St) (x7 : Int32), J X g (Qm X g aU pU) (cw (0, 0)) 34 [(0, rv g a0), (1, .int a1), (2, .int a2), (3, .int a3), (4, .int a4), (5, rv g a5), (7, .int x7)] [] S (k34 S x7)) : J X g (Qm X g aU pU) (cw (0, 0)) 90 [(0, rv g a0), (1, .int a1), (2, .int a2), (3, .int a3), (4, .int a4), (5, rv g a5), (7, .int x7), (8, rv g x8)] [.int t0] S (f_X3_paint_J90 S a0 a1 a2 a3 a4 a5 kx34 k34 x7 x8 t0) := by
  unfold f_X3_paint_J90
  refine J.istore (pc := 90) C (lv' := [(0, rv g a0), (1, .int a1), (2, .int a2), (3, .int a3), (4, .int a4), (5, rv g a5), (7, .int x7), (8, rv g x8), (9, .int t0)]) dX3_paint_90 (Nat.le_of_ble_eq_true rfl) rfl ?_
  refine J.aload_n (pc := 92) C (x := a0) dX3_paint_92 rfl rfl ?_
  refine J.aload (pc := 93) C (x := a5) dX3_paint_93 rfl ?_
  refine J.iload (pc := 95) C dX3_paint_95 rfl ?_
  refine J.aload (pc := 97) C (x := x8) dX3_paint_97 rfl ?_
  refine J.getI (pc := 99) C fl_RX3_95 rfl dX3_paint_99 ?_
  refine J.vU (pc := 102) C mv_X3_paintOver wm_RX3_146 (fun l => c_X3_paintOver l g S a0 a5 t0 (S.1 x8 5)) ⟨⟨Nat.zero_le _, Nat.zero_le _⟩, rfl, rfl⟩ rfl ⟨Nat.le_of_ble_eq_true rfl, Nat.le_of_ble_eq_true rfl⟩ rfl cat_n (Nat.le_of_ble_eq_true rfl) dX3_paint_102 (fun S_8 => ?_)
  refine J.iinc (pc := 105) C (lv' := [(0, rv g a0), (1, .int a1), (2, .int a2), (3, .int a3), (4, .int a4), (5, rv g a5), (7, .int (x7 + 1)), (8, rv g x8), (9, .int t0)]) dX3_paint_105 rfl (Nat.le_of_ble_eq_true rfl) ki_1 rfl ?_
  refine J.goto (pc := 108) C (tgt := 34) dX3_paint_108 rfl ?_
  exact J.pick [0, 1, 2, 3, 4, 5, 6] rfl (hk34 _ _)
def f_X3_paint_B34 (a0 : Nat) (a1 : Int32) (a2 : Int32) (a3 : Int32) (a4 : Int32) (a5 : Nat) (kx34 : St → Option St) (k34 : St → Int32 → Option St) (S : St) (x7 : Int32) : Option St :=
  (chk (okc S 3 a0)
  (if (S.1 a0 2) ≤ x7 then
  (kx34 S)
  else (chk (okc S 3 a0) (bnd (f_X3_thingAt S a0 x7) fun r4 =>
  (if r4 = 0 then
  (k34 S (x7 + 1))
  else (chk (okc S 5 r4) (bnd (f_X5_isIn S r4 a1) fun r5 =>
  (if r5 = 0 then
  (k34 S (x7 + 1))
  else (if x7 = a3 then
  (f_X3_paint_J90 S a0 a1 a2 a3 a4 a5 kx34 k34 x7 r4 a4)
  else (chk (okc S 5 r4) (bnd (f_X5_positionAt S r4 a2) fun r6 =>
  (chk (okc S 5 r4)
  (bnd (f_X7_columnsCovered r6 (S.1 r4 4)) fun r7 =>
  (f_X3_paint_J90 S a0 a1 a2 a3 a4 a5 kx34 k34 x7 r4 r7))))))))))))))
set_option maxRecDepth 100000 in
set_option maxHeartbeats 4000000 in
theorem w_X3_paint_B34 {X : CT} {g : GG} (C : CX X g cX3_paint RX3 none 10 rm_X3_paint) (a0 : Nat) (a1 : Int32) (a2 : Int32) (a3 : Int32) (a4 : Int32) (a5 : Nat) (kx34 : St → Option St) (hkx34 : ∀ (S : St), J X g (Qm X g aU pU) (cw (0, 0)) 111 [] [] S (kx34 S)) : ∀ (n : Nat) (S : St) (x7 : Int32), J X g (Qm X g aU pU) (cw (0, 0)) 34 [(0, rv g a0), (1, .int a1), (2, .int a2), (3, .int a3), (4, .int a4), (5, rv g a5), (7, .int x7)] [] S (wl2 (f_X3_paint_B34 a0 a1 a2 a3 a4 a5 kx34) n S x7) := by
  refine J.loop2 (lvf := fun (S : St) (x7 : Int32) => [(0, rv g a0), (1, .int a1), (2, .int a2), (3, .int a3), (4, .int a4), (5, rv g a5), (7, .int x7)]) (Sf := fun (S : St) (x7 : Int32) => S) ?_
  intro k34 hk34 S x7
  show J X g _ _ 34 [(0, rv g a0), (1, .int a1), (2, .int a2), (3, .int a3), (4, .int a4), (5, rv g a5), (7, .int x7)] [] S (f_X3_paint_B34 a0 a1 a2 a3 a4 a5 kx34 k34 S x7)
  unfold f_X3_paint_B34
  refine J.iload (pc := 34) C dX3_paint_34 rfl ?_
  refine J.aload_n (pc := 36) C (x := a0) dX3_paint_36 rfl rfl ?_
  refine J.getI (pc := 37) C fl_RX3_56 rfl dX3_paint_37 ?_
  refine J.icmp_ge (pc := 40) C (tgt := 111) dX3_paint_40 rfl ?_ ?_
  · exact J.pick [] rfl (hkx34 _)
  · refine J.aload_n (pc := 43) C (x := a0) dX3_paint_43 rfl rfl ?_
    refine J.iload (pc := 44) C dX3_paint_44 rfl ?_
    refine J.vR (pc := 46) C mv_X3_thingAt wm_RX3_59 (fun l => c_X3_thingAt l g S a0 x7) ⟨⟨Nat.zero_le _, Nat.zero_le _⟩, rfl, rfl⟩ rfl ⟨Nat.le_of_ble_eq_true rfl, Nat.le_of_ble_eq_true rfl⟩ rfl cat_n (Nat.le_of_ble_eq_true rfl) dX3_paint_46 (fun r4 => ?_)
    refine J.astore (pc := 49) C (lv' := [(0, rv g a0), (1, .int a1), (2, .int a2), (3, .int a3), (4, .int a4), (5, rv g a5), (7, .int x7), (8, rv g r4)]) dX3_paint_49 (Nat.le_of_ble_eq_true rfl) rfl ?_
    refine J.aload (pc := 51) C (x := r4) dX3_paint_51 rfl ?_
    refine J.ifnull (pc := 53) C (tgt := 105) dX3_paint_53 rfl ?_ ?_
    · refine J.iinc (pc := 105) C (lv' := [(0, rv g a0), (1, .int a1), (2, .int a2), (3, .int a3), (4, .int a4), (5, rv g a5), (7, .int (x7 + 1)), (8, rv g r4)]) dX3_paint_105 rfl (Nat.le_of_ble_eq_true rfl) ki_1 rfl ?_
      refine J.goto (pc := 108) C (tgt := 34) dX3_paint_108 rfl ?_
      exact J.pick [0, 1, 2, 3, 4, 5, 6] rfl (hk34 _ _)
    · refine J.aload (pc := 56) C (x := r4) dX3_paint_56 rfl ?_
      refine J.iload_n (pc := 58) C dX3_paint_58 rfl rfl ?_
      refine J.vI (pc := 59) C mv_X5_isIn wm_RX3_135 (fun l => c_X5_isIn l g S r4 a1) ⟨⟨Nat.zero_le _, Nat.zero_le _⟩, rfl, rfl⟩ rfl ⟨Nat.le_of_ble_eq_true rfl, Nat.le_of_ble_eq_true rfl⟩ rfl cat_n (Nat.le_of_ble_eq_true rfl) dX3_paint_59 (fun r5 => ?_)
      refine J.if_eq (pc := 62) C (tgt := 105) dX3_paint_62 rfl ?_ ?_
      · refine J.iinc (pc := 105) C (lv' := [(0, rv g a0), (1, .int a1), (2, .int a2), (3, .int a3), (4, .int a4), (5, rv g a5), (7, .int (x7 + 1)), (8, rv g r4)]) dX3_paint_105 rfl (Nat.le_of_ble_eq_true rfl) ki_1 rfl ?_
        refine J.goto (pc := 108) C (tgt := 34) dX3_paint_108 rfl ?_
        exact J.pick [0, 1, 2, 3, 4, 5, 6] rfl (hk34 _ _)
      · refine J.iload (pc := 65) C dX3_paint_65 rfl ?_
        refine J.iload_n (pc := 67) C dX3_paint_67 rfl rfl ?_
        refine J.icmp_ne (pc := 68) C (tgt := 76) dX3_paint_68 rfl ?_ ?_
        · refine J.aload (pc := 76) C (x := r4) dX3_paint_76 rfl ?_
          refine J.iload_n (pc := 78) C dX3_paint_78 rfl rfl ?_
          refine J.vI (pc := 79) C mv_X5_positionAt wm_RX3_139 (fun l => c_X5_positionAt l g S r4 a2) ⟨⟨Nat.zero_le _, Nat.zero_le _⟩, rfl, rfl⟩ rfl ⟨Nat.le_of_ble_eq_true rfl, Nat.le_of_ble_eq_true rfl⟩ rfl cat_n (Nat.le_of_ble_eq_true rfl) dX3_paint_79 (fun r6 => ?_)
          refine J.aload (pc := 82) C (x := r4) dX3_paint_82 rfl ?_
          refine J.getI (pc := 84) C fl_RX3_92 rfl dX3_paint_84 ?_
          refine J.snI (pc := 87) C ms_X7_columnsCovered wn_RX3_142 (fun l => c_X7_columnsCovered l g S r6 (S.1 r4 4)) ⟨⟨Nat.zero_le _, Nat.zero_le _⟩, rfl, rfl⟩ rfl ⟨Nat.le_of_ble_eq_true rfl, Nat.le_of_ble_eq_true rfl⟩ rfl cat_n (Nat.le_of_ble_eq_true rfl) dX3_paint_87 (fun r7 => ?_)
          exact (w_X3_paint_J90 C _ _ _ _ _ _ _ _ _ _ _ _ hkx34 hk34)
        · refine J.iload (pc := 71) C dX3_paint_71 rfl ?_
          refine J.goto (pc := 73) C (tgt := 90) dX3_paint_73 rfl ?_
          exact (w_X3_paint_J90 C _ _ _ _ _ _ _ _ _ _ _ _ hkx34 hk34)
def f_X3_paint (S : St) (a0 : Nat) (a1 : Int32) (a2 : Int32) (a3 : Int32) (a4 : Int32) (a5 : Nat) : Option St :=
  (chk (okc S 3 a0) (bnd (f_X3_setting S a0 4) fun r1 =>
  (wl2 (f_X3_paint_B10 a0 a1 a2 a3 a4 a5 r1 (fun (S_3 : St) => (wl2 (f_X3_paint_B34 a0 a1 a2 a3 a4 a5 (fun (S_9 : St) => (some S_9))) FU S_3 0))) FU S 0)))
set_option maxRecDepth 100000 in
set_option maxHeartbeats 4000000 in
theorem c_X3_paint (l : Launch) (g : GG) (S : St) (a0 : Nat) (a1 : Int32) (a2 : Int32) (a3 : Int32) (a4 : Int32) (a5 : Nat) : Ct l yX3_paint cX3_paint 10 none rm_X3_paint g aU pU [rv g a0, .int a1, .int a2, .int a3, .int a4, rv g a5] S (f_X3_paint S a0 a1 a2 a3 a4 a5) := by
  refine Ct.mk (cf := cw (0, 0)) (by decide +kernel) (cat_r (cat_i (cat_i (cat_i (cat_i (cat_r cat_n)))))) (Nat.le_of_ble_eq_true rfl) rfl ?_
  intro X hXl hin C
  show J X g _ _ 0 [(0, rv g a0), (1, .int a1), (2, .int a2), (3, .int a3), (4, .int a4), (5, rv g a5)] [] S (f_X3_paint S a0 a1 a2 a3 a4 a5)
  unfold f_X3_paint
  refine J.aload_n (pc := 0) C (x := a0) dX3_paint_0 rfl rfl ?_
  refine J.iconst (pc := 1) C dX3_paint_1 ki_4 ?_
  refine J.vI (pc := 2) C mv_X3_setting wm_RX3_106 (fun l => c_X3_setting l g S a0 4) ⟨⟨Nat.zero_le _, Nat.zero_le _⟩, rfl, rfl⟩ rfl ⟨Nat.le_of_ble_eq_true rfl, Nat.le_of_ble_eq_true rfl⟩ rfl cat_n (Nat.le_of_ble_eq_true rfl) dX3_paint_2 (fun r1 => ?_)
  refine J.istore (pc := 5) C (lv' := [(0, rv g a0), (1, .int a1), (2, .int a2), (3, .int a3), (4, .int a4), (5, rv g a5), (6, .int r1)]) dX3_paint_5 (Nat.le_of_ble_eq_true rfl) rfl ?_
  refine J.iconst (pc := 7) C dX3_paint_7 ki_0 ?_
  refine J.istore (pc := 8) C (lv' := [(0, rv g a0), (1, .int a1), (2, .int a2), (3, .int a3), (4, .int a4), (5, rv g a5), (6, .int r1), (7, .int 0)]) dX3_paint_8 (Nat.le_of_ble_eq_true rfl) rfl ?_
  refine w_X3_paint_B10 C _ _ _ _ _ _ _ _ (fun S_3 => ?_) FU _ _
  refine J.iconst (pc := 31) C dX3_paint_31 ki_0 ?_
  refine J.istore (pc := 32) C (lv' := [(0, rv g a0), (1, .int a1), (2, .int a2), (3, .int a3), (4, .int a4), (5, rv g a5), (7, .int 0)]) dX3_paint_32 (Nat.le_of_ble_eq_true rfl) rfl ?_
  refine w_X3_paint_B34 C _ _ _ _ _ _ _ (fun S_9 => ?_) FU _ _
  exact J.vret (pc := 111) C rfl rfl ⟨Nat.le_refl _, Nat.le_refl _⟩ dX3_paint_111
abbrev rm_X7_isDark : Room := { frames := 0, cells := 0, slots := 0, locals := 0 }
def f_X7_isDark (a0 : Int32) (a1 : Int32) (a2 : Int32) : Option Int32 :=
  (if a1 = 0 then
  (some 0)
  else (chk (¬ a1 = 0)
  (if a2 ≤ (a0 - a0 / a1 * a1) then
  (some 0)
  else (some 1))))
set_option maxRecDepth 100000 in
set_option maxHeartbeats 4000000 in
theorem c_X7_isDark (l : Launch) (g : GG) (S : St) (a0 : Int32) (a1 : Int32) (a2 : Int32) : Ct l yX7_isDark cX7_isDark 3 (some .boolean) rm_X7_isDark g aI (pK S) [.int a0, .int a1, .int a2] S (f_X7_isDark a0 a1 a2) := by
  refine Ct.mk (cf := cw (0, 0)) (by decide +kernel) (cat_i (cat_i (cat_i cat_n))) (Nat.le_of_ble_eq_true rfl) rfl ?_
  intro X hXl hin C
  show J X g _ _ 0 [(0, .int a0), (1, .int a1), (2, .int a2)] [] S (f_X7_isDark a0 a1 a2)
  unfold f_X7_isDark
  refine J.iload_n (pc := 0) C dX7_isDark_0 rfl rfl ?_
  refine J.if_eq (pc := 1) C (tgt := 15) dX7_isDark_1 rfl ?_ ?_
  · refine J.iconst (pc := 15) C dX7_isDark_15 ki_0 ?_
    exact J.zret (pc := 16) C rfl rfl rfl ⟨Nat.le_refl _, Nat.le_refl _⟩ dX7_isDark_16
  · refine J.iload_n (pc := 4) C dX7_isDark_4 rfl rfl ?_
    refine J.iload_n (pc := 5) C dX7_isDark_5 rfl rfl ?_
    refine J.irem (pc := 6) C dX7_isDark_6 ?_
    refine J.iload_n (pc := 7) C dX7_isDark_7 rfl rfl ?_
    refine J.icmp_ge (pc := 8) C (tgt := 15) dX7_isDark_8 rfl ?_ ?_
    · refine J.iconst (pc := 15) C dX7_isDark_15 ki_0 ?_
      exact J.zret (pc := 16) C rfl rfl rfl ⟨Nat.le_refl _, Nat.le_refl _⟩ dX7_isDark_16
    · refine J.iconst (pc := 11) C dX7_isDark_11 ki_1 ?_
      refine J.goto (pc := 12) C (tgt := 16) dX7_isDark_12 rfl ?_
      exact J.zret (pc := 16) C rfl rfl rfl ⟨Nat.le_refl _, Nat.le_refl _⟩ dX7_isDark_16
abbrev rm_X3_percentAt : Room := { frames := 2, cells := 0, slots := 0, locals := 42 }
def f_X3_percentAt (S : St) (a0 : Nat) (a1 : Int32) : Option Int32 :=
  (chk (okc S 3 a0) (bnd (f_X3_setting S a0 5) fun r1 =>
  (chk (okc S 3 a0) (bnd (f_X3_setting S a0 6) fun r2 =>
  (bnd (f_X7_isDark a1 r1 r2) fun r3 =>
  (if r3 = 0 then
  (some 100)
  else (chk (okc S 3 a0) (bnd (f_X3_setting S a0 7) fun r4 =>
  (some r4)))))))))
set_option maxRecDepth 100000 in
set_option maxHeartbeats 4000000 in
theorem c_X3_percentAt (l : Launch) (g : GG) (S : St) (a0 : Nat) (a1 : Int32) : Ct l yX3_percentAt cX3_percentAt 2 (some .int) rm_X3_percentAt g aI (pK S) [rv g a0, .int a1] S (f_X3_percentAt S a0 a1) := by
  refine Ct.mk (cf := cw (0, 0)) (by decide +kernel) (cat_r (cat_i cat_n)) (Nat.le_of_ble_eq_true rfl) rfl ?_
  intro X hXl hin C
  show J X g _ _ 0 [(0, rv g a0), (1, .int a1)] [] S (f_X3_percentAt S a0 a1)
  unfold f_X3_percentAt
  refine J.iload_n (pc := 0) C dX3_percentAt_0 rfl rfl ?_
  refine J.aload_n (pc := 1) C (x := a0) dX3_percentAt_1 rfl rfl ?_
  refine J.iconst (pc := 2) C dX3_percentAt_2 ki_5 ?_
  refine J.vI (pc := 3) C mv_X3_setting wm_RX3_106 (fun l => c_X3_setting l g S a0 5) ⟨⟨Nat.zero_le _, Nat.zero_le _⟩, rfl, rfl⟩ rfl ⟨Nat.le_of_ble_eq_true rfl, Nat.le_of_ble_eq_true rfl⟩ rfl (cat_i cat_n) (Nat.le_of_ble_eq_true rfl) dX3_percentAt_3 (fun r1 => ?_)
  refine J.aload_n (pc := 6) C (x := a0) dX3_percentAt_6 rfl rfl ?_
  refine J.bipush (pc := 7) C dX3_percentAt_7 kb_6 ?_
  refine J.vI (pc := 9) C mv_X3_setting wm_RX3_106 (fun l => c_X3_setting l g S a0 6) ⟨⟨Nat.zero_le _, Nat.zero_le _⟩, rfl, rfl⟩ rfl ⟨Nat.le_of_ble_eq_true rfl, Nat.le_of_ble_eq_true rfl⟩ rfl (cat_i (cat_i cat_n)) (Nat.le_of_ble_eq_true rfl) dX3_percentAt_9 (fun r2 => ?_)
  refine J.snI (pc := 12) C ms_X7_isDark wn_RX3_131 (fun l => c_X7_isDark l g S a1 r1 r2) ⟨⟨Nat.zero_le _, Nat.zero_le _⟩, rfl, rfl⟩ rfl ⟨Nat.le_of_ble_eq_true rfl, Nat.le_of_ble_eq_true rfl⟩ rfl cat_n (Nat.le_of_ble_eq_true rfl) dX3_percentAt_12 (fun r3 => ?_)
  refine J.if_eq (pc := 15) C (tgt := 27) dX3_percentAt_15 rfl ?_ ?_
  · refine J.bipush (pc := 27) C dX3_percentAt_27 kb_100 ?_
    exact J.iret (pc := 29) C rfl rfl ⟨Nat.le_refl _, Nat.le_refl _⟩ dX3_percentAt_29
  · refine J.aload_n (pc := 18) C (x := a0) dX3_percentAt_18 rfl rfl ?_
    refine J.bipush (pc := 19) C dX3_percentAt_19 kb_7 ?_
    refine J.vI (pc := 21) C mv_X3_setting wm_RX3_106 (fun l => c_X3_setting l g S a0 7) ⟨⟨Nat.zero_le _, Nat.zero_le _⟩, rfl, rfl⟩ rfl ⟨Nat.le_of_ble_eq_true rfl, Nat.le_of_ble_eq_true rfl⟩ rfl cat_n (Nat.le_of_ble_eq_true rfl) dX3_percentAt_21 (fun r4 => ?_)
    refine J.goto (pc := 24) C (tgt := 29) dX3_percentAt_24 rfl ?_
    exact J.iret (pc := 29) C rfl rfl ⟨Nat.le_refl _, Nat.le_refl _⟩ dX3_percentAt_29
abbrev rm_X3_timeOfRow : Room := { frames := 2, cells := 0, slots := 0, locals := 42 }
def f_X3_timeOfRow (S : St) (a0 : Nat) (a1 : Nat) (a2 : Int32) : Option Int32 :=
  (chk (okc S 0 a1)
  (chk (okc S 3 a0) (bnd (f_X3_setting S a0 2) fun r1 =>
  (some ((S.1 a1 0) + (a2 * r1))))))
set_option maxRecDepth 100000 in
set_option maxHeartbeats 4000000 in
theorem c_X3_timeOfRow (l : Launch) (g : GG) (S : St) (a0 : Nat) (a1 : Nat) (a2 : Int32) : Ct l yX3_timeOfRow cX3_timeOfRow 3 (some .int) rm_X3_timeOfRow g aI (pK S) [rv g a0, rv g a1, .int a2] S (f_X3_timeOfRow S a0 a1 a2) := by
  refine Ct.mk (cf := cw (0, 0)) (by decide +kernel) (cat_r (cat_r (cat_i cat_n))) (Nat.le_of_ble_eq_true rfl) rfl ?_
  intro X hXl hin C
  show J X g _ _ 0 [(0, rv g a0), (1, rv g a1), (2, .int a2)] [] S (f_X3_timeOfRow S a0 a1 a2)
  unfold f_X3_timeOfRow
  refine J.aload_n (pc := 0) C (x := a1) dX3_timeOfRow_0 rfl rfl ?_
  refine J.getI (pc := 1) C fl_RX3_110 rfl dX3_timeOfRow_1 ?_
  refine J.iload_n (pc := 4) C dX3_timeOfRow_4 rfl rfl ?_
  refine J.aload_n (pc := 5) C (x := a0) dX3_timeOfRow_5 rfl rfl ?_
  refine J.iconst (pc := 6) C dX3_timeOfRow_6 ki_2 ?_
  refine J.vI (pc := 7) C mv_X3_setting wm_RX3_106 (fun l => c_X3_setting l g S a0 2) ⟨⟨Nat.zero_le _, Nat.zero_le _⟩, rfl, rfl⟩ rfl ⟨Nat.le_of_ble_eq_true rfl, Nat.le_of_ble_eq_true rfl⟩ rfl (cat_i (cat_i cat_n)) (Nat.le_of_ble_eq_true rfl) dX3_timeOfRow_7 (fun r1 => ?_)
  refine J.imul (pc := 10) C dX3_timeOfRow_10 ?_
  refine J.iadd (pc := 11) C dX3_timeOfRow_11 ?_
  exact J.iret (pc := 12) C rfl rfl ⟨Nat.le_refl _, Nat.le_refl _⟩ dX3_timeOfRow_12
abbrev rm_X3_photograph : Room := { frames := 3, cells := 0, slots := 0, locals := 74 }
def f_X3_photograph_B30 (a0 : Nat) (a1 : Nat) (a3 : Nat) (a4 : Int32) (kx30 : St → Option St) (k30 : St → Int32 → Option St) (S : St) (x5 : Int32) : Option St :=
  (if a4 ≤ x5 then
  (kx30 S)
  else (chk (okc S 3 a0)
  (bnd (f_X7_holds (S.1 a0 7) x5) fun r4 =>
  (if r4 = 0 then
  (chk (okc S 3 a0) (bnd (f_X3_timeOfRow S a0 a1 x5) fun r5 =>
  (chk (okc S 3 a0) (bnd (f_X3_paint S a0 x5 r5 (-1) 0 a3) fun S_6 =>
  (chk (okc S_6 3 a0) (bnd (f_X3_percentAt S_6 a0 r5) fun r7 =>
  (chk (okc S_6 0 a1) (bnd (f_X0_keepRow S_6 a1 x5 a3 r7) fun S_8 =>
  (k30 S_8 (x5 + 1))))))))))
  else (k30 S (x5 + 1))))))
set_option maxRecDepth 100000 in
set_option maxHeartbeats 4000000 in
theorem w_X3_photograph_B30 {X : CT} {g : GG} (C : CX X g cX3_photograph RX3 none 7 rm_X3_photograph) (a0 : Nat) (a1 : Nat) (a3 : Nat) (a4 : Int32) (kx30 : St → Option St) (hkx30 : ∀ (S : St), J X g (Qm X g aU pU) (cw (0, 0)) 88 [] [] S (kx30 S)) : ∀ (n : Nat) (S : St) (x5 : Int32), J X g (Qm X g aU pU) (cw (0, 0)) 30 [(0, rv g a0), (1, rv g a1), (3, rv g a3), (4, .int a4), (5, .int x5)] [] S (wl2 (f_X3_photograph_B30 a0 a1 a3 a4 kx30) n S x5) := by
  refine J.loop2 (lvf := fun (S : St) (x5 : Int32) => [(0, rv g a0), (1, rv g a1), (3, rv g a3), (4, .int a4), (5, .int x5)]) (Sf := fun (S : St) (x5 : Int32) => S) ?_
  intro k30 hk30 S x5
  show J X g _ _ 30 [(0, rv g a0), (1, rv g a1), (3, rv g a3), (4, .int a4), (5, .int x5)] [] S (f_X3_photograph_B30 a0 a1 a3 a4 kx30 k30 S x5)
  unfold f_X3_photograph_B30
  refine J.iload (pc := 30) C dX3_photograph_30 rfl ?_
  refine J.iload (pc := 32) C dX3_photograph_32 rfl ?_
  refine J.icmp_ge (pc := 34) C (tgt := 88) dX3_photograph_34 rfl ?_ ?_
  · exact J.pick [] rfl (hkx30 _)
  · refine J.aload_n (pc := 37) C (x := a0) dX3_photograph_37 rfl rfl ?_
    refine J.getI (pc := 38) C fl_RX3_53 rfl dX3_photograph_38 ?_
    refine J.iload (pc := 41) C dX3_photograph_41 rfl ?_
    refine J.snI (pc := 43) C ms_X7_holds wn_RX3_112 (fun l => c_X7_holds l g S (S.1 a0 7) x5) ⟨⟨Nat.zero_le _, Nat.zero_le _⟩, rfl, rfl⟩ rfl ⟨Nat.le_of_ble_eq_true rfl, Nat.le_of_ble_eq_true rfl⟩ rfl cat_n (Nat.le_of_ble_eq_true rfl) dX3_photograph_43 (fun r4 => ?_)
    refine J.if_ne (pc := 46) C (tgt := 82) dX3_photograph_46 rfl ?_ ?_
    · refine J.iinc (pc := 82) C (lv' := [(0, rv g a0), (1, rv g a1), (3, rv g a3), (4, .int a4), (5, .int (x5 + 1))]) dX3_photograph_82 rfl (Nat.le_of_ble_eq_true rfl) ki_1 rfl ?_
      refine J.goto (pc := 85) C (tgt := 30) dX3_photograph_85 rfl ?_
      exact (hk30 _ _)
    · refine J.aload_n (pc := 49) C (x := a0) dX3_photograph_49 rfl rfl ?_
      refine J.aload_n (pc := 50) C (x := a1) dX3_photograph_50 rfl rfl ?_
      refine J.iload (pc := 51) C dX3_photograph_51 rfl ?_
      refine J.vI (pc := 53) C mv_X3_timeOfRow wm_RX3_116 (fun l => c_X3_timeOfRow l g S a0 a1 x5) ⟨⟨Nat.zero_le _, Nat.zero_le _⟩, rfl, rfl⟩ rfl ⟨Nat.le_of_ble_eq_true rfl, Nat.le_of_ble_eq_true rfl⟩ rfl cat_n (Nat.le_of_ble_eq_true rfl) dX3_photograph_53 (fun r5 => ?_)
      refine J.istore (pc := 56) C (lv' := [(0, rv g a0), (1, rv g a1), (3, rv g a3), (4, .int a4), (5, .int x5), (6, .int r5)]) dX3_photograph_56 (Nat.le_of_ble_eq_true rfl) rfl ?_
      refine J.aload_n (pc := 58) C (x := a0) dX3_photograph_58 rfl rfl ?_
      refine J.iload (pc := 59) C dX3_photograph_59 rfl ?_
      refine J.iload (pc := 61) C dX3_photograph_61 rfl ?_
      refine J.iconst (pc := 63) C dX3_photograph_63 ki_m1 ?_
      refine J.iconst (pc := 64) C dX3_photograph_64 ki_0 ?_
      refine J.aload_n (pc := 65) C (x := a3) dX3_photograph_65 rfl rfl ?_
      refine J.vU (pc := 66) C mv_X3_paint wm_RX3_120 (fun l => c_X3_paint l g S a0 x5 r5 (-1) 0 a3) ⟨⟨Nat.zero_le _, Nat.zero_le _⟩, rfl, rfl⟩ rfl ⟨Nat.le_of_ble_eq_true rfl, Nat.le_of_ble_eq_true rfl⟩ rfl cat_n (Nat.le_of_ble_eq_true rfl) dX3_photograph_66 (fun S_6 => ?_)
      refine J.aload_n (pc := 69) C (x := a1) dX3_photograph_69 rfl rfl ?_
      refine J.iload (pc := 70) C dX3_photograph_70 rfl ?_
      refine J.aload_n (pc := 72) C (x := a3) dX3_photograph_72 rfl rfl ?_
      refine J.aload_n (pc := 73) C (x := a0) dX3_photograph_73 rfl rfl ?_
      refine J.iload (pc := 74) C dX3_photograph_74 rfl ?_
      refine J.vI (pc := 76) C mv_X3_percentAt wm_RX3_124 (fun l => c_X3_percentAt l g S_6 a0 r5) ⟨⟨Nat.zero_le _, Nat.zero_le _⟩, rfl, rfl⟩ rfl ⟨Nat.le_of_ble_eq_true rfl, Nat.le_of_ble_eq_true rfl⟩ rfl (cat_r (cat_i (cat_r cat_n))) (Nat.le_of_ble_eq_true rfl) dX3_photograph_76 (fun r7 => ?_)
      refine J.vU (pc := 79) C mv_X0_keepRow wm_RX3_127 (fun l => c_X0_keepRow l g S_6 a1 x5 a3 r7) ⟨⟨Nat.zero_le _, Nat.zero_le _⟩, rfl, rfl⟩ rfl ⟨Nat.le_of_ble_eq_true rfl, Nat.le_of_ble_eq_true rfl⟩ rfl cat_n (Nat.le_of_ble_eq_true rfl) dX3_photograph_79 (fun S_8 => ?_)
      refine J.iinc (pc := 82) C (lv' := [(0, rv g a0), (1, rv g a1), (3, rv g a3), (4, .int a4), (5, .int (x5 + 1)), (6, .int r5)]) dX3_photograph_82 rfl (Nat.le_of_ble_eq_true rfl) ki_1 rfl ?_
      refine J.goto (pc := 85) C (tgt := 30) dX3_photograph_85 rfl ?_
      exact J.pick [0, 1, 2, 3, 4] rfl (hk30 _ _)
def f_X3_photograph (S : St) (a0 : Nat) (a1 : Nat) (a2 : Int32) (a3 : Nat) : Option St :=
  (chk (okc S 3 a0) (bnd (f_X3_setting S a0 0) fun r1 =>
  (chk (okc S 0 a1) (vlt (upI S a1 0 a2) fun S_2 =>
  (chk (okc S_2 3 a0)
  (chk (okc S_2 0 a1) (vlt (upI S_2 a1 1 ((S_2.1 a0 7) &&& ((1 <<< (r1 &&& 31)) - 1))) fun S_3 =>
  (wl2 (f_X3_photograph_B30 a0 a1 a3 r1 (fun (S_9 : St) => (some S_9))) FU S_3 0))))))))
set_option maxRecDepth 100000 in
set_option maxHeartbeats 4000000 in
theorem c_X3_photograph (l : Launch) (g : GG) (S : St) (a0 : Nat) (a1 : Nat) (a2 : Int32) (a3 : Nat) : Ct l yX3_photograph cX3_photograph 7 none rm_X3_photograph g aU pU [rv g a0, rv g a1, .int a2, rv g a3] S (f_X3_photograph S a0 a1 a2 a3) := by
  refine Ct.mk (cf := cw (0, 0)) (by decide +kernel) (cat_r (cat_r (cat_i (cat_r cat_n)))) (Nat.le_of_ble_eq_true rfl) rfl ?_
  intro X hXl hin C
  show J X g _ _ 0 [(0, rv g a0), (1, rv g a1), (2, .int a2), (3, rv g a3)] [] S (f_X3_photograph S a0 a1 a2 a3)
  unfold f_X3_photograph
  refine J.aload_n (pc := 0) C (x := a0) dX3_photograph_0 rfl rfl ?_
  refine J.iconst (pc := 1) C dX3_photograph_1 ki_0 ?_
  refine J.vI (pc := 2) C mv_X3_setting wm_RX3_106 (fun l => c_X3_setting l g S a0 0) ⟨⟨Nat.zero_le _, Nat.zero_le _⟩, rfl, rfl⟩ rfl ⟨Nat.le_of_ble_eq_true rfl, Nat.le_of_ble_eq_true rfl⟩ rfl cat_n (Nat.le_of_ble_eq_true rfl) dX3_photograph_2 (fun r1 => ?_)
  refine J.istore (pc := 5) C (lv' := [(0, rv g a0), (1, rv g a1), (2, .int a2), (3, rv g a3), (4, .int r1)]) dX3_photograph_5 (Nat.le_of_ble_eq_true rfl) rfl ?_
  refine J.aload_n (pc := 7) C (x := a1) dX3_photograph_7 rfl rfl ?_
  refine J.iload_n (pc := 8) C dX3_photograph_8 rfl rfl ?_
  refine J.putIs (pc := 9) C fl_RX3_110 rfl (fun r h => by cases h; rfl) rfl rfl dX3_photograph_9 (fun S_2 => ?_)
  refine J.aload_n (pc := 12) C (x := a1) dX3_photograph_12 rfl rfl ?_
  refine J.aload_n (pc := 13) C (x := a0) dX3_photograph_13 rfl rfl ?_
  refine J.getI (pc := 14) C fl_RX3_53 rfl dX3_photograph_14 ?_
  refine J.iconst (pc := 17) C dX3_photograph_17 ki_1 ?_
  refine J.iload (pc := 18) C dX3_photograph_18 rfl ?_
  refine J.ishl (pc := 20) C dX3_photograph_20 ?_
  refine J.iconst (pc := 21) C dX3_photograph_21 ki_1 ?_
  refine J.isub (pc := 22) C dX3_photograph_22 ?_
  refine J.iand (pc := 23) C dX3_photograph_23 ?_
  refine J.putIs (pc := 24) C fl_RX3_111 rfl (fun r h => by cases h; rfl) rfl rfl dX3_photograph_24 (fun S_3 => ?_)
  refine J.iconst (pc := 27) C dX3_photograph_27 ki_0 ?_
  refine J.istore (pc := 28) C (lv' := [(0, rv g a0), (1, rv g a1), (2, .int a2), (3, rv g a3), (4, .int r1), (5, .int 0)]) dX3_photograph_28 (Nat.le_of_ble_eq_true rfl) rfl ?_
  refine J.pick [0, 1, 3, 4, 5] rfl ?_
  refine w_X3_photograph_B30 C _ _ _ _ _ (fun S_9 => ?_) FU _ _
  exact J.vret (pc := 88) C rfl rfl ⟨Nat.le_refl _, Nat.le_refl _⟩ dX3_photograph_88
abbrev rm_X6_mostVotes : Room := { frames := 1, cells := 0, slots := 0, locals := 21 }
def f_X6_mostVotes_B4 (S : St) (a0 : Nat) (kx4 : Int32 → Option Int32) (k4 : Int32 → Int32 → Option Int32) (x1 : Int32) (x2 : Int32) : Option Int32 :=
  (chk (okc S 6 a0)
  (chk (okc S 10 (S.2.1 a0 3))
  (if (Int32.ofNat (ln (S.2.1 a0 3))) ≤ x2 then
  (kx4 x1)
  else (chk (okc S 6 a0)
  (chk (ina S 10 (S.2.1 a0 3) x2)
  (bnd (f_J9_max_7cf53 x1 (S.1 (S.2.1 a0 3) x2.toNatClampNeg)) fun r1 =>
  (k4 r1 (x2 + 1))))))))
set_option maxRecDepth 100000 in
set_option maxHeartbeats 4000000 in
theorem w_X6_mostVotes_B4 {X : CT} {g : GG} (C : CX X g cX6_mostVotes RX6 (some .int) 3 rm_X6_mostVotes) (S : St) (a0 : Nat) (kx4 : Int32 → Option Int32) (hkx4 : ∀ (x1 : Int32), J X g (Qm X g aI (pK S)) (cw (0, 0)) 30 [(1, .int x1)] [] S (kx4 x1)) : ∀ (n : Nat) (x1 : Int32) (x2 : Int32), J X g (Qm X g aI (pK S)) (cw (0, 0)) 4 [(0, rv g a0), (1, .int x1), (2, .int x2)] [] S (wl2 (f_X6_mostVotes_B4 S a0 kx4) n x1 x2) := by
  refine J.loop2 (lvf := fun (x1 : Int32) (x2 : Int32) => [(0, rv g a0), (1, .int x1), (2, .int x2)]) (Sf := fun (x1 : Int32) (x2 : Int32) => S) ?_
  intro k4 hk4 x1 x2
  show J X g _ _ 4 [(0, rv g a0), (1, .int x1), (2, .int x2)] [] S (f_X6_mostVotes_B4 S a0 kx4 k4 x1 x2)
  unfold f_X6_mostVotes_B4
  refine J.iload_n (pc := 4) C dX6_mostVotes_4 rfl rfl ?_
  refine J.aload_n (pc := 5) C (x := a0) dX6_mostVotes_5 rfl rfl ?_
  refine J.getR (pc := 6) C fl_RX6_21 rfl dX6_mostVotes_6 ?_
  refine J.alen (pc := 9) C 10 (by decide) dX6_mostVotes_9 ?_
  refine J.icmp_ge (pc := 10) C (tgt := 30) dX6_mostVotes_10 rfl ?_ ?_
  · exact J.pick [1] rfl (hkx4 _)
  · refine J.iload_n (pc := 13) C dX6_mostVotes_13 rfl rfl ?_
    refine J.aload_n (pc := 14) C (x := a0) dX6_mostVotes_14 rfl rfl ?_
    refine J.getR (pc := 15) C fl_RX6_21 rfl dX6_mostVotes_15 ?_
    refine J.iload_n (pc := 18) C dX6_mostVotes_18 rfl rfl ?_
    refine J.iald (pc := 19) C dX6_mostVotes_19 ?_
    refine J.sI (pc := 20) C ms_J9_max_7cf53 wm_RX6_61 (fun l => c_J9_max_7cf53 l g S x1 (S.1 (S.2.1 a0 3) x2.toNatClampNeg)) ⟨⟨Nat.zero_le _, Nat.zero_le _⟩, rfl, rfl⟩ rfl ⟨Nat.le_of_ble_eq_true rfl, Nat.le_of_ble_eq_true rfl⟩ rfl cat_n (Nat.le_of_ble_eq_true rfl) dX6_mostVotes_20 (fun r1 => ?_)
    refine J.istore_n (pc := 23) C (lv' := [(0, rv g a0), (1, .int r1), (2, .int x2)]) dX6_mostVotes_23 rfl (Nat.le_of_ble_eq_true rfl) rfl ?_
    refine J.iinc (pc := 24) C (lv' := [(0, rv g a0), (1, .int r1), (2, .int (x2 + 1))]) dX6_mostVotes_24 rfl (Nat.le_of_ble_eq_true rfl) ki_1 rfl ?_
    refine J.goto (pc := 27) C (tgt := 4) dX6_mostVotes_27 rfl ?_
    exact (hk4 _ _)
def f_X6_mostVotes (S : St) (a0 : Nat) : Option Int32 :=
  (wl2 (f_X6_mostVotes_B4 S a0 (fun (y1_2 : Int32) => (some y1_2))) FU 0 0)
set_option maxRecDepth 100000 in
set_option maxHeartbeats 4000000 in
theorem c_X6_mostVotes (l : Launch) (g : GG) (S : St) (a0 : Nat) : Ct l yX6_mostVotes cX6_mostVotes 3 (some .int) rm_X6_mostVotes g aI (pK S) [rv g a0] S (f_X6_mostVotes S a0) := by
  refine Ct.mk (cf := cw (0, 0)) (by decide +kernel) (cat_r cat_n) (Nat.le_of_ble_eq_true rfl) rfl ?_
  intro X hXl hin C
  show J X g _ _ 0 [(0, rv g a0)] [] S (f_X6_mostVotes S a0)
  unfold f_X6_mostVotes
  refine J.iconst (pc := 0) C dX6_mostVotes_0 ki_0 ?_
  refine J.istore_n (pc := 1) C (lv' := [(0, rv g a0), (1, .int 0)]) dX6_mostVotes_1 rfl (Nat.le_of_ble_eq_true rfl) rfl ?_
  refine J.iconst (pc := 2) C dX6_mostVotes_2 ki_0 ?_
  refine J.istore_n (pc := 3) C (lv' := [(0, rv g a0), (1, .int 0), (2, .int 0)]) dX6_mostVotes_3 rfl (Nat.le_of_ble_eq_true rfl) rfl ?_
  refine w_X6_mostVotes_B4 C _ _ _ (fun y1_2 => ?_) FU _ _
  refine J.iload_n (pc := 30) C dX6_mostVotes_30 rfl rfl ?_
  exact J.iret (pc := 31) C rfl rfl ⟨Nat.le_refl _, Nat.le_refl _⟩ dX6_mostVotes_31
abbrev rm_X0_pixelAt : Room := { frames := 1, cells := 0, slots := 0, locals := 21 }
def f_X0_pixelAt (S : St) (a0 : Nat) (a1 : Int32) (a2 : Int32) : Option Int32 :=
  (chk (okc S 0 a0)
  (bnd (f_X7_numberIn S (S.2.1 a0 2) ((a1 * 16) + a2)) fun r1 =>
  (some r1)))
set_option maxRecDepth 100000 in
set_option maxHeartbeats 4000000 in
theorem c_X0_pixelAt (l : Launch) (g : GG) (S : St) (a0 : Nat) (a1 : Int32) (a2 : Int32) : Ct l yX0_pixelAt cX0_pixelAt 3 (some .int) rm_X0_pixelAt g aI (pK S) [rv g a0, .int a1, .int a2] S (f_X0_pixelAt S a0 a1 a2) := by
  refine Ct.mk (cf := cw (0, 0)) (by decide +kernel) (cat_r (cat_i (cat_i cat_n))) (Nat.le_of_ble_eq_true rfl) rfl ?_
  intro X hXl hin C
  show J X g _ _ 0 [(0, rv g a0), (1, .int a1), (2, .int a2)] [] S (f_X0_pixelAt S a0 a1 a2)
  unfold f_X0_pixelAt
  refine J.aload_n (pc := 0) C (x := a0) dX0_pixelAt_0 rfl rfl ?_
  refine J.getR (pc := 1) C fl_RX0_9 rfl dX0_pixelAt_1 ?_
  refine J.iload_n (pc := 4) C dX0_pixelAt_4 rfl rfl ?_
  refine J.bipush (pc := 5) C dX0_pixelAt_5 kb_16 ?_
  refine J.imul (pc := 7) C dX0_pixelAt_7 ?_
  refine J.iload_n (pc := 8) C dX0_pixelAt_8 rfl rfl ?_
  refine J.iadd (pc := 9) C dX0_pixelAt_9 ?_
  refine J.snI (pc := 10) C ms_X7_numberIn wn_RX0_22 (fun l => c_X7_numberIn l g S (S.2.1 a0 2) ((a1 * 16) + a2)) ⟨⟨Nat.zero_le _, Nat.zero_le _⟩, rfl, rfl⟩ rfl ⟨Nat.le_of_ble_eq_true rfl, Nat.le_of_ble_eq_true rfl⟩ rfl cat_n (Nat.le_of_ble_eq_true rfl) dX0_pixelAt_10 (fun r1 => ?_)
  exact J.iret (pc := 13) C rfl rfl ⟨Nat.le_refl _, Nat.le_refl _⟩ dX0_pixelAt_13
abbrev rm_X3_edgesIn : Room := { frames := 2, cells := 0, slots := 0, locals := 43 }
def f_X3_edgesIn_B25 (S : St) (a0 : Nat) (a1 : Nat) (a2 : Int32) (a3 : Int32) (kx25 : Int32 → Option Int32) (k25 : Int32 → Int32 → Option Int32) (x4 : Int32) (x5 : Int32) : Option Int32 :=
  (chk (okc S 3 a0) (bnd (f_X3_setting S a0 1) fun r3 =>
  (if r3 ≤ x5 then
  (kx25 x4)
  else (chk (okc S 0 a1) (bnd (f_X0_pixelAt S a1 a2 x5) fun r4 =>
  (chk (okc S 0 a1) (bnd (f_X0_pixelAt S a1 a2 (x5 - 1)) fun r5 =>
  (bnd (f_J9_abs_0f7a4 (r4 - r5)) fun r6 =>
  (if r6 < a3 then
  (k25 x4 (x5 + 1))
  else (k25 (x4 ||| (1 <<< (x5 &&& 31))) (x5 + 1)))))))))))
set_option maxRecDepth 100000 in
set_option maxHeartbeats 4000000 in
theorem w_X3_edgesIn_B25 {X : CT} {g : GG} (C : CX X g cX3_edgesIn RX3 (some .int) 7 rm_X3_edgesIn) (S : St) (a0 : Nat) (a1 : Nat) (a2 : Int32) (a3 : Int32) (kx25 : Int32 → Option Int32) (hkx25 : ∀ (x4 : Int32), J X g (Qm X g aI (pK S)) (cw (0, 0)) 78 [(4, .int x4)] [] S (kx25 x4)) : ∀ (n : Nat) (x4 : Int32) (x5 : Int32), J X g (Qm X g aI (pK S)) (cw (0, 0)) 25 [(0, rv g a0), (1, rv g a1), (2, .int a2), (3, .int a3), (4, .int x4), (5, .int x5)] [] S (wl2 (f_X3_edgesIn_B25 S a0 a1 a2 a3 kx25) n x4 x5) := by
  refine J.loop2 (lvf := fun (x4 : Int32) (x5 : Int32) => [(0, rv g a0), (1, rv g a1), (2, .int a2), (3, .int a3), (4, .int x4), (5, .int x5)]) (Sf := fun (x4 : Int32) (x5 : Int32) => S) ?_
  intro k25 hk25 x4 x5
  show J X g _ _ 25 [(0, rv g a0), (1, rv g a1), (2, .int a2), (3, .int a3), (4, .int x4), (5, .int x5)] [] S (f_X3_edgesIn_B25 S a0 a1 a2 a3 kx25 k25 x4 x5)
  unfold f_X3_edgesIn_B25
  refine J.iload (pc := 25) C dX3_edgesIn_25 rfl ?_
  refine J.aload_n (pc := 27) C (x := a0) dX3_edgesIn_27 rfl rfl ?_
  refine J.iconst (pc := 28) C dX3_edgesIn_28 ki_1 ?_
  refine J.vI (pc := 29) C mv_X3_setting wm_RX3_106 (fun l => c_X3_setting l g S a0 1) ⟨⟨Nat.zero_le _, Nat.zero_le _⟩, rfl, rfl⟩ rfl ⟨Nat.le_of_ble_eq_true rfl, Nat.le_of_ble_eq_true rfl⟩ rfl (cat_i cat_n) (Nat.le_of_ble_eq_true rfl) dX3_edgesIn_29 (fun r3 => ?_)
  refine J.icmp_ge (pc := 32) C (tgt := 78) dX3_edgesIn_32 rfl ?_ ?_
  · exact J.pick [4] rfl (hkx25 _)
  · refine J.aload_n (pc := 35) C (x := a1) dX3_edgesIn_35 rfl rfl ?_
    refine J.iload_n (pc := 36) C dX3_edgesIn_36 rfl rfl ?_
    refine J.iload (pc := 37) C dX3_edgesIn_37 rfl ?_
    refine J.vI (pc := 39) C mv_X0_pixelAt wm_RX3_150 (fun l => c_X0_pixelAt l g S a1 a2 x5) ⟨⟨Nat.zero_le _, Nat.zero_le _⟩, rfl, rfl⟩ rfl ⟨Nat.le_of_ble_eq_true rfl, Nat.le_of_ble_eq_true rfl⟩ rfl cat_n (Nat.le_of_ble_eq_true rfl) dX3_edgesIn_39 (fun r4 => ?_)
    refine J.aload_n (pc := 42) C (x := a1) dX3_edgesIn_42 rfl rfl ?_
    refine J.iload_n (pc := 43) C dX3_edgesIn_43 rfl rfl ?_
    refine J.iload (pc := 44) C dX3_edgesIn_44 rfl ?_
    refine J.iconst (pc := 46) C dX3_edgesIn_46 ki_1 ?_
    refine J.isub (pc := 47) C dX3_edgesIn_47 ?_
    refine J.vI (pc := 48) C mv_X0_pixelAt wm_RX3_150 (fun l => c_X0_pixelAt l g S a1 a2 (x5 - 1)) ⟨⟨Nat.zero_le _, Nat.zero_le _⟩, rfl, rfl⟩ rfl ⟨Nat.le_of_ble_eq_true rfl, Nat.le_of_ble_eq_true rfl⟩ rfl (cat_i cat_n) (Nat.le_of_ble_eq_true rfl) dX3_edgesIn_48 (fun r5 => ?_)
    refine J.isub (pc := 51) C dX3_edgesIn_51 ?_
    refine J.istore (pc := 52) C (lv' := [(0, rv g a0), (1, rv g a1), (2, .int a2), (3, .int a3), (4, .int x4), (5, .int x5), (6, .int (r4 - r5))]) dX3_edgesIn_52 (Nat.le_of_ble_eq_true rfl) rfl ?_
    refine J.iload (pc := 54) C dX3_edgesIn_54 rfl ?_
    refine J.sI (pc := 56) C ms_J9_abs_0f7a4 wm_RX3_153 (fun l => c_J9_abs_0f7a4 l g S (r4 - r5)) ⟨⟨Nat.zero_le _, Nat.zero_le _⟩, rfl, rfl⟩ rfl ⟨Nat.le_of_ble_eq_true rfl, Nat.le_of_ble_eq_true rfl⟩ rfl cat_n (Nat.le_of_ble_eq_true rfl) dX3_edgesIn_56 (fun r6 => ?_)
    refine J.iload_n (pc := 59) C dX3_edgesIn_59 rfl rfl ?_
    refine J.icmp_lt (pc := 60) C (tgt := 72) dX3_edgesIn_60 rfl ?_ ?_
    · refine J.iinc (pc := 72) C (lv' := [(0, rv g a0), (1, rv g a1), (2, .int a2), (3, .int a3), (4, .int x4), (5, .int (x5 + 1)), (6, .int (r4 - r5))]) dX3_edgesIn_72 rfl (Nat.le_of_ble_eq_true rfl) ki_1 rfl ?_
      refine J.goto (pc := 75) C (tgt := 25) dX3_edgesIn_75 rfl ?_
      exact J.pick [0, 1, 2, 3, 4, 5] rfl (hk25 _ _)
    · refine J.iload (pc := 63) C dX3_edgesIn_63 rfl ?_
      refine J.iconst (pc := 65) C dX3_edgesIn_65 ki_1 ?_
      refine J.iload (pc := 66) C dX3_edgesIn_66 rfl ?_
      refine J.ishl (pc := 68) C dX3_edgesIn_68 ?_
      refine J.ior (pc := 69) C dX3_edgesIn_69 ?_
      refine J.istore (pc := 70) C (lv' := [(0, rv g a0), (1, rv g a1), (2, .int a2), (3, .int a3), (4, .int (x4 ||| (1 <<< (x5 &&& 31)))), (5, .int x5), (6, .int (r4 - r5))]) dX3_edgesIn_70 (Nat.le_of_ble_eq_true rfl) rfl ?_
      refine J.iinc (pc := 72) C (lv' := [(0, rv g a0), (1, rv g a1), (2, .int a2), (3, .int a3), (4, .int (x4 ||| (1 <<< (x5 &&& 31)))), (5, .int (x5 + 1)), (6, .int (r4 - r5))]) dX3_edgesIn_72 rfl (Nat.le_of_ble_eq_true rfl) ki_1 rfl ?_
      refine J.goto (pc := 75) C (tgt := 25) dX3_edgesIn_75 rfl ?_
      exact J.pick [0, 1, 2, 3, 4, 5] rfl (hk25 _ _)
def f_X3_edgesIn (S : St) (a0 : Nat) (a1 : Nat) (a2 : Int32) : Option Int32 :=
  (chk (okc S 3 a0) (bnd (f_X3_setting S a0 3) fun r1 =>
  (chk (okc S 0 a1)
  (bnd (f_X7_holds (S.1 a1 1) a2) fun r2 =>
  (if r2 = 0 then
  (wl2 (f_X3_edgesIn_B25 S a0 a1 a2 r1 (fun (y4_7 : Int32) => (some y4_7))) FU 0 1)
  else (some 0))))))
set_option maxRecDepth 100000 in
set_option maxHeartbeats 4000000 in
theorem c_X3_edgesIn (l : Launch) (g : GG) (S : St) (a0 : Nat) (a1 : Nat) (a2 : Int32) : Ct l yX3_edgesIn cX3_edgesIn 7 (some .int) rm_X3_edgesIn g aI (pK S) [rv g a0, rv g a1, .int a2] S (f_X3_edgesIn S a0 a1 a2) := by
  refine Ct.mk (cf := cw (0, 0)) (by decide +kernel) (cat_r (cat_r (cat_i cat_n))) (Nat.le_of_ble_eq_true rfl) rfl ?_
  intro X hXl hin C
  show J X g _ _ 0 [(0, rv g a0), (1, rv g a1), (2, .int a2)] [] S (f_X3_edgesIn S a0 a1 a2)
  unfold f_X3_edgesIn
  refine J.aload_n (pc := 0) C (x := a0) dX3_edgesIn_0 rfl rfl ?_
  refine J.iconst (pc := 1) C dX3_edgesIn_1 ki_3 ?_
  refine J.vI (pc := 2) C mv_X3_setting wm_RX3_106 (fun l => c_X3_setting l g S a0 3) ⟨⟨Nat.zero_le _, Nat.zero_le _⟩, rfl, rfl⟩ rfl ⟨Nat.le_of_ble_eq_true rfl, Nat.le_of_ble_eq_true rfl⟩ rfl cat_n (Nat.le_of_ble_eq_true rfl) dX3_edgesIn_2 (fun r1 => ?_)
  refine J.istore_n (pc := 5) C (lv' := [(0, rv g a0), (1, rv g a1), (2, .int a2), (3, .int r1)]) dX3_edgesIn_5 rfl (Nat.le_of_ble_eq_true rfl) rfl ?_
  refine J.iconst (pc := 6) C dX3_edgesIn_6 ki_0 ?_
  refine J.istore (pc := 7) C (lv' := [(0, rv g a0), (1, rv g a1), (2, .int a2), (3, .int r1), (4, .int 0)]) dX3_edgesIn_7 (Nat.le_of_ble_eq_true rfl) rfl ?_
  refine J.aload_n (pc := 9) C (x := a1) dX3_edgesIn_9 rfl rfl ?_
  refine J.getI (pc := 10) C fl_RX3_111 rfl dX3_edgesIn_10 ?_
  refine J.iload_n (pc := 13) C dX3_edgesIn_13 rfl rfl ?_
  refine J.snI (pc := 14) C ms_X7_holds wn_RX3_112 (fun l => c_X7_holds l g S (S.1 a1 1) a2) ⟨⟨Nat.zero_le _, Nat.zero_le _⟩, rfl, rfl⟩ rfl ⟨Nat.le_of_ble_eq_true rfl, Nat.le_of_ble_eq_true rfl⟩ rfl cat_n (Nat.le_of_ble_eq_true rfl) dX3_edgesIn_14 (fun r2 => ?_)
  refine J.if_eq (pc := 17) C (tgt := 22) dX3_edgesIn_17 rfl ?_ ?_
  · refine J.iconst (pc := 22) C dX3_edgesIn_22 ki_1 ?_
    refine J.istore (pc := 23) C (lv' := [(0, rv g a0), (1, rv g a1), (2, .int a2), (3, .int r1), (4, .int 0), (5, .int 1)]) dX3_edgesIn_23 (Nat.le_of_ble_eq_true rfl) rfl ?_
    refine w_X3_edgesIn_B25 C _ _ _ _ _ _ (fun y4_7 => ?_) FU _ _
    refine J.iload (pc := 78) C dX3_edgesIn_78 rfl ?_
    exact J.iret (pc := 80) C rfl rfl ⟨Nat.le_refl _, Nat.le_refl _⟩ dX3_edgesIn_80
  · refine J.iconst (pc := 20) C dX3_edgesIn_20 ki_0 ?_
    exact J.iret (pc := 21) C rfl rfl ⟨Nat.le_refl _, Nat.le_refl _⟩ dX3_edgesIn_21
abbrev rm_X6_readEdges : Room := { frames := 3, cells := 0, slots := 0, locals := 69 }
def f_X6_readEdges_B10 (a1 : Nat) (a2 : Nat) (a3 : Nat) (a4 : Int32) (kx10 : St → Option St) (k10 : St → Int32 → Option St) (S : St) (x5 : Int32) : Option St :=
  (chk (okc S 10 a3)
  (if (Int32.ofNat (ln a3)) ≤ x5 then
  (kx10 S)
  else (if a2 = 0 then
  (chk (inw S 10 a3 x5) (vlt (upI S a3 x5.toNatClampNeg 0) fun S_2 =>
  (k10 S_2 (x5 + 1))))
  else (if a4 ≤ x5 then
  (chk (inw S 10 a3 x5) (vlt (upI S a3 x5.toNatClampNeg 0) fun S_3 =>
  (k10 S_3 (x5 + 1))))
  else (chk (okc S 3 a1) (bnd (f_X3_edgesIn S a1 a2 x5) fun r4 =>
  (chk (inw S 10 a3 x5) (vlt (upI S a3 x5.toNatClampNeg r4) fun S_5 =>
  (k10 S_5 (x5 + 1))))))))))
set_option maxRecDepth 100000 in
set_option maxHeartbeats 4000000 in
theorem w_X6_readEdges_B10 {X : CT} {g : GG} (C : CX X g cX6_readEdges RX6 none 6 rm_X6_readEdges) (a1 : Nat) (a2 : Nat) (a3 : Nat) (a4 : Int32) (kx10 : St → Option St) (hkx10 : ∀ (S : St), J X g (Qm X g aU pU) (cw (0, 0)) 49 [] [] S (kx10 S)) : ∀ (n : Nat) (S : St) (x5 : Int32), J X g (Qm X g aU pU) (cw (0, 0)) 10 [(1, rv g a1), (2, rv g a2), (3, rv g a3), (4, .int a4), (5, .int x5)] [] S (wl2 (f_X6_readEdges_B10 a1 a2 a3 a4 kx10) n S x5) := by
  refine J.loop2 (lvf := fun (S : St) (x5 : Int32) => [(1, rv g a1), (2, rv g a2), (3, rv g a3), (4, .int a4), (5, .int x5)]) (Sf := fun (S : St) (x5 : Int32) => S) ?_
  intro k10 hk10 S x5
  show J X g _ _ 10 [(1, rv g a1), (2, rv g a2), (3, rv g a3), (4, .int a4), (5, .int x5)] [] S (f_X6_readEdges_B10 a1 a2 a3 a4 kx10 k10 S x5)
  unfold f_X6_readEdges_B10
  refine J.iload (pc := 10) C dX6_readEdges_10 rfl ?_
  refine J.aload_n (pc := 12) C (x := a3) dX6_readEdges_12 rfl rfl ?_
  refine J.alen (pc := 13) C 10 (by decide) dX6_readEdges_13 ?_
  refine J.icmp_ge (pc := 14) C (tgt := 49) dX6_readEdges_14 rfl ?_ ?_
  · exact J.pick [] rfl (hkx10 _)
  · refine J.aload_n (pc := 17) C (x := a3) dX6_readEdges_17 rfl rfl ?_
    refine J.iload (pc := 18) C dX6_readEdges_18 rfl ?_
    refine J.aload_n (pc := 20) C (x := a2) dX6_readEdges_20 rfl rfl ?_
    refine J.ifnull (pc := 21) C (tgt := 41) dX6_readEdges_21 rfl ?_ ?_
    · refine J.iconst (pc := 41) C dX6_readEdges_41 ki_0 ?_
      refine J.iasts (pc := 42) C dX6_readEdges_42 (fun S_2 => ?_)
      refine J.iinc (pc := 43) C (lv' := [(1, rv g a1), (2, rv g a2), (3, rv g a3), (4, .int a4), (5, .int (x5 + 1))]) dX6_readEdges_43 rfl (Nat.le_of_ble_eq_true rfl) ki_1 rfl ?_
      refine J.goto (pc := 46) C (tgt := 10) dX6_readEdges_46 rfl ?_
      exact (hk10 _ _)
    · refine J.iload (pc := 24) C dX6_readEdges_24 rfl ?_
      refine J.iload (pc := 26) C dX6_readEdges_26 rfl ?_
      refine J.icmp_ge (pc := 28) C (tgt := 41) dX6_readEdges_28 rfl ?_ ?_
      · refine J.iconst (pc := 41) C dX6_readEdges_41 ki_0 ?_
        refine J.iasts (pc := 42) C dX6_readEdges_42 (fun S_3 => ?_)
        refine J.iinc (pc := 43) C (lv' := [(1, rv g a1), (2, rv g a2), (3, rv g a3), (4, .int a4), (5, .int (x5 + 1))]) dX6_readEdges_43 rfl (Nat.le_of_ble_eq_true rfl) ki_1 rfl ?_
        refine J.goto (pc := 46) C (tgt := 10) dX6_readEdges_46 rfl ?_
        exact (hk10 _ _)
      · refine J.aload_n (pc := 31) C (x := a1) dX6_readEdges_31 rfl rfl ?_
        refine J.aload_n (pc := 32) C (x := a2) dX6_readEdges_32 rfl rfl ?_
        refine J.iload (pc := 33) C dX6_readEdges_33 rfl ?_
        refine J.vI (pc := 35) C mv_X3_edgesIn wm_RX6_34 (fun l => c_X3_edgesIn l g S a1 a2 x5) ⟨⟨Nat.zero_le _, Nat.zero_le _⟩, rfl, rfl⟩ rfl ⟨Nat.le_of_ble_eq_true rfl, Nat.le_of_ble_eq_true rfl⟩ rfl (cat_i (cat_r cat_n)) (Nat.le_of_ble_eq_true rfl) dX6_readEdges_35 (fun r4 => ?_)
        refine J.goto (pc := 38) C (tgt := 42) dX6_readEdges_38 rfl ?_
        refine J.iasts (pc := 42) C dX6_readEdges_42 (fun S_5 => ?_)
        refine J.iinc (pc := 43) C (lv' := [(1, rv g a1), (2, rv g a2), (3, rv g a3), (4, .int a4), (5, .int (x5 + 1))]) dX6_readEdges_43 rfl (Nat.le_of_ble_eq_true rfl) ki_1 rfl ?_
        refine J.goto (pc := 46) C (tgt := 10) dX6_readEdges_46 rfl ?_
        exact (hk10 _ _)
def f_X6_readEdges (S : St) (a0 : Nat) (a1 : Nat) (a2 : Nat) (a3 : Nat) : Option St :=
  (chk (okc S 3 a1) (bnd (f_X3_setting S a1 0) fun r1 =>
  (wl2 (f_X6_readEdges_B10 a1 a2 a3 r1 (fun (S_6 : St) => (some S_6))) FU S 0)))
set_option maxRecDepth 100000 in
set_option maxHeartbeats 4000000 in
theorem c_X6_readEdges (l : Launch) (g : GG) (S : St) (a0 : Nat) (a1 : Nat) (a2 : Nat) (a3 : Nat) : Ct l yX6_readEdges cX6_readEdges 6 none rm_X6_readEdges g aU pU [rv g a0, rv g a1, rv g a2, rv g a3] S (f_X6_readEdges S a0 a1 a2 a3) := by
  refine Ct.mk (cf := cw (0, 0)) (by decide +kernel) (cat_r (cat_r (cat_r (cat_r cat_n)))) (Nat.le_of_ble_eq_true rfl) rfl ?_
  intro X hXl hin C
  show J X g _ _ 0 [(0, rv g a0), (1, rv g a1), (2, rv g a2), (3, rv g a3)] [] S (f_X6_readEdges S a0 a1 a2 a3)
  unfold f_X6_readEdges
  refine J.aload_n (pc := 0) C (x := a1) dX6_readEdges_0 rfl rfl ?_
  refine J.iconst (pc := 1) C dX6_readEdges_1 ki_0 ?_
  refine J.vI (pc := 2) C mv_X3_setting wm_RX6_28 (fun l => c_X3_setting l g S a1 0) ⟨⟨Nat.zero_le _, Nat.zero_le _⟩, rfl, rfl⟩ rfl ⟨Nat.le_of_ble_eq_true rfl, Nat.le_of_ble_eq_true rfl⟩ rfl cat_n (Nat.le_of_ble_eq_true rfl) dX6_readEdges_2 (fun r1 => ?_)
  refine J.istore (pc := 5) C (lv' := [(0, rv g a0), (1, rv g a1), (2, rv g a2), (3, rv g a3), (4, .int r1)]) dX6_readEdges_5 (Nat.le_of_ble_eq_true rfl) rfl ?_
  refine J.iconst (pc := 7) C dX6_readEdges_7 ki_0 ?_
  refine J.istore (pc := 8) C (lv' := [(0, rv g a0), (1, rv g a1), (2, rv g a2), (3, rv g a3), (4, .int r1), (5, .int 0)]) dX6_readEdges_8 (Nat.le_of_ble_eq_true rfl) rfl ?_
  refine J.pick [1, 2, 3, 4, 5] rfl ?_
  refine w_X6_readEdges_B10 C _ _ _ _ _ (fun S_6 => ?_) FU _ _
  exact J.vret (pc := 49) C rfl rfl ⟨Nat.le_refl _, Nat.le_refl _⟩ dX6_readEdges_49
abbrev rm_X6_readFirst : Room := { frames := 4, cells := 0, slots := 0, locals := 94 }
def f_X6_readFirst (S : St) (a0 : Nat) (a1 : Nat) (a2 : Nat) : Option St :=
  (chk (okc S 6 a0)
  (chk (okc S 6 a0) (bnd (f_X6_readEdges S a0 a1 a2 (S.2.1 a0 0)) fun S_1 =>
  (some S_1))))
set_option maxRecDepth 100000 in
set_option maxHeartbeats 4000000 in
theorem c_X6_readFirst (l : Launch) (g : GG) (S : St) (a0 : Nat) (a1 : Nat) (a2 : Nat) : Ct l yX6_readFirst cX6_readFirst 3 none rm_X6_readFirst g aU pU [rv g a0, rv g a1, rv g a2] S (f_X6_readFirst S a0 a1 a2) := by
  refine Ct.mk (cf := cw (0, 0)) (by decide +kernel) (cat_r (cat_r (cat_r cat_n))) (Nat.le_of_ble_eq_true rfl) rfl ?_
  intro X hXl hin C
  show J X g _ _ 0 [(0, rv g a0), (1, rv g a1), (2, rv g a2)] [] S (f_X6_readFirst S a0 a1 a2)
  unfold f_X6_readFirst
  refine J.aload_n (pc := 0) C (x := a0) dX6_readFirst_0 rfl rfl ?_
  refine J.aload_n (pc := 1) C (x := a1) dX6_readFirst_1 rfl rfl ?_
  refine J.aload_n (pc := 2) C (x := a2) dX6_readFirst_2 rfl rfl ?_
  refine J.aload_n (pc := 3) C (x := a0) dX6_readFirst_3 rfl rfl ?_
  refine J.getR (pc := 4) C fl_RX6_9 rfl dX6_readFirst_4 ?_
  refine J.vU (pc := 7) C mv_X6_readEdges wm_RX6_24 (fun l => c_X6_readEdges l g S a0 a1 a2 (S.2.1 a0 0)) ⟨⟨Nat.zero_le _, Nat.zero_le _⟩, rfl, rfl⟩ rfl ⟨Nat.le_of_ble_eq_true rfl, Nat.le_of_ble_eq_true rfl⟩ rfl cat_n (Nat.le_of_ble_eq_true rfl) dX6_readFirst_7 (fun S_1 => ?_)
  exact J.vret (pc := 10) C rfl rfl ⟨Nat.le_refl _, Nat.le_refl _⟩ dX6_readFirst_10
abbrev rm_X6_readSecond : Room := { frames := 4, cells := 0, slots := 0, locals := 94 }
def f_X6_readSecond (S : St) (a0 : Nat) (a1 : Nat) (a2 : Nat) : Option St :=
  (chk (okc S 6 a0)
  (chk (okc S 6 a0) (bnd (f_X6_readEdges S a0 a1 a2 (S.2.1 a0 1)) fun S_1 =>
  (some S_1))))
set_option maxRecDepth 100000 in
set_option maxHeartbeats 4000000 in
theorem c_X6_readSecond (l : Launch) (g : GG) (S : St) (a0 : Nat) (a1 : Nat) (a2 : Nat) : Ct l yX6_readSecond cX6_readSecond 3 none rm_X6_readSecond g aU pU [rv g a0, rv g a1, rv g a2] S (f_X6_readSecond S a0 a1 a2) := by
  refine Ct.mk (cf := cw (0, 0)) (by decide +kernel) (cat_r (cat_r (cat_r cat_n))) (Nat.le_of_ble_eq_true rfl) rfl ?_
  intro X hXl hin C
  show J X g _ _ 0 [(0, rv g a0), (1, rv g a1), (2, rv g a2)] [] S (f_X6_readSecond S a0 a1 a2)
  unfold f_X6_readSecond
  refine J.aload_n (pc := 0) C (x := a0) dX6_readSecond_0 rfl rfl ?_
  refine J.aload_n (pc := 1) C (x := a1) dX6_readSecond_1 rfl rfl ?_
  refine J.aload_n (pc := 2) C (x := a2) dX6_readSecond_2 rfl rfl ?_
  refine J.aload_n (pc := 3) C (x := a0) dX6_readSecond_3 rfl rfl ?_
  refine J.getR (pc := 4) C fl_RX6_15 rfl dX6_readSecond_4 ?_
  refine J.vU (pc := 7) C mv_X6_readEdges wm_RX6_24 (fun l => c_X6_readEdges l g S a0 a1 a2 (S.2.1 a0 1)) ⟨⟨Nat.zero_le _, Nat.zero_le _⟩, rfl, rfl⟩ rfl ⟨Nat.le_of_ble_eq_true rfl, Nat.le_of_ble_eq_true rfl⟩ rfl cat_n (Nat.le_of_ble_eq_true rfl) dX6_readSecond_7 (fun S_1 => ?_)
  exact J.vret (pc := 10) C rfl rfl ⟨Nat.le_refl _, Nat.le_refl _⟩ dX6_readSecond_10
abbrev rm_X6_told : Room := { frames := 2, cells := 0, slots := 0, locals := 43 }
def f_X6_told_B13 (S : St) (a0 : Nat) (a1 : Int32) (kx13 : Int32 → Int32 → Option Int32) (k13 : Int32 → Int32 → Int32 → Option Int32) (x2 : Int32) (x3 : Int32) (x4 : Int32) : Option Int32 :=
  (chk (okc S 6 a0)
  (chk (okc S 10 (S.2.1 a0 3))
  (if (Int32.ofNat (ln (S.2.1 a0 3))) ≤ x4 then
  (kx13 x2 x3)
  else (if a1 ≤ 0 then
  (k13 x2 x3 (x4 + 1))
  else (chk (okc S 6 a0)
  (chk (ina S 10 (S.2.1 a0 3) x4)
  (if (S.1 (S.2.1 a0 3) x4.toNatClampNeg) = a1 then
  (k13 (x4 - 8) (x3 + 1) (x4 + 1))
  else (k13 x2 x3 (x4 + 1)))))))))
set_option maxRecDepth 100000 in
set_option maxHeartbeats 4000000 in
theorem w_X6_told_B13 {X : CT} {g : GG} (C : CX X g cX6_told RX6 (some .int) 5 rm_X6_told) (S : St) (a0 : Nat) (a1 : Int32) (kx13 : Int32 → Int32 → Option Int32) (hkx13 : ∀ (x2 : Int32) (x3 : Int32), J X g (Qm X g aI (pK S)) (cw (0, 0)) 53 [(2, .int x2), (3, .int x3)] [] S (kx13 x2 x3)) : ∀ (n : Nat) (x2 : Int32) (x3 : Int32) (x4 : Int32), J X g (Qm X g aI (pK S)) (cw (0, 0)) 13 [(0, rv g a0), (1, .int a1), (2, .int x2), (3, .int x3), (4, .int x4)] [] S (wl3 (f_X6_told_B13 S a0 a1 kx13) n x2 x3 x4) := by
  refine J.loop3 (lvf := fun (x2 : Int32) (x3 : Int32) (x4 : Int32) => [(0, rv g a0), (1, .int a1), (2, .int x2), (3, .int x3), (4, .int x4)]) (Sf := fun (x2 : Int32) (x3 : Int32) (x4 : Int32) => S) ?_
  intro k13 hk13 x2 x3 x4
  show J X g _ _ 13 [(0, rv g a0), (1, .int a1), (2, .int x2), (3, .int x3), (4, .int x4)] [] S (f_X6_told_B13 S a0 a1 kx13 k13 x2 x3 x4)
  unfold f_X6_told_B13
  refine J.iload (pc := 13) C dX6_told_13 rfl ?_
  refine J.aload_n (pc := 15) C (x := a0) dX6_told_15 rfl rfl ?_
  refine J.getR (pc := 16) C fl_RX6_21 rfl dX6_told_16 ?_
  refine J.alen (pc := 19) C 10 (by decide) dX6_told_19 ?_
  refine J.icmp_ge (pc := 20) C (tgt := 53) dX6_told_20 rfl ?_ ?_
  · exact J.pick [2, 3] rfl (hkx13 _ _)
  · refine J.iload_n (pc := 23) C dX6_told_23 rfl rfl ?_
    refine J.if_le (pc := 24) C (tgt := 47) dX6_told_24 rfl ?_ ?_
    · refine J.iinc (pc := 47) C (lv' := [(0, rv g a0), (1, .int a1), (2, .int x2), (3, .int x3), (4, .int (x4 + 1))]) dX6_told_47 rfl (Nat.le_of_ble_eq_true rfl) ki_1 rfl ?_
      refine J.goto (pc := 50) C (tgt := 13) dX6_told_50 rfl ?_
      exact (hk13 _ _ _)
    · refine J.aload_n (pc := 27) C (x := a0) dX6_told_27 rfl rfl ?_
      refine J.getR (pc := 28) C fl_RX6_21 rfl dX6_told_28 ?_
      refine J.iload (pc := 31) C dX6_told_31 rfl ?_
      refine J.iald (pc := 33) C dX6_told_33 ?_
      refine J.iload_n (pc := 34) C dX6_told_34 rfl rfl ?_
      refine J.icmp_ne (pc := 35) C (tgt := 47) dX6_told_35 rfl ?_ ?_
      · refine J.iinc (pc := 47) C (lv' := [(0, rv g a0), (1, .int a1), (2, .int x2), (3, .int x3), (4, .int (x4 + 1))]) dX6_told_47 rfl (Nat.le_of_ble_eq_true rfl) ki_1 rfl ?_
        refine J.goto (pc := 50) C (tgt := 13) dX6_told_50 rfl ?_
        exact (hk13 _ _ _)
      · refine J.iload (pc := 38) C dX6_told_38 rfl ?_
        refine J.bipush (pc := 40) C dX6_told_40 kb_8 ?_
        refine J.isub (pc := 42) C dX6_told_42 ?_
        refine J.istore_n (pc := 43) C (lv' := [(0, rv g a0), (1, .int a1), (2, .int (x4 - 8)), (3, .int x3), (4, .int x4)]) dX6_told_43 rfl (Nat.le_of_ble_eq_true rfl) rfl ?_
        refine J.iinc (pc := 44) C (lv' := [(0, rv g a0), (1, .int a1), (2, .int (x4 - 8)), (3, .int (x3 + 1)), (4, .int x4)]) dX6_told_44 rfl (Nat.le_of_ble_eq_true rfl) ki_1 rfl ?_
        refine J.iinc (pc := 47) C (lv' := [(0, rv g a0), (1, .int a1), (2, .int (x4 - 8)), (3, .int (x3 + 1)), (4, .int (x4 + 1))]) dX6_told_47 rfl (Nat.le_of_ble_eq_true rfl) ki_1 rfl ?_
        refine J.goto (pc := 50) C (tgt := 13) dX6_told_50 rfl ?_
        exact (hk13 _ _ _)
def f_X6_told (S : St) (a0 : Nat) : Option Int32 :=
  (chk (okc S 6 a0) (bnd (f_X6_mostVotes S a0) fun r1 =>
  (wl3 (f_X6_told_B13 S a0 r1 (fun (y2_2 : Int32) (y3_3 : Int32) => (if y3_3 = 1 then
  (some y2_2)
  else (some (-10000004))))) FU (-10000004) 0 0)))
set_option maxRecDepth 100000 in
set_option maxHeartbeats 4000000 in
theorem c_X6_told (l : Launch) (g : GG) (S : St) (a0 : Nat) : Ct l yX6_told cX6_told 5 (some .int) rm_X6_told g aI (pK S) [rv g a0] S (f_X6_told S a0) := by
  refine Ct.mk (cf := cw (0, 0)) (by decide +kernel) (cat_r cat_n) (Nat.le_of_ble_eq_true rfl) rfl ?_
  intro X hXl hin C
  show J X g _ _ 0 [(0, rv g a0)] [] S (f_X6_told S a0)
  unfold f_X6_told
  refine J.aload_n (pc := 0) C (x := a0) dX6_told_0 rfl rfl ?_
  refine J.vI (pc := 1) C mv_X6_mostVotes wm_RX6_66 (fun l => c_X6_mostVotes l g S a0) ⟨⟨Nat.zero_le _, Nat.zero_le _⟩, rfl, rfl⟩ rfl ⟨Nat.le_of_ble_eq_true rfl, Nat.le_of_ble_eq_true rfl⟩ rfl cat_n (Nat.le_of_ble_eq_true rfl) dX6_told_1 (fun r1 => ?_)
  refine J.istore_n (pc := 4) C (lv' := [(0, rv g a0), (1, .int r1)]) dX6_told_4 rfl (Nat.le_of_ble_eq_true rfl) rfl ?_
  refine J.ldc (pc := 5) C wc_RX6_54 dX6_told_5 ?_
  refine J.istore_n (pc := 7) C (lv' := [(0, rv g a0), (1, .int r1), (2, .int (-10000004))]) dX6_told_7 rfl (Nat.le_of_ble_eq_true rfl) rfl ?_
  refine J.iconst (pc := 8) C dX6_told_8 ki_0 ?_
  refine J.istore_n (pc := 9) C (lv' := [(0, rv g a0), (1, .int r1), (2, .int (-10000004)), (3, .int 0)]) dX6_told_9 rfl (Nat.le_of_ble_eq_true rfl) rfl ?_
  refine J.iconst (pc := 10) C dX6_told_10 ki_0 ?_
  refine J.istore (pc := 11) C (lv' := [(0, rv g a0), (1, .int r1), (2, .int (-10000004)), (3, .int 0), (4, .int 0)]) dX6_told_11 (Nat.le_of_ble_eq_true rfl) rfl ?_
  refine w_X6_told_B13 C _ _ _ _ (fun y2_2 y3_3 => ?_) FU _ _ _
  refine J.iload_n (pc := 53) C dX6_told_53 rfl rfl ?_
  refine J.iconst (pc := 54) C dX6_told_54 ki_1 ?_
  refine J.icmp_ne (pc := 55) C (tgt := 62) dX6_told_55 rfl ?_ ?_
  · refine J.ldc (pc := 62) C wc_RX6_54 dX6_told_62 ?_
    exact J.iret (pc := 64) C rfl rfl ⟨Nat.le_refl _, Nat.le_refl _⟩ dX6_told_64
  · refine J.iload_n (pc := 58) C dX6_told_58 rfl rfl ?_
    refine J.goto (pc := 59) C (tgt := 64) dX6_told_59 rfl ?_
    exact J.iret (pc := 64) C rfl rfl ⟨Nat.le_refl _, Nat.le_refl _⟩ dX6_told_64
abbrev rm_X3_weightOf : Room := { frames := 1, cells := 0, slots := 0, locals := 21 }
def f_X3_weightOf (S : St) (a0 : Nat) (a1 : Int32) : Option Int32 :=
  (chk (okc S 3 a0)
  (bnd (f_X7_numberIn S (S.2.1 a0 8) a1) fun r1 =>
  (chk (okc S 3 a0)
  (bnd (f_X7_numberIn S (S.2.1 a0 9) a1) fun r2 =>
  (bnd (f_J9_max_7cf53 0 (r1 - r2)) fun r3 =>
  (some (1 + r3)))))))
set_option maxRecDepth 100000 in
set_option maxHeartbeats 4000000 in
theorem c_X3_weightOf (l : Launch) (g : GG) (S : St) (a0 : Nat) (a1 : Int32) : Ct l yX3_weightOf cX3_weightOf 2 (some .int) rm_X3_weightOf g aI (pK S) [rv g a0, .int a1] S (f_X3_weightOf S a0 a1) := by
  refine Ct.mk (cf := cw (0, 0)) (by decide +kernel) (cat_r (cat_i cat_n)) (Nat.le_of_ble_eq_true rfl) rfl ?_
  intro X hXl hin C
  show J X g _ _ 0 [(0, rv g a0), (1, .int a1)] [] S (f_X3_weightOf S a0 a1)
  unfold f_X3_weightOf
  refine J.iconst (pc := 0) C dX3_weightOf_0 ki_1 ?_
  refine J.iconst (pc := 1) C dX3_weightOf_1 ki_0 ?_
  refine J.aload_n (pc := 2) C (x := a0) dX3_weightOf_2 rfl rfl ?_
  refine J.getR (pc := 3) C fl_RX3_27 rfl dX3_weightOf_3 ?_
  refine J.iload_n (pc := 6) C dX3_weightOf_6 rfl rfl ?_
  refine J.snI (pc := 7) C ms_X7_numberIn wn_RX3_36 (fun l => c_X7_numberIn l g S (S.2.1 a0 8) a1) ⟨⟨Nat.zero_le _, Nat.zero_le _⟩, rfl, rfl⟩ rfl ⟨Nat.le_of_ble_eq_true rfl, Nat.le_of_ble_eq_true rfl⟩ rfl (cat_i (cat_i cat_n)) (Nat.le_of_ble_eq_true rfl) dX3_weightOf_7 (fun r1 => ?_)
  refine J.aload_n (pc := 10) C (x := a0) dX3_weightOf_10 rfl rfl ?_
  refine J.getR (pc := 11) C fl_RX3_30 rfl dX3_weightOf_11 ?_
  refine J.iload_n (pc := 14) C dX3_weightOf_14 rfl rfl ?_
  refine J.snI (pc := 15) C ms_X7_numberIn wn_RX3_36 (fun l => c_X7_numberIn l g S (S.2.1 a0 9) a1) ⟨⟨Nat.zero_le _, Nat.zero_le _⟩, rfl, rfl⟩ rfl ⟨Nat.le_of_ble_eq_true rfl, Nat.le_of_ble_eq_true rfl⟩ rfl (cat_i (cat_i (cat_i cat_n))) (Nat.le_of_ble_eq_true rfl) dX3_weightOf_15 (fun r2 => ?_)
  refine J.isub (pc := 18) C dX3_weightOf_18 ?_
  refine J.sI (pc := 19) C ms_J9_max_7cf53 wm_RX3_158 (fun l => c_J9_max_7cf53 l g S 0 (r1 - r2)) ⟨⟨Nat.zero_le _, Nat.zero_le _⟩, rfl, rfl⟩ rfl ⟨Nat.le_of_ble_eq_true rfl, Nat.le_of_ble_eq_true rfl⟩ rfl (cat_i cat_n) (Nat.le_of_ble_eq_true rfl) dX3_weightOf_19 (fun r3 => ?_)
  refine J.iadd (pc := 22) C dX3_weightOf_22 ?_
  exact J.iret (pc := 23) C rfl rfl ⟨Nat.le_refl _, Nat.le_refl _⟩ dX3_weightOf_23
abbrev rm_X6_countVotes : Room := { frames := 2, cells := 0, slots := 0, locals := 42 }
def f_X6_countVotes_B2 (a0 : Nat) (a1 : Nat) (kx2 : St → Option St) (k2 : St → Int32 → Option St) (S : St) (x2 : Int32) : Option St :=
  (chk (okc S 6 a0)
  (chk (okc S 10 (S.2.1 a0 3))
  (if (Int32.ofNat (ln (S.2.1 a0 3))) ≤ x2 then
  (kx2 S)
  else (chk (okc S 6 a0)
  (chk (inw S 10 (S.2.1 a0 3) x2) (vlt (upI S (S.2.1 a0 3) x2.toNatClampNeg 0) fun S_1 =>
  (k2 S_1 (x2 + 1))))))))
set_option maxRecDepth 100000 in
set_option maxHeartbeats 4000000 in
theorem w_X6_countVotes_B2 {X : CT} {g : GG} (C : CX X g cX6_countVotes RX6 none 4 rm_X6_countVotes) (a0 : Nat) (a1 : Nat) (kx2 : St → Option St) (hkx2 : ∀ (S : St), J X g (Qm X g aU pU) (cw (0, 0)) 24 [(0, rv g a0), (1, rv g a1)] [] S (kx2 S)) : ∀ (n : Nat) (S : St) (x2 : Int32), J X g (Qm X g aU pU) (cw (0, 0)) 2 [(0, rv g a0), (1, rv g a1), (2, .int x2)] [] S (wl2 (f_X6_countVotes_B2 a0 a1 kx2) n S x2) := by
  refine J.loop2 (lvf := fun (S : St) (x2 : Int32) => [(0, rv g a0), (1, rv g a1), (2, .int x2)]) (Sf := fun (S : St) (x2 : Int32) => S) ?_
  intro k2 hk2 S x2
  show J X g _ _ 2 [(0, rv g a0), (1, rv g a1), (2, .int x2)] [] S (f_X6_countVotes_B2 a0 a1 kx2 k2 S x2)
  unfold f_X6_countVotes_B2
  refine J.iload_n (pc := 2) C dX6_countVotes_2 rfl rfl ?_
  refine J.aload_n (pc := 3) C (x := a0) dX6_countVotes_3 rfl rfl ?_
  refine J.getR (pc := 4) C fl_RX6_21 rfl dX6_countVotes_4 ?_
  refine J.alen (pc := 7) C 10 (by decide) dX6_countVotes_7 ?_
  refine J.icmp_ge (pc := 8) C (tgt := 24) dX6_countVotes_8 rfl ?_ ?_
  · exact J.pick [0, 1] rfl (hkx2 _)
  · refine J.aload_n (pc := 11) C (x := a0) dX6_countVotes_11 rfl rfl ?_
    refine J.getR (pc := 12) C fl_RX6_21 rfl dX6_countVotes_12 ?_
    refine J.iload_n (pc := 15) C dX6_countVotes_15 rfl rfl ?_
    refine J.iconst (pc := 16) C dX6_countVotes_16 ki_0 ?_
    refine J.iasts (pc := 17) C dX6_countVotes_17 (fun S_1 => ?_)
    refine J.iinc (pc := 18) C (lv' := [(0, rv g a0), (1, rv g a1), (2, .int (x2 + 1))]) dX6_countVotes_18 rfl (Nat.le_of_ble_eq_true rfl) ki_1 rfl ?_
    refine J.goto (pc := 21) C (tgt := 2) dX6_countVotes_21 rfl ?_
    exact (hk2 _ _)
def f_X6_countVotes_B26 (a0 : Nat) (a1 : Nat) (kx26 : St → Option St) (k26 : St → Int32 → Option St) (S : St) (x2 : Int32) : Option St :=
  (chk (okc S 6 a0)
  (chk (okc S 10 (S.2.1 a0 2))
  (if (Int32.ofNat (ln (S.2.1 a0 2))) ≤ x2 then
  (kx26 S)
  else (chk (okc S 6 a0)
  (chk (ina S 10 (S.2.1 a0 2) x2)
  (chk (okc S 6 a0)
  (chk (ina S 10 (S.2.1 a0 2) x2)
  (if (S.1 (S.2.1 a0 2) x2.toNatClampNeg) = (-10000004) then
  (k26 S (x2 + 1))
  else (if ((S.1 (S.2.1 a0 2) x2.toNatClampNeg) + 8) < 0 then
  (k26 S (x2 + 1))
  else (chk (okc S 6 a0)
  (chk (okc S 10 (S.2.1 a0 3))
  (if (Int32.ofNat (ln (S.2.1 a0 3))) ≤ ((S.1 (S.2.1 a0 2) x2.toNatClampNeg) + 8) then
  (k26 S (x2 + 1))
  else (chk (okc S 6 a0)
  (chk (ina S 10 (S.2.1 a0 3) ((S.1 (S.2.1 a0 2) x2.toNatClampNeg) + 8))
  (if a1 = 0 then
  (chk (inw S 10 (S.2.1 a0 3) ((S.1 (S.2.1 a0 2) x2.toNatClampNeg) + 8)) (vlt (upI S (S.2.1 a0 3) ((S.1 (S.2.1 a0 2) x2.toNatClampNeg) + 8).toNatClampNeg ((S.1 (S.2.1 a0 3) ((S.1 (S.2.1 a0 2) x2.toNatClampNeg) + 8).toNatClampNeg) + 1)) fun S_5 =>
  (k26 S_5 (x2 + 1))))
  else (chk (okc S 3 a1) (bnd (f_X3_weightOf S a1 x2) fun r3 =>
  (chk (inw S 10 (S.2.1 a0 3) ((S.1 (S.2.1 a0 2) x2.toNatClampNeg) + 8)) (vlt (upI S (S.2.1 a0 3) ((S.1 (S.2.1 a0 2) x2.toNatClampNeg) + 8).toNatClampNeg ((S.1 (S.2.1 a0 3) ((S.1 (S.2.1 a0 2) x2.toNatClampNeg) + 8).toNatClampNeg) + r3)) fun S_4 =>
  (k26 S_4 (x2 + 1)))))))))))))))))))))
set_option maxRecDepth 100000 in
set_option maxHeartbeats 4000000 in
theorem w_X6_countVotes_B26 {X : CT} {g : GG} (C : CX X g cX6_countVotes RX6 none 4 rm_X6_countVotes) (a0 : Nat) (a1 : Nat) (kx26 : St → Option St) (hkx26 : ∀ (S : St), J X g (Qm X g aU pU) (cw (0, 0)) 97 [] [] S (kx26 S)) : ∀ (n : Nat) (S : St) (x2 : Int32), J X g (Qm X g aU pU) (cw (0, 0)) 26 [(0, rv g a0), (1, rv g a1), (2, .int x2)] [] S (wl2 (f_X6_countVotes_B26 a0 a1 kx26) n S x2) := by
  refine J.loop2 (lvf := fun (S : St) (x2 : Int32) => [(0, rv g a0), (1, rv g a1), (2, .int x2)]) (Sf := fun (S : St) (x2 : Int32) => S) ?_
  intro k26 hk26 S x2
  show J X g _ _ 26 [(0, rv g a0), (1, rv g a1), (2, .int x2)] [] S (f_X6_countVotes_B26 a0 a1 kx26 k26 S x2)
  unfold f_X6_countVotes_B26
  refine J.iload_n (pc := 26) C dX6_countVotes_26 rfl rfl ?_
  refine J.aload_n (pc := 27) C (x := a0) dX6_countVotes_27 rfl rfl ?_
  refine J.getR (pc := 28) C fl_RX6_18 rfl dX6_countVotes_28 ?_
  refine J.alen (pc := 31) C 10 (by decide) dX6_countVotes_31 ?_
  refine J.icmp_ge (pc := 32) C (tgt := 97) dX6_countVotes_32 rfl ?_ ?_
  · exact J.pick [] rfl (hkx26 _)
  · refine J.aload_n (pc := 35) C (x := a0) dX6_countVotes_35 rfl rfl ?_
    refine J.getR (pc := 36) C fl_RX6_18 rfl dX6_countVotes_36 ?_
    refine J.iload_n (pc := 39) C dX6_countVotes_39 rfl rfl ?_
    refine J.iald (pc := 40) C dX6_countVotes_40 ?_
    refine J.bipush (pc := 41) C dX6_countVotes_41 kb_8 ?_
    refine J.iadd (pc := 43) C dX6_countVotes_43 ?_
    refine J.istore_n (pc := 44) C (lv' := [(0, rv g a0), (1, rv g a1), (2, .int x2), (3, .int ((S.1 (S.2.1 a0 2) x2.toNatClampNeg) + 8))]) dX6_countVotes_44 rfl (Nat.le_of_ble_eq_true rfl) rfl ?_
    refine J.aload_n (pc := 45) C (x := a0) dX6_countVotes_45 rfl rfl ?_
    refine J.getR (pc := 46) C fl_RX6_18 rfl dX6_countVotes_46 ?_
    refine J.iload_n (pc := 49) C dX6_countVotes_49 rfl rfl ?_
    refine J.iald (pc := 50) C dX6_countVotes_50 ?_
    refine J.ldc (pc := 51) C wc_RX6_54 dX6_countVotes_51 ?_
    refine J.icmp_eq (pc := 53) C (tgt := 91) dX6_countVotes_53 rfl ?_ ?_
    · refine J.iinc (pc := 91) C (lv' := [(0, rv g a0), (1, rv g a1), (2, .int (x2 + 1)), (3, .int ((S.1 (S.2.1 a0 2) x2.toNatClampNeg) + 8))]) dX6_countVotes_91 rfl (Nat.le_of_ble_eq_true rfl) ki_1 rfl ?_
      refine J.goto (pc := 94) C (tgt := 26) dX6_countVotes_94 rfl ?_
      exact J.pick [0, 1, 2] rfl (hk26 _ _)
    · refine J.iload_n (pc := 56) C dX6_countVotes_56 rfl rfl ?_
      refine J.if_lt (pc := 57) C (tgt := 91) dX6_countVotes_57 rfl ?_ ?_
      · refine J.iinc (pc := 91) C (lv' := [(0, rv g a0), (1, rv g a1), (2, .int (x2 + 1)), (3, .int ((S.1 (S.2.1 a0 2) x2.toNatClampNeg) + 8))]) dX6_countVotes_91 rfl (Nat.le_of_ble_eq_true rfl) ki_1 rfl ?_
        refine J.goto (pc := 94) C (tgt := 26) dX6_countVotes_94 rfl ?_
        exact J.pick [0, 1, 2] rfl (hk26 _ _)
      · refine J.iload_n (pc := 60) C dX6_countVotes_60 rfl rfl ?_
        refine J.aload_n (pc := 61) C (x := a0) dX6_countVotes_61 rfl rfl ?_
        refine J.getR (pc := 62) C fl_RX6_21 rfl dX6_countVotes_62 ?_
        refine J.alen (pc := 65) C 10 (by decide) dX6_countVotes_65 ?_
        refine J.icmp_ge (pc := 66) C (tgt := 91) dX6_countVotes_66 rfl ?_ ?_
        · refine J.iinc (pc := 91) C (lv' := [(0, rv g a0), (1, rv g a1), (2, .int (x2 + 1)), (3, .int ((S.1 (S.2.1 a0 2) x2.toNatClampNeg) + 8))]) dX6_countVotes_91 rfl (Nat.le_of_ble_eq_true rfl) ki_1 rfl ?_
          refine J.goto (pc := 94) C (tgt := 26) dX6_countVotes_94 rfl ?_
          exact J.pick [0, 1, 2] rfl (hk26 _ _)
        · refine J.aload_n (pc := 69) C (x := a0) dX6_countVotes_69 rfl rfl ?_
          refine J.getR (pc := 70) C fl_RX6_21 rfl dX6_countVotes_70 ?_
          refine J.iload_n (pc := 73) C dX6_countVotes_73 rfl rfl ?_
          refine J.dup2 (pc := 74) C dX6_countVotes_74 rfl (rv_cat g _) ?_
          refine J.iald (pc := 75) C dX6_countVotes_75 ?_
          refine J.aload_n (pc := 76) C (x := a1) dX6_countVotes_76 rfl rfl ?_
          refine J.ifnonnull (pc := 77) C (tgt := 84) dX6_countVotes_77 rfl ?_ ?_
          · refine J.aload_n (pc := 84) C (x := a1) dX6_countVotes_84 rfl rfl ?_
            refine J.iload_n (pc := 85) C dX6_countVotes_85 rfl rfl ?_
            refine J.vI (pc := 86) C mv_X3_weightOf wm_RX6_55 (fun l => c_X3_weightOf l g S a1 x2) ⟨⟨Nat.zero_le _, Nat.zero_le _⟩, rfl, rfl⟩ rfl ⟨Nat.le_of_ble_eq_true rfl, Nat.le_of_ble_eq_true rfl⟩ rfl (cat_i (cat_i (cat_r cat_n))) (Nat.le_of_ble_eq_true rfl) dX6_countVotes_86 (fun r3 => ?_)
            refine J.iadd (pc := 89) C dX6_countVotes_89 ?_
            refine J.iasts (pc := 90) C dX6_countVotes_90 (fun S_4 => ?_)
            refine J.iinc (pc := 91) C (lv' := [(0, rv g a0), (1, rv g a1), (2, .int (x2 + 1)), (3, .int ((S.1 (S.2.1 a0 2) x2.toNatClampNeg) + 8))]) dX6_countVotes_91 rfl (Nat.le_of_ble_eq_true rfl) ki_1 rfl ?_
            refine J.goto (pc := 94) C (tgt := 26) dX6_countVotes_94 rfl ?_
            exact J.pick [0, 1, 2] rfl (hk26 _ _)
          · refine J.iconst (pc := 80) C dX6_countVotes_80 ki_1 ?_
            refine J.goto (pc := 81) C (tgt := 89) dX6_countVotes_81 rfl ?_
            refine J.iadd (pc := 89) C dX6_countVotes_89 ?_
            refine J.iasts (pc := 90) C dX6_countVotes_90 (fun S_5 => ?_)
            refine J.iinc (pc := 91) C (lv' := [(0, rv g a0), (1, rv g a1), (2, .int (x2 + 1)), (3, .int ((S.1 (S.2.1 a0 2) x2.toNatClampNeg) + 8))]) dX6_countVotes_91 rfl (Nat.le_of_ble_eq_true rfl) ki_1 rfl ?_
            refine J.goto (pc := 94) C (tgt := 26) dX6_countVotes_94 rfl ?_
            exact J.pick [0, 1, 2] rfl (hk26 _ _)
def f_X6_countVotes (S : St) (a0 : Nat) (a1 : Nat) : Option St :=
  (wl2 (f_X6_countVotes_B2 a0 a1 (fun (S_2 : St) => (wl2 (f_X6_countVotes_B26 a0 a1 (fun (S_6 : St) => (some S_6))) FU S_2 0))) FU S 0)
set_option maxRecDepth 100000 in
set_option maxHeartbeats 4000000 in
theorem c_X6_countVotes (l : Launch) (g : GG) (S : St) (a0 : Nat) (a1 : Nat) : Ct l yX6_countVotes cX6_countVotes 4 none rm_X6_countVotes g aU pU [rv g a0, rv g a1] S (f_X6_countVotes S a0 a1) := by
  refine Ct.mk (cf := cw (0, 0)) (by decide +kernel) (cat_r (cat_r cat_n)) (Nat.le_of_ble_eq_true rfl) rfl ?_
  intro X hXl hin C
  show J X g _ _ 0 [(0, rv g a0), (1, rv g a1)] [] S (f_X6_countVotes S a0 a1)
  unfold f_X6_countVotes
  refine J.iconst (pc := 0) C dX6_countVotes_0 ki_0 ?_
  refine J.istore_n (pc := 1) C (lv' := [(0, rv g a0), (1, rv g a1), (2, .int 0)]) dX6_countVotes_1 rfl (Nat.le_of_ble_eq_true rfl) rfl ?_
  refine w_X6_countVotes_B2 C _ _ _ (fun S_2 => ?_) FU _ _
  refine J.iconst (pc := 24) C dX6_countVotes_24 ki_0 ?_
  refine J.istore_n (pc := 25) C (lv' := [(0, rv g a0), (1, rv g a1), (2, .int 0)]) dX6_countVotes_25 rfl (Nat.le_of_ble_eq_true rfl) rfl ?_
  refine w_X6_countVotes_B26 C _ _ _ (fun S_6 => ?_) FU _ _
  exact J.vret (pc := 97) C rfl rfl ⟨Nat.le_refl _, Nat.le_refl _⟩ dX6_countVotes_97
abbrev rm_X7_bestShift : Room := { frames := 1, cells := 0, slots := 0, locals := 20 }
def f_X7_bestShift_B19 (a0 : Int32) (a1 : Int32) (kx19 : Int32 → Option Int32) (k19 : Int32 → Int32 → Int32 → Option Int32) (x2 : Int32) (x3 : Int32) (x4 : Int32) : Option Int32 :=
  (if (8 : Int32) < x4 then
  (kx19 x2)
  else (bnd (f_J6_bitCount_0f7a4 ((a0 >>> (x4 &&& 31)) &&& a1)) fun r1 =>
  (bnd (f_J6_bitCount_0f7a4 ((a0 <<< (x4 &&& 31)) &&& a1)) fun r2 =>
  (if r1 ≤ x3 then
  (if r2 ≤ x3 then
  (k19 x2 x3 (x4 + 1))
  else (k19 x4 r2 (x4 + 1)))
  else (if r2 ≤ r1 then
  (k19 (-x4) r1 (x4 + 1))
  else (k19 x4 r2 (x4 + 1)))))))
set_option maxRecDepth 100000 in
set_option maxHeartbeats 4000000 in
theorem w_X7_bestShift_B19 {X : CT} {g : GG} (C : CX X g cX7_bestShift RX7 (some .int) 7 rm_X7_bestShift) (S : St) (a0 : Int32) (a1 : Int32) (kx19 : Int32 → Option Int32) (hkx19 : ∀ (x2 : Int32), J X g (Qm X g aI (pK S)) (cw (0, 0)) 79 [(2, .int x2)] [] S (kx19 x2)) : ∀ (n : Nat) (x2 : Int32) (x3 : Int32) (x4 : Int32), J X g (Qm X g aI (pK S)) (cw (0, 0)) 19 [(0, .int a0), (1, .int a1), (2, .int x2), (3, .int x3), (4, .int x4)] [] S (wl3 (f_X7_bestShift_B19 a0 a1 kx19) n x2 x3 x4) := by
  refine J.loop3 (lvf := fun (x2 : Int32) (x3 : Int32) (x4 : Int32) => [(0, .int a0), (1, .int a1), (2, .int x2), (3, .int x3), (4, .int x4)]) (Sf := fun (x2 : Int32) (x3 : Int32) (x4 : Int32) => S) ?_
  intro k19 hk19 x2 x3 x4
  show J X g _ _ 19 [(0, .int a0), (1, .int a1), (2, .int x2), (3, .int x3), (4, .int x4)] [] S (f_X7_bestShift_B19 a0 a1 kx19 k19 x2 x3 x4)
  unfold f_X7_bestShift_B19
  refine J.iload (pc := 19) C dX7_bestShift_19 rfl ?_
  refine J.bipush (pc := 21) C dX7_bestShift_21 kb_8 ?_
  refine J.icmp_gt (pc := 23) C (tgt := 79) dX7_bestShift_23 rfl ?_ ?_
  · exact J.pick [2] rfl (hkx19 _)
  · refine J.iload_n (pc := 26) C dX7_bestShift_26 rfl rfl ?_
    refine J.iload (pc := 27) C dX7_bestShift_27 rfl ?_
    refine J.ishr (pc := 29) C dX7_bestShift_29 ?_
    refine J.iload_n (pc := 30) C dX7_bestShift_30 rfl rfl ?_
    refine J.iand (pc := 31) C dX7_bestShift_31 ?_
    refine J.sI (pc := 32) C ms_J6_bitCount_0f7a4 wm_RX7_126 (fun l => c_J6_bitCount_0f7a4 l g S ((a0 >>> (x4 &&& 31)) &&& a1)) ⟨⟨Nat.zero_le _, Nat.zero_le _⟩, rfl, rfl⟩ rfl ⟨Nat.le_of_ble_eq_true rfl, Nat.le_of_ble_eq_true rfl⟩ rfl cat_n (Nat.le_of_ble_eq_true rfl) dX7_bestShift_32 (fun r1 => ?_)
    refine J.istore (pc := 35) C (lv' := [(0, .int a0), (1, .int a1), (2, .int x2), (3, .int x3), (4, .int x4), (5, .int r1)]) dX7_bestShift_35 (Nat.le_of_ble_eq_true rfl) rfl ?_
    refine J.iload_n (pc := 37) C dX7_bestShift_37 rfl rfl ?_
    refine J.iload (pc := 38) C dX7_bestShift_38 rfl ?_
    refine J.ishl (pc := 40) C dX7_bestShift_40 ?_
    refine J.iload_n (pc := 41) C dX7_bestShift_41 rfl rfl ?_
    refine J.iand (pc := 42) C dX7_bestShift_42 ?_
    refine J.sI (pc := 43) C ms_J6_bitCount_0f7a4 wm_RX7_126 (fun l => c_J6_bitCount_0f7a4 l g S ((a0 <<< (x4 &&& 31)) &&& a1)) ⟨⟨Nat.zero_le _, Nat.zero_le _⟩, rfl, rfl⟩ rfl ⟨Nat.le_of_ble_eq_true rfl, Nat.le_of_ble_eq_true rfl⟩ rfl cat_n (Nat.le_of_ble_eq_true rfl) dX7_bestShift_43 (fun r2 => ?_)
    refine J.istore (pc := 46) C (lv' := [(0, .int a0), (1, .int a1), (2, .int x2), (3, .int x3), (4, .int x4), (5, .int r1), (6, .int r2)]) dX7_bestShift_46 (Nat.le_of_ble_eq_true rfl) rfl ?_
    refine J.iload (pc := 48) C dX7_bestShift_48 rfl ?_
    refine J.iload_n (pc := 50) C dX7_bestShift_50 rfl rfl ?_
    refine J.icmp_le (pc := 51) C (tgt := 61) dX7_bestShift_51 rfl ?_ ?_
    · refine J.iload (pc := 61) C dX7_bestShift_61 rfl ?_
      refine J.iload_n (pc := 63) C dX7_bestShift_63 rfl rfl ?_
      refine J.icmp_le (pc := 64) C (tgt := 73) dX7_bestShift_64 rfl ?_ ?_
      · refine J.iinc (pc := 73) C (lv' := [(0, .int a0), (1, .int a1), (2, .int x2), (3, .int x3), (4, .int (x4 + 1)), (5, .int r1), (6, .int r2)]) dX7_bestShift_73 rfl (Nat.le_of_ble_eq_true rfl) ki_1 rfl ?_
        refine J.goto (pc := 76) C (tgt := 19) dX7_bestShift_76 rfl ?_
        exact J.pick [0, 1, 2, 3, 4] rfl (hk19 _ _ _)
      · refine J.iload (pc := 67) C dX7_bestShift_67 rfl ?_
        refine J.istore_n (pc := 69) C (lv' := [(0, .int a0), (1, .int a1), (2, .int x4), (3, .int x3), (4, .int x4), (5, .int r1), (6, .int r2)]) dX7_bestShift_69 rfl (Nat.le_of_ble_eq_true rfl) rfl ?_
        refine J.iload (pc := 70) C dX7_bestShift_70 rfl ?_
        refine J.istore_n (pc := 72) C (lv' := [(0, .int a0), (1, .int a1), (2, .int x4), (3, .int r2), (4, .int x4), (5, .int r1), (6, .int r2)]) dX7_bestShift_72 rfl (Nat.le_of_ble_eq_true rfl) rfl ?_
        refine J.iinc (pc := 73) C (lv' := [(0, .int a0), (1, .int a1), (2, .int x4), (3, .int r2), (4, .int (x4 + 1)), (5, .int r1), (6, .int r2)]) dX7_bestShift_73 rfl (Nat.le_of_ble_eq_true rfl) ki_1 rfl ?_
        refine J.goto (pc := 76) C (tgt := 19) dX7_bestShift_76 rfl ?_
        exact J.pick [0, 1, 2, 3, 4] rfl (hk19 _ _ _)
    · refine J.iload (pc := 54) C dX7_bestShift_54 rfl ?_
      refine J.ineg (pc := 56) C dX7_bestShift_56 ?_
      refine J.istore_n (pc := 57) C (lv' := [(0, .int a0), (1, .int a1), (2, .int (-x4)), (3, .int x3), (4, .int x4), (5, .int r1), (6, .int r2)]) dX7_bestShift_57 rfl (Nat.le_of_ble_eq_true rfl) rfl ?_
      refine J.iload (pc := 58) C dX7_bestShift_58 rfl ?_
      refine J.istore_n (pc := 60) C (lv' := [(0, .int a0), (1, .int a1), (2, .int (-x4)), (3, .int r1), (4, .int x4), (5, .int r1), (6, .int r2)]) dX7_bestShift_60 rfl (Nat.le_of_ble_eq_true rfl) rfl ?_
      refine J.iload (pc := 61) C dX7_bestShift_61 rfl ?_
      refine J.iload_n (pc := 63) C dX7_bestShift_63 rfl rfl ?_
      refine J.icmp_le (pc := 64) C (tgt := 73) dX7_bestShift_64 rfl ?_ ?_
      · refine J.iinc (pc := 73) C (lv' := [(0, .int a0), (1, .int a1), (2, .int (-x4)), (3, .int r1), (4, .int (x4 + 1)), (5, .int r1), (6, .int r2)]) dX7_bestShift_73 rfl (Nat.le_of_ble_eq_true rfl) ki_1 rfl ?_
        refine J.goto (pc := 76) C (tgt := 19) dX7_bestShift_76 rfl ?_
        exact J.pick [0, 1, 2, 3, 4] rfl (hk19 _ _ _)
      · refine J.iload (pc := 67) C dX7_bestShift_67 rfl ?_
        refine J.istore_n (pc := 69) C (lv' := [(0, .int a0), (1, .int a1), (2, .int x4), (3, .int r1), (4, .int x4), (5, .int r1), (6, .int r2)]) dX7_bestShift_69 rfl (Nat.le_of_ble_eq_true rfl) rfl ?_
        refine J.iload (pc := 70) C dX7_bestShift_70 rfl ?_
        refine J.istore_n (pc := 72) C (lv' := [(0, .int a0), (1, .int a1), (2, .int x4), (3, .int r2), (4, .int x4), (5, .int r1), (6, .int r2)]) dX7_bestShift_72 rfl (Nat.le_of_ble_eq_true rfl) rfl ?_
        refine J.iinc (pc := 73) C (lv' := [(0, .int a0), (1, .int a1), (2, .int x4), (3, .int r2), (4, .int (x4 + 1)), (5, .int r1), (6, .int r2)]) dX7_bestShift_73 rfl (Nat.le_of_ble_eq_true rfl) ki_1 rfl ?_
        refine J.goto (pc := 76) C (tgt := 19) dX7_bestShift_76 rfl ?_
        exact J.pick [0, 1, 2, 3, 4] rfl (hk19 _ _ _)
def f_X7_bestShift (a0 : Int32) (a1 : Int32) : Option Int32 :=
  (if a0 = 0 then
  (some (-10000004))
  else (if a1 = 0 then
  (some (-10000004))
  else (wl3 (f_X7_bestShift_B19 a0 a1 (fun (y2_3 : Int32) => (some y2_3))) FU (-10000004) 0 0)))
set_option maxRecDepth 100000 in
set_option maxHeartbeats 4000000 in
theorem c_X7_bestShift (l : Launch) (g : GG) (S : St) (a0 : Int32) (a1 : Int32) : Ct l yX7_bestShift cX7_bestShift 7 (some .int) rm_X7_bestShift g aI (pK S) [.int a0, .int a1] S (f_X7_bestShift a0 a1) := by
  refine Ct.mk (cf := cw (0, 0)) (by decide +kernel) (cat_i (cat_i cat_n)) (Nat.le_of_ble_eq_true rfl) rfl ?_
  intro X hXl hin C
  show J X g _ _ 0 [(0, .int a0), (1, .int a1)] [] S (f_X7_bestShift a0 a1)
  unfold f_X7_bestShift
  refine J.ldc (pc := 0) C wc_RX7_163 dX7_bestShift_0 ?_
  refine J.istore_n (pc := 2) C (lv' := [(0, .int a0), (1, .int a1), (2, .int (-10000004))]) dX7_bestShift_2 rfl (Nat.le_of_ble_eq_true rfl) rfl ?_
  refine J.iconst (pc := 3) C dX7_bestShift_3 ki_0 ?_
  refine J.istore_n (pc := 4) C (lv' := [(0, .int a0), (1, .int a1), (2, .int (-10000004)), (3, .int 0)]) dX7_bestShift_4 rfl (Nat.le_of_ble_eq_true rfl) rfl ?_
  refine J.iload_n (pc := 5) C dX7_bestShift_5 rfl rfl ?_
  refine J.if_eq (pc := 6) C (tgt := 13) dX7_bestShift_6 rfl ?_ ?_
  · refine J.ldc (pc := 13) C wc_RX7_163 dX7_bestShift_13 ?_
    exact J.iret (pc := 15) C rfl rfl ⟨Nat.le_refl _, Nat.le_refl _⟩ dX7_bestShift_15
  · refine J.iload_n (pc := 9) C dX7_bestShift_9 rfl rfl ?_
    refine J.if_ne (pc := 10) C (tgt := 16) dX7_bestShift_10 rfl ?_ ?_
    · refine J.iconst (pc := 16) C dX7_bestShift_16 ki_0 ?_
      refine J.istore (pc := 17) C (lv' := [(0, .int a0), (1, .int a1), (2, .int (-10000004)), (3, .int 0), (4, .int 0)]) dX7_bestShift_17 (Nat.le_of_ble_eq_true rfl) rfl ?_
      refine w_X7_bestShift_B19 C _ _ _ _ (fun y2_3 => ?_) FU _ _ _
      refine J.iload_n (pc := 79) C dX7_bestShift_79 rfl rfl ?_
      exact J.iret (pc := 80) C rfl rfl ⟨Nat.le_refl _, Nat.le_refl _⟩ dX7_bestShift_80
    · refine J.ldc (pc := 13) C wc_RX7_163 dX7_bestShift_13 ?_
      exact J.iret (pc := 15) C rfl rfl ⟨Nat.le_refl _, Nat.le_refl _⟩ dX7_bestShift_15
abbrev rm_X6_voteOnShift : Room := { frames := 3, cells := 0, slots := 0, locals := 65 }
def f_X6_voteOnShift_B2 (a0 : Nat) (kx2 : St → Option St) (k2 : St → Int32 → Option St) (S : St) (x1 : Int32) : Option St :=
  (chk (okc S 6 a0)
  (chk (okc S 10 (S.2.1 a0 2))
  (if (Int32.ofNat (ln (S.2.1 a0 2))) ≤ x1 then
  (kx2 S)
  else (chk (okc S 6 a0)
  (chk (okc S 6 a0)
  (bnd (f_X7_numberIn S (S.2.1 a0 0) x1) fun r1 =>
  (chk (okc S 6 a0)
  (bnd (f_X7_numberIn S (S.2.1 a0 1) x1) fun r2 =>
  (bnd (f_X7_bestShift r1 r2) fun r3 =>
  (chk (inw S 10 (S.2.1 a0 2) x1) (vlt (upI S (S.2.1 a0 2) x1.toNatClampNeg r3) fun S_4 =>
  (k2 S_4 (x1 + 1)))))))))))))
set_option maxRecDepth 100000 in
set_option maxHeartbeats 4000000 in
theorem w_X6_voteOnShift_B2 {X : CT} {g : GG} (C : CX X g cX6_voteOnShift RX6 none 2 rm_X6_voteOnShift) (a0 : Nat) (kx2 : St → Option St) (hkx2 : ∀ (S : St), J X g (Qm X g aU pU) (cw (0, 0)) 42 [(0, rv g a0)] [] S (kx2 S)) : ∀ (n : Nat) (S : St) (x1 : Int32), J X g (Qm X g aU pU) (cw (0, 0)) 2 [(0, rv g a0), (1, .int x1)] [] S (wl2 (f_X6_voteOnShift_B2 a0 kx2) n S x1) := by
  refine J.loop2 (lvf := fun (S : St) (x1 : Int32) => [(0, rv g a0), (1, .int x1)]) (Sf := fun (S : St) (x1 : Int32) => S) ?_
  intro k2 hk2 S x1
  show J X g _ _ 2 [(0, rv g a0), (1, .int x1)] [] S (f_X6_voteOnShift_B2 a0 kx2 k2 S x1)
  unfold f_X6_voteOnShift_B2
  refine J.iload_n (pc := 2) C dX6_voteOnShift_2 rfl rfl ?_
  refine J.aload_n (pc := 3) C (x := a0) dX6_voteOnShift_3 rfl rfl ?_
  refine J.getR (pc := 4) C fl_RX6_18 rfl dX6_voteOnShift_4 ?_
  refine J.alen (pc := 7) C 10 (by decide) dX6_voteOnShift_7 ?_
  refine J.icmp_ge (pc := 8) C (tgt := 42) dX6_voteOnShift_8 rfl ?_ ?_
  · exact J.pick [0] rfl (hkx2 _)
  · refine J.aload_n (pc := 11) C (x := a0) dX6_voteOnShift_11 rfl rfl ?_
    refine J.getR (pc := 12) C fl_RX6_18 rfl dX6_voteOnShift_12 ?_
    refine J.iload_n (pc := 15) C dX6_voteOnShift_15 rfl rfl ?_
    refine J.aload_n (pc := 16) C (x := a0) dX6_voteOnShift_16 rfl rfl ?_
    refine J.getR (pc := 17) C fl_RX6_9 rfl dX6_voteOnShift_17 ?_
    refine J.iload_n (pc := 20) C dX6_voteOnShift_20 rfl rfl ?_
    refine J.snI (pc := 21) C ms_X7_numberIn wn_RX6_38 (fun l => c_X7_numberIn l g S (S.2.1 a0 0) x1) ⟨⟨Nat.zero_le _, Nat.zero_le _⟩, rfl, rfl⟩ rfl ⟨Nat.le_of_ble_eq_true rfl, Nat.le_of_ble_eq_true rfl⟩ rfl (cat_i (cat_r cat_n)) (Nat.le_of_ble_eq_true rfl) dX6_voteOnShift_21 (fun r1 => ?_)
    refine J.aload_n (pc := 24) C (x := a0) dX6_voteOnShift_24 rfl rfl ?_
    refine J.getR (pc := 25) C fl_RX6_15 rfl dX6_voteOnShift_25 ?_
    refine J.iload_n (pc := 28) C dX6_voteOnShift_28 rfl rfl ?_
    refine J.snI (pc := 29) C ms_X7_numberIn wn_RX6_38 (fun l => c_X7_numberIn l g S (S.2.1 a0 1) x1) ⟨⟨Nat.zero_le _, Nat.zero_le _⟩, rfl, rfl⟩ rfl ⟨Nat.le_of_ble_eq_true rfl, Nat.le_of_ble_eq_true rfl⟩ rfl (cat_i (cat_i (cat_r cat_n))) (Nat.le_of_ble_eq_true rfl) dX6_voteOnShift_29 (fun r2 => ?_)
    refine J.snI (pc := 32) C ms_X7_bestShift wn_RX6_42 (fun l => c_X7_bestShift l g S r1 r2) ⟨⟨Nat.zero_le _, Nat.zero_le _⟩, rfl, rfl⟩ rfl ⟨Nat.le_of_ble_eq_true rfl, Nat.le_of_ble_eq_true rfl⟩ rfl (cat_i (cat_r cat_n)) (Nat.le_of_ble_eq_true rfl) dX6_voteOnShift_32 (fun r3 => ?_)
    refine J.iasts (pc := 35) C dX6_voteOnShift_35 (fun S_4 => ?_)
    refine J.iinc (pc := 36) C (lv' := [(0, rv g a0), (1, .int (x1 + 1))]) dX6_voteOnShift_36 rfl (Nat.le_of_ble_eq_true rfl) ki_1 rfl ?_
    refine J.goto (pc := 39) C (tgt := 2) dX6_voteOnShift_39 rfl ?_
    exact (hk2 _ _)
def f_X6_voteOnShift (S : St) (a0 : Nat) : Option St :=
  (wl2 (f_X6_voteOnShift_B2 a0 (fun (S_5 : St) => (chk (okc S_5 6 a0) (bnd (f_X6_countVotes S_5 a0 0) fun S_6 =>
  (some S_6))))) FU S 0)
set_option maxRecDepth 100000 in
set_option maxHeartbeats 4000000 in
theorem c_X6_voteOnShift (l : Launch) (g : GG) (S : St) (a0 : Nat) : Ct l yX6_voteOnShift cX6_voteOnShift 2 none rm_X6_voteOnShift g aU pU [rv g a0] S (f_X6_voteOnShift S a0) := by
  refine Ct.mk (cf := cw (0, 0)) (by decide +kernel) (cat_r cat_n) (Nat.le_of_ble_eq_true rfl) rfl ?_
  intro X hXl hin C
  show J X g _ _ 0 [(0, rv g a0)] [] S (f_X6_voteOnShift S a0)
  unfold f_X6_voteOnShift
  refine J.iconst (pc := 0) C dX6_voteOnShift_0 ki_0 ?_
  refine J.istore_n (pc := 1) C (lv' := [(0, rv g a0), (1, .int 0)]) dX6_voteOnShift_1 rfl (Nat.le_of_ble_eq_true rfl) rfl ?_
  refine w_X6_voteOnShift_B2 C _ _ (fun S_5 => ?_) FU _ _
  refine J.aload_n (pc := 42) C (x := a0) dX6_voteOnShift_42 rfl rfl ?_
  refine J.anull (pc := 43) C dX6_voteOnShift_43 ?_
  refine J.vU (pc := 44) C mv_X6_countVotes wm_RX6_46 (fun l => c_X6_countVotes l g S_5 a0 0) ⟨⟨Nat.zero_le _, Nat.zero_le _⟩, rfl, rfl⟩ rfl ⟨Nat.le_of_ble_eq_true rfl, Nat.le_of_ble_eq_true rfl⟩ rfl cat_n (Nat.le_of_ble_eq_true rfl) dX6_voteOnShift_44 (fun S_6 => ?_)
  exact J.vret (pc := 47) C rfl rfl ⟨Nat.le_refl _, Nat.le_refl _⟩ dX6_voteOnShift_47
abbrev rm_X7_isWithin : Room := { frames := 0, cells := 0, slots := 0, locals := 0 }
def f_X7_isWithin (a0 : Int32) (a1 : Int32) (a2 : Int32) : Option Int32 :=
  (if a0 < a1 then
  (some 0)
  else (if a2 < a0 then
  (some 0)
  else (some 1)))
set_option maxRecDepth 100000 in
set_option maxHeartbeats 4000000 in
theorem c_X7_isWithin (l : Launch) (g : GG) (S : St) (a0 : Int32) (a1 : Int32) (a2 : Int32) : Ct l yX7_isWithin cX7_isWithin 3 (some .boolean) rm_X7_isWithin g aI (pK S) [.int a0, .int a1, .int a2] S (f_X7_isWithin a0 a1 a2) := by
  refine Ct.mk (cf := cw (0, 0)) (by decide +kernel) (cat_i (cat_i (cat_i cat_n))) (Nat.le_of_ble_eq_true rfl) rfl ?_
  intro X hXl hin C
  show J X g _ _ 0 [(0, .int a0), (1, .int a1), (2, .int a2)] [] S (f_X7_isWithin a0 a1 a2)
  unfold f_X7_isWithin
  refine J.iload_n (pc := 0) C dX7_isWithin_0 rfl rfl ?_
  refine J.iload_n (pc := 1) C dX7_isWithin_1 rfl rfl ?_
  refine J.icmp_lt (pc := 2) C (tgt := 14) dX7_isWithin_2 rfl ?_ ?_
  · refine J.iconst (pc := 14) C dX7_isWithin_14 ki_0 ?_
    exact J.zret (pc := 15) C rfl rfl rfl ⟨Nat.le_refl _, Nat.le_refl _⟩ dX7_isWithin_15
  · refine J.iload_n (pc := 5) C dX7_isWithin_5 rfl rfl ?_
    refine J.iload_n (pc := 6) C dX7_isWithin_6 rfl rfl ?_
    refine J.icmp_gt (pc := 7) C (tgt := 14) dX7_isWithin_7 rfl ?_ ?_
    · refine J.iconst (pc := 14) C dX7_isWithin_14 ki_0 ?_
      exact J.zret (pc := 15) C rfl rfl rfl ⟨Nat.le_refl _, Nat.le_refl _⟩ dX7_isWithin_15
    · refine J.iconst (pc := 10) C dX7_isWithin_10 ki_1 ?_
      refine J.goto (pc := 11) C (tgt := 15) dX7_isWithin_11 rfl ?_
      exact J.zret (pc := 15) C rfl rfl rfl ⟨Nat.le_refl _, Nat.le_refl _⟩ dX7_isWithin_15
abbrev rm_X7_bestWait : Room := { frames := 5, cells := 0, slots := 0, locals := 116 }
def f_X7_bestWait_B47 (a0 : Nat) (a2 : Int32) (kx47 : St → Int32 → Int32 → Option (Int32 × St)) (k47 : St → Int32 → Int32 → Int32 → Option (Int32 × St)) (S : St) (x4 : Int32) (x5 : Int32) (x6 : Int32) : Option (Int32 × St) :=
  (if (40 : Int32) < x6 then
  (kx47 S x4 x5)
  else (chk (okc S 7 a0)
  (chk (okc S 7 a0)
  (chk (okc S 7 a0)
  (chk (okc S 3 (S.2.1 a0 0))
  (chk (okc S 7 a0)
  (chk (okc S 3 (S.2.1 a0 0)) (bnd (f_X3_photograph S (S.2.1 a0 0) (S.2.1 a0 6) ((S.1 (S.2.1 a0 0) 6) + x6) (S.2.1 a0 7)) fun S_4 =>
  (chk (okc S_4 7 a0)
  (chk (okc S_4 7 a0)
  (chk (okc S_4 7 a0)
  (chk (okc S_4 6 (S_4.2.1 a0 4)) (bnd (f_X6_readSecond S_4 (S_4.2.1 a0 4) (S_4.2.1 a0 0) (S_4.2.1 a0 6)) fun S_5 =>
  (chk (okc S_5 7 a0)
  (chk (okc S_5 6 (S_5.2.1 a0 4)) (bnd (f_X6_voteOnShift S_5 (S_5.2.1 a0 4)) fun S_6 =>
  (chk (okc S_6 7 a0)
  (chk (okc S_6 6 (S_6.2.1 a0 4)) (bnd (f_X6_told S_6 (S_6.2.1 a0 4)) fun r7 =>
  (if r7 = (-10000004) then
  (k47 S_6 x4 x5 (x6 + 1))
  else (chk (okc S_6 7 a0)
  (chk (okc S_6 6 (S_6.2.1 a0 4)) (bnd (f_X6_mostVotes S_6 (S_6.2.1 a0 4)) fun r8 =>
  (if r8 ≤ x5 then
  (k47 S_6 x4 x5 (x6 + 1))
  else (chk (okc S_6 7 a0)
  (chk (okc S_6 6 (S_6.2.1 a0 4)) (bnd (f_X6_mostVotes S_6 (S_6.2.1 a0 4)) fun r9 =>
  (k47 S_6 x6 r9 (x6 + 1)))))))))))))))))))))))))))))
set_option maxRecDepth 100000 in
set_option maxHeartbeats 4000000 in
theorem w_X7_bestWait_B47 {X : CT} {g : GG} (C : CX X g cX7_bestWait RX7 (some .int) 7 rm_X7_bestWait) (a0 : Nat) (a2 : Int32) (kx47 : St → Int32 → Int32 → Option (Int32 × St)) (hkx47 : ∀ (S : St) (x4 : Int32) (x5 : Int32), J X g (Qm X g aW pW) (cw (0, 0)) 144 [(2, .int a2), (4, .int x4), (5, .int x5)] [] S (kx47 S x4 x5)) : ∀ (n : Nat) (S : St) (x4 : Int32) (x5 : Int32) (x6 : Int32), J X g (Qm X g aW pW) (cw (0, 0)) 47 [(0, rv g a0), (2, .int a2), (4, .int x4), (5, .int x5), (6, .int x6)] [] S (wl4 (f_X7_bestWait_B47 a0 a2 kx47) n S x4 x5 x6) := by
  refine J.loop4 (lvf := fun (S : St) (x4 : Int32) (x5 : Int32) (x6 : Int32) => [(0, rv g a0), (2, .int a2), (4, .int x4), (5, .int x5), (6, .int x6)]) (Sf := fun (S : St) (x4 : Int32) (x5 : Int32) (x6 : Int32) => S) ?_
  intro k47 hk47 S x4 x5 x6
  show J X g _ _ 47 [(0, rv g a0), (2, .int a2), (4, .int x4), (5, .int x5), (6, .int x6)] [] S (f_X7_bestWait_B47 a0 a2 kx47 k47 S x4 x5 x6)
  unfold f_X7_bestWait_B47
  refine J.iload (pc := 47) C dX7_bestWait_47 rfl ?_
  refine J.bipush (pc := 49) C dX7_bestWait_49 kb_40 ?_
  refine J.icmp_gt (pc := 51) C (tgt := 144) dX7_bestWait_51 rfl ?_ ?_
  · exact J.pick [1, 2, 3] rfl (hkx47 _ _ _)
  · refine J.aload_n (pc := 54) C (x := a0) dX7_bestWait_54 rfl rfl ?_
    refine J.getR (pc := 55) C fl_RX7_12 rfl dX7_bestWait_55 ?_
    refine J.aload_n (pc := 58) C (x := a0) dX7_bestWait_58 rfl rfl ?_
    refine J.getR (pc := 59) C fl_RX7_48 rfl dX7_bestWait_59 ?_
    refine J.aload_n (pc := 62) C (x := a0) dX7_bestWait_62 rfl rfl ?_
    refine J.getR (pc := 63) C fl_RX7_12 rfl dX7_bestWait_63 ?_
    refine J.getI (pc := 66) C fl_RX7_107 rfl dX7_bestWait_66 ?_
    refine J.iload (pc := 69) C dX7_bestWait_69 rfl ?_
    refine J.iadd (pc := 71) C dX7_bestWait_71 ?_
    refine J.aload_n (pc := 72) C (x := a0) dX7_bestWait_72 rfl rfl ?_
    refine J.getR (pc := 73) C fl_RX7_52 rfl dX7_bestWait_73 ?_
    refine J.vU (pc := 76) C mv_X3_photograph wm_RX7_213 (fun l => c_X3_photograph l g S (S.2.1 a0 0) (S.2.1 a0 6) ((S.1 (S.2.1 a0 0) 6) + x6) (S.2.1 a0 7)) ⟨⟨Nat.zero_le _, Nat.zero_le _⟩, rfl, rfl⟩ rfl ⟨Nat.le_of_ble_eq_true rfl, Nat.le_of_ble_eq_true rfl⟩ rfl cat_n (Nat.le_of_ble_eq_true rfl) dX7_bestWait_76 (fun S_4 => ?_)
    refine J.aload_n (pc := 79) C (x := a0) dX7_bestWait_79 rfl rfl ?_
    refine J.getR (pc := 80) C fl_RX7_34 rfl dX7_bestWait_80 ?_
    refine J.aload_n (pc := 83) C (x := a0) dX7_bestWait_83 rfl rfl ?_
    refine J.getR (pc := 84) C fl_RX7_12 rfl dX7_bestWait_84 ?_
    refine J.aload_n (pc := 87) C (x := a0) dX7_bestWait_87 rfl rfl ?_
    refine J.getR (pc := 88) C fl_RX7_48 rfl dX7_bestWait_88 ?_
    refine J.vU (pc := 91) C mv_X6_readSecond wm_RX7_217 (fun l => c_X6_readSecond l g S_4 (S_4.2.1 a0 4) (S_4.2.1 a0 0) (S_4.2.1 a0 6)) ⟨⟨Nat.zero_le _, Nat.zero_le _⟩, rfl, rfl⟩ rfl ⟨Nat.le_of_ble_eq_true rfl, Nat.le_of_ble_eq_true rfl⟩ rfl cat_n (Nat.le_of_ble_eq_true rfl) dX7_bestWait_91 (fun S_5 => ?_)
    refine J.aload_n (pc := 94) C (x := a0) dX7_bestWait_94 rfl rfl ?_
    refine J.getR (pc := 95) C fl_RX7_34 rfl dX7_bestWait_95 ?_
    refine J.vU (pc := 98) C mv_X6_voteOnShift wm_RX7_220 (fun l => c_X6_voteOnShift l g S_5 (S_5.2.1 a0 4)) ⟨⟨Nat.zero_le _, Nat.zero_le _⟩, rfl, rfl⟩ rfl ⟨Nat.le_of_ble_eq_true rfl, Nat.le_of_ble_eq_true rfl⟩ rfl cat_n (Nat.le_of_ble_eq_true rfl) dX7_bestWait_98 (fun S_6 => ?_)
    refine J.aload_n (pc := 101) C (x := a0) dX7_bestWait_101 rfl rfl ?_
    refine J.getR (pc := 102) C fl_RX7_34 rfl dX7_bestWait_102 ?_
    refine J.vI (pc := 105) C mv_X6_told wm_RX7_180 (fun l => c_X6_told l g S_6 (S_6.2.1 a0 4)) ⟨⟨Nat.zero_le _, Nat.zero_le _⟩, rfl, rfl⟩ rfl ⟨Nat.le_of_ble_eq_true rfl, Nat.le_of_ble_eq_true rfl⟩ rfl cat_n (Nat.le_of_ble_eq_true rfl) dX7_bestWait_105 (fun r7 => ?_)
    refine J.ldc (pc := 108) C wc_RX7_163 dX7_bestWait_108 ?_
    refine J.icmp_eq (pc := 110) C (tgt := 138) dX7_bestWait_110 rfl ?_ ?_
    · refine J.iinc (pc := 138) C (lv' := [(0, rv g a0), (2, .int a2), (4, .int x4), (5, .int x5), (6, .int (x6 + 1))]) dX7_bestWait_138 rfl (Nat.le_of_ble_eq_true rfl) ki_1 rfl ?_
      refine J.goto (pc := 141) C (tgt := 47) dX7_bestWait_141 rfl ?_
      exact (hk47 _ _ _ _)
    · refine J.aload_n (pc := 113) C (x := a0) dX7_bestWait_113 rfl rfl ?_
      refine J.getR (pc := 114) C fl_RX7_34 rfl dX7_bestWait_114 ?_
      refine J.vI (pc := 117) C mv_X6_mostVotes wm_RX7_223 (fun l => c_X6_mostVotes l g S_6 (S_6.2.1 a0 4)) ⟨⟨Nat.zero_le _, Nat.zero_le _⟩, rfl, rfl⟩ rfl ⟨Nat.le_of_ble_eq_true rfl, Nat.le_of_ble_eq_true rfl⟩ rfl cat_n (Nat.le_of_ble_eq_true rfl) dX7_bestWait_117 (fun r8 => ?_)
      refine J.iload (pc := 120) C dX7_bestWait_120 rfl ?_
      refine J.icmp_le (pc := 122) C (tgt := 138) dX7_bestWait_122 rfl ?_ ?_
      · refine J.iinc (pc := 138) C (lv' := [(0, rv g a0), (2, .int a2), (4, .int x4), (5, .int x5), (6, .int (x6 + 1))]) dX7_bestWait_138 rfl (Nat.le_of_ble_eq_true rfl) ki_1 rfl ?_
        refine J.goto (pc := 141) C (tgt := 47) dX7_bestWait_141 rfl ?_
        exact (hk47 _ _ _ _)
      · refine J.iload (pc := 125) C dX7_bestWait_125 rfl ?_
        refine J.istore (pc := 127) C (lv' := [(0, rv g a0), (2, .int a2), (4, .int x6), (5, .int x5), (6, .int x6)]) dX7_bestWait_127 (Nat.le_of_ble_eq_true rfl) rfl ?_
        refine J.aload_n (pc := 129) C (x := a0) dX7_bestWait_129 rfl rfl ?_
        refine J.getR (pc := 130) C fl_RX7_34 rfl dX7_bestWait_130 ?_
        refine J.vI (pc := 133) C mv_X6_mostVotes wm_RX7_223 (fun l => c_X6_mostVotes l g S_6 (S_6.2.1 a0 4)) ⟨⟨Nat.zero_le _, Nat.zero_le _⟩, rfl, rfl⟩ rfl ⟨Nat.le_of_ble_eq_true rfl, Nat.le_of_ble_eq_true rfl⟩ rfl cat_n (Nat.le_of_ble_eq_true rfl) dX7_bestWait_133 (fun r9 => ?_)
        refine J.istore (pc := 136) C (lv' := [(0, rv g a0), (2, .int a2), (4, .int x6), (5, .int r9), (6, .int x6)]) dX7_bestWait_136 (Nat.le_of_ble_eq_true rfl) rfl ?_
        refine J.iinc (pc := 138) C (lv' := [(0, rv g a0), (2, .int a2), (4, .int x6), (5, .int r9), (6, .int (x6 + 1))]) dX7_bestWait_138 rfl (Nat.le_of_ble_eq_true rfl) ki_1 rfl ?_
        refine J.goto (pc := 141) C (tgt := 47) dX7_bestWait_141 rfl ?_
        exact (hk47 _ _ _ _)
def f_X7_bestWait (S : St) (a0 : Nat) (a1 : Int32) (a2 : Int32) : Option (Int32 × St) :=
  (chk (okc S 7 a0)
  (chk (okc S 3 (S.2.1 a0 0)) (bnd (f_X3_frameAt S (S.2.1 a0 0) a1) fun r1 =>
  (if r1 = 0 then
  (some ((-10000001), S))
  else (bnd (f_X7_isWithin a2 0 1) fun r2 =>
  (if r2 = 0 then
  (some ((-10000001), S))
  else (chk (okc S 7 a0)
  (chk (okc S 7 a0)
  (chk (okc S 6 (S.2.1 a0 4)) (bnd (f_X6_readFirst S (S.2.1 a0 4) (S.2.1 a0 0) r1) fun S_3 =>
  (wl4 (f_X7_bestWait_B47 a0 a2 (fun (S_12 : St) (y4_10 : Int32) (y5_11 : Int32) => (if a2 = 1 then
  (if y4_10 = (-10000004) then
  (some (y4_10, S_12))
  else (some (y5_11, S_12)))
  else (some (y4_10, S_12))))) FU S_3 (-10000004) 0 1)))))))))))
set_option maxRecDepth 100000 in
set_option maxHeartbeats 4000000 in
theorem c_X7_bestWait (l : Launch) (g : GG) (S : St) (a0 : Nat) (a1 : Int32) (a2 : Int32) : Ct l yX7_bestWait cX7_bestWait 7 (some .int) rm_X7_bestWait g aW pW [rv g a0, .int a1, .int a2] S (f_X7_bestWait S a0 a1 a2) := by
  refine Ct.mk (cf := cw (0, 0)) (by decide +kernel) (cat_r (cat_i (cat_i cat_n))) (Nat.le_of_ble_eq_true rfl) rfl ?_
  intro X hXl hin C
  show J X g _ _ 0 [(0, rv g a0), (1, .int a1), (2, .int a2)] [] S (f_X7_bestWait S a0 a1 a2)
  unfold f_X7_bestWait
  refine J.aload_n (pc := 0) C (x := a0) dX7_bestWait_0 rfl rfl ?_
  refine J.getR (pc := 1) C fl_RX7_12 rfl dX7_bestWait_1 ?_
  refine J.iload_n (pc := 4) C dX7_bestWait_4 rfl rfl ?_
  refine J.vR (pc := 5) C mv_X3_frameAt wm_RX7_149 (fun l => c_X3_frameAt l g S (S.2.1 a0 0) a1) ⟨⟨Nat.zero_le _, Nat.zero_le _⟩, rfl, rfl⟩ rfl ⟨Nat.le_of_ble_eq_true rfl, Nat.le_of_ble_eq_true rfl⟩ rfl cat_n (Nat.le_of_ble_eq_true rfl) dX7_bestWait_5 (fun r1 => ?_)
  refine J.astore_n (pc := 8) C (lv' := [(0, rv g a0), (1, .int a1), (2, .int a2), (3, rv g r1)]) dX7_bestWait_8 rfl (Nat.le_of_ble_eq_true rfl) rfl ?_
  refine J.aload_n (pc := 9) C (x := r1) dX7_bestWait_9 rfl rfl ?_
  refine J.ifnull (pc := 10) C (tgt := 22) dX7_bestWait_10 rfl ?_ ?_
  · refine J.ldc (pc := 22) C wc_RX7_60 dX7_bestWait_22 ?_
    exact J.iret (pc := 24) C rfl rfl ⟨Nat.le_refl _, Nat.le_refl _⟩ dX7_bestWait_24
  · refine J.iload_n (pc := 13) C dX7_bestWait_13 rfl rfl ?_
    refine J.iconst (pc := 14) C dX7_bestWait_14 ki_0 ?_
    refine J.iconst (pc := 15) C dX7_bestWait_15 ki_1 ?_
    refine J.sI (pc := 16) C ms_X7_isWithin wm_RX7_56 (fun l => c_X7_isWithin l g S a2 0 1) ⟨⟨Nat.zero_le _, Nat.zero_le _⟩, rfl, rfl⟩ rfl ⟨Nat.le_of_ble_eq_true rfl, Nat.le_of_ble_eq_true rfl⟩ rfl cat_n (Nat.le_of_ble_eq_true rfl) dX7_bestWait_16 (fun r2 => ?_)
    refine J.if_ne (pc := 19) C (tgt := 25) dX7_bestWait_19 rfl ?_ ?_
    · refine J.ldc (pc := 25) C wc_RX7_163 dX7_bestWait_25 ?_
      refine J.istore (pc := 27) C (lv' := [(0, rv g a0), (1, .int a1), (2, .int a2), (3, rv g r1), (4, .int (-10000004))]) dX7_bestWait_27 (Nat.le_of_ble_eq_true rfl) rfl ?_
      refine J.iconst (pc := 29) C dX7_bestWait_29 ki_0 ?_
      refine J.istore (pc := 30) C (lv' := [(0, rv g a0), (1, .int a1), (2, .int a2), (3, rv g r1), (4, .int (-10000004)), (5, .int 0)]) dX7_bestWait_30 (Nat.le_of_ble_eq_true rfl) rfl ?_
      refine J.aload_n (pc := 32) C (x := a0) dX7_bestWait_32 rfl rfl ?_
      refine J.getR (pc := 33) C fl_RX7_34 rfl dX7_bestWait_33 ?_
      refine J.aload_n (pc := 36) C (x := a0) dX7_bestWait_36 rfl rfl ?_
      refine J.getR (pc := 37) C fl_RX7_12 rfl dX7_bestWait_37 ?_
      refine J.aload_n (pc := 40) C (x := r1) dX7_bestWait_40 rfl rfl ?_
      refine J.vU (pc := 41) C mv_X6_readFirst wm_RX7_210 (fun l => c_X6_readFirst l g S (S.2.1 a0 4) (S.2.1 a0 0) r1) ⟨⟨Nat.zero_le _, Nat.zero_le _⟩, rfl, rfl⟩ rfl ⟨Nat.le_of_ble_eq_true rfl, Nat.le_of_ble_eq_true rfl⟩ rfl cat_n (Nat.le_of_ble_eq_true rfl) dX7_bestWait_41 (fun S_3 => ?_)
      refine J.iconst (pc := 44) C dX7_bestWait_44 ki_1 ?_
      refine J.istore (pc := 45) C (lv' := [(0, rv g a0), (1, .int a1), (2, .int a2), (3, rv g r1), (4, .int (-10000004)), (5, .int 0), (6, .int 1)]) dX7_bestWait_45 (Nat.le_of_ble_eq_true rfl) rfl ?_
      refine J.pick [0, 2, 4, 5, 6] rfl ?_
      refine w_X7_bestWait_B47 C _ _ _ (fun S_12 y4_10 y5_11 => ?_) FU _ _ _ _
      refine J.iload_n (pc := 144) C dX7_bestWait_144 rfl rfl ?_
      refine J.iconst (pc := 145) C dX7_bestWait_145 ki_1 ?_
      refine J.icmp_ne (pc := 146) C (tgt := 161) dX7_bestWait_146 rfl ?_ ?_
      · refine J.iload (pc := 161) C dX7_bestWait_161 rfl ?_
        exact J.iret (pc := 163) C rfl rfl ⟨Nat.le_refl _, Nat.le_refl _⟩ dX7_bestWait_163
      · refine J.iload (pc := 149) C dX7_bestWait_149 rfl ?_
        refine J.ldc (pc := 151) C wc_RX7_163 dX7_bestWait_151 ?_
        refine J.icmp_eq (pc := 153) C (tgt := 161) dX7_bestWait_153 rfl ?_ ?_
        · refine J.iload (pc := 161) C dX7_bestWait_161 rfl ?_
          exact J.iret (pc := 163) C rfl rfl ⟨Nat.le_refl _, Nat.le_refl _⟩ dX7_bestWait_163
        · refine J.iload (pc := 156) C dX7_bestWait_156 rfl ?_
          refine J.goto (pc := 158) C (tgt := 163) dX7_bestWait_158 rfl ?_
          exact J.iret (pc := 163) C rfl rfl ⟨Nat.le_refl _, Nat.le_refl _⟩ dX7_bestWait_163
    · refine J.ldc (pc := 22) C wc_RX7_60 dX7_bestWait_22 ?_
      exact J.iret (pc := 24) C rfl rfl ⟨Nat.le_refl _, Nat.le_refl _⟩ dX7_bestWait_24
