abbrev rm_J6_bitCount_0f7a4 : Room := { frames := 0, cells := 0, slots := 0, locals := 0 }
def f_J6_bitCount_0f7a4 (a0 : Int32) : Option Int32 :=
  (vlt (a0 - (((a0.toUInt32 >>> ((1 : Int32).toUInt32 &&& Int32.toUInt32 31)).toInt32) &&& 1431655765)) fun v1 =>
  (vlt ((v1 &&& 858993459) + (((v1.toUInt32 >>> ((2 : Int32).toUInt32 &&& Int32.toUInt32 31)).toInt32) &&& 858993459)) fun v2 =>
  (vlt ((v2 + ((v2.toUInt32 >>> ((4 : Int32).toUInt32 &&& Int32.toUInt32 31)).toInt32)) &&& 252645135) fun v3 =>
  (vlt (v3 + ((v3.toUInt32 >>> ((8 : Int32).toUInt32 &&& Int32.toUInt32 31)).toInt32)) fun v4 =>
  (vlt (v4 + ((v4.toUInt32 >>> ((16 : Int32).toUInt32 &&& Int32.toUInt32 31)).toInt32)) fun v5 =>
  (some (v5 &&& 63)))))))
set_option maxRecDepth 100000 in
set_option maxHeartbeats 4000000 in
theorem c_J6_bitCount_0f7a4 (l : Launch) (g : GG) (S : St) (a0 : Int32) : Ct l yJ6_bitCount_0f7a4 cJ6_bitCount_0f7a4 1 (some .int) rm_J6_bitCount_0f7a4 g aI (pK S) [.int a0] S (f_J6_bitCount_0f7a4 a0) := by
  refine Ct.mk (cf := cw (0, 0)) (by decide +kernel) (cat_i cat_n) (Nat.le_of_ble_eq_true rfl) rfl ?_
  intro X hXl hin C
  show J X g _ _ 0 [(0, .int a0)] [] S (f_J6_bitCount_0f7a4 a0)
  unfold f_J6_bitCount_0f7a4
  refine J.iload_n (pc := 0) C dJ6_bitCount_0f7a4_0 rfl rfl ?_
  refine J.iload_n (pc := 1) C dJ6_bitCount_0f7a4_1 rfl rfl ?_
  refine J.iconst (pc := 2) C dJ6_bitCount_0f7a4_2 ki_1 ?_
  refine J.iushr (pc := 3) C dJ6_bitCount_0f7a4_3 ?_
  refine J.ldcw (pc := 4) C wc_RJ6_265 dJ6_bitCount_0f7a4_4 ?_
  refine J.iand (pc := 7) C dJ6_bitCount_0f7a4_7 ?_
  refine J.isub (pc := 8) C dJ6_bitCount_0f7a4_8 ?_
  refine J.topi (fun v1 => ?_)
  refine J.istore_n (pc := 9) C (lv' := [(0, .int v1)]) dJ6_bitCount_0f7a4_9 rfl (Nat.le_of_ble_eq_true rfl) (lsf_i lsf_n) rfl ?_
  refine J.iload_n (pc := 10) C dJ6_bitCount_0f7a4_10 rfl rfl ?_
  refine J.ldcw (pc := 11) C wc_RJ6_266 dJ6_bitCount_0f7a4_11 ?_
  refine J.iand (pc := 14) C dJ6_bitCount_0f7a4_14 ?_
  refine J.iload_n (pc := 15) C dJ6_bitCount_0f7a4_15 rfl rfl ?_
  refine J.iconst (pc := 16) C dJ6_bitCount_0f7a4_16 ki_2 ?_
  refine J.iushr (pc := 17) C dJ6_bitCount_0f7a4_17 ?_
  refine J.ldcw (pc := 18) C wc_RJ6_266 dJ6_bitCount_0f7a4_18 ?_
  refine J.iand (pc := 21) C dJ6_bitCount_0f7a4_21 ?_
  refine J.iadd (pc := 22) C dJ6_bitCount_0f7a4_22 ?_
  refine J.topi (fun v2 => ?_)
  refine J.istore_n (pc := 23) C (lv' := [(0, .int v2)]) dJ6_bitCount_0f7a4_23 rfl (Nat.le_of_ble_eq_true rfl) (lsf_i lsf_n) rfl ?_
  refine J.iload_n (pc := 24) C dJ6_bitCount_0f7a4_24 rfl rfl ?_
  refine J.iload_n (pc := 25) C dJ6_bitCount_0f7a4_25 rfl rfl ?_
  refine J.iconst (pc := 26) C dJ6_bitCount_0f7a4_26 ki_4 ?_
  refine J.iushr (pc := 27) C dJ6_bitCount_0f7a4_27 ?_
  refine J.iadd (pc := 28) C dJ6_bitCount_0f7a4_28 ?_
  refine J.ldcw (pc := 29) C wc_RJ6_267 dJ6_bitCount_0f7a4_29 ?_
  refine J.iand (pc := 32) C dJ6_bitCount_0f7a4_32 ?_
  refine J.topi (fun v3 => ?_)
  refine J.istore_n (pc := 33) C (lv' := [(0, .int v3)]) dJ6_bitCount_0f7a4_33 rfl (Nat.le_of_ble_eq_true rfl) (lsf_i lsf_n) rfl ?_
  refine J.iload_n (pc := 34) C dJ6_bitCount_0f7a4_34 rfl rfl ?_
  refine J.iload_n (pc := 35) C dJ6_bitCount_0f7a4_35 rfl rfl ?_
  refine J.bipush (pc := 36) C dJ6_bitCount_0f7a4_36 kb_8 ?_
  refine J.iushr (pc := 38) C dJ6_bitCount_0f7a4_38 ?_
  refine J.iadd (pc := 39) C dJ6_bitCount_0f7a4_39 ?_
  refine J.topi (fun v4 => ?_)
  refine J.istore_n (pc := 40) C (lv' := [(0, .int v4)]) dJ6_bitCount_0f7a4_40 rfl (Nat.le_of_ble_eq_true rfl) (lsf_i lsf_n) rfl ?_
  refine J.iload_n (pc := 41) C dJ6_bitCount_0f7a4_41 rfl rfl ?_
  refine J.iload_n (pc := 42) C dJ6_bitCount_0f7a4_42 rfl rfl ?_
  refine J.bipush (pc := 43) C dJ6_bitCount_0f7a4_43 kb_16 ?_
  refine J.iushr (pc := 45) C dJ6_bitCount_0f7a4_45 ?_
  refine J.iadd (pc := 46) C dJ6_bitCount_0f7a4_46 ?_
  refine J.topi (fun v5 => ?_)
  refine J.istore_n (pc := 47) C (lv' := [(0, .int v5)]) dJ6_bitCount_0f7a4_47 rfl (Nat.le_of_ble_eq_true rfl) (lsf_i lsf_n) rfl ?_
  refine J.iload_n (pc := 48) C dJ6_bitCount_0f7a4_48 rfl rfl ?_
  refine J.bipush (pc := 49) C dJ6_bitCount_0f7a4_49 kb_63 ?_
  refine J.iand (pc := 51) C dJ6_bitCount_0f7a4_51 ?_
  exact J.iret (pc := 52) C rfl rfl ⟨Nat.le_refl _, Nat.le_refl _⟩ dJ6_bitCount_0f7a4_52
abbrev rm_J9_abs_0f7a4 : Room := { frames := 0, cells := 0, slots := 0, locals := 0 }
def f_J9_abs_0f7a4 (a0 : Int32) : Option Int32 :=
  (if (0 : Int32) ≤ a0 then
  (some a0)
  else (some (-a0)))
set_option maxRecDepth 100000 in
set_option maxHeartbeats 4000000 in
theorem c_J9_abs_0f7a4 (l : Launch) (g : GG) (S : St) (a0 : Int32) : Ct l yJ9_abs_0f7a4 cJ9_abs_0f7a4 1 (some .int) rm_J9_abs_0f7a4 g aI (pK S) [.int a0] S (f_J9_abs_0f7a4 a0) := by
  refine Ct.mk (cf := cw (0, 0)) (by decide +kernel) (cat_i cat_n) (Nat.le_of_ble_eq_true rfl) rfl ?_
  intro X hXl hin C
  show J X g _ _ 0 [(0, .int a0)] [] S (f_J9_abs_0f7a4 a0)
  unfold f_J9_abs_0f7a4
  refine J.iload_n (pc := 0) C dJ9_abs_0f7a4_0 rfl rfl ?_
  refine J.if_ge (pc := 1) C (tgt := 9) dJ9_abs_0f7a4_1 rfl ?_ ?_
  · refine J.iload_n (pc := 9) C dJ9_abs_0f7a4_9 rfl rfl ?_
    exact J.iret (pc := 10) C rfl rfl ⟨Nat.le_refl _, Nat.le_refl _⟩ dJ9_abs_0f7a4_10
  · refine J.iload_n (pc := 4) C dJ9_abs_0f7a4_4 rfl rfl ?_
    refine J.ineg (pc := 5) C dJ9_abs_0f7a4_5 ?_
    refine J.goto (pc := 6) C (tgt := 10) dJ9_abs_0f7a4_6 rfl ?_
    exact J.iret (pc := 10) C rfl rfl ⟨Nat.le_refl _, Nat.le_refl _⟩ dJ9_abs_0f7a4_10
abbrev rm_J9_floorDiv_7cf53 : Room := { frames := 0, cells := 0, slots := 0, locals := 0 }
def f_J9_floorDiv_7cf53 (a0 : Int32) (a1 : Int32) : Option Int32 :=
  (chk (¬ a1 = 0)
  (if (0 : Int32) ≤ (a0 ^^^ a1) then
  (some (a0 / a1))
  else (if ((a0 / a1) * a1) = a0 then
  (some (a0 / a1))
  else (some ((a0 / a1) - 1)))))
set_option maxRecDepth 100000 in
set_option maxHeartbeats 4000000 in
theorem c_J9_floorDiv_7cf53 (l : Launch) (g : GG) (S : St) (a0 : Int32) (a1 : Int32) : Ct l yJ9_floorDiv_7cf53 cJ9_floorDiv_7cf53 3 (some .int) rm_J9_floorDiv_7cf53 g aI (pK S) [.int a0, .int a1] S (f_J9_floorDiv_7cf53 a0 a1) := by
  refine Ct.mk (cf := cw (0, 0)) (by decide +kernel) (cat_i (cat_i cat_n)) (Nat.le_of_ble_eq_true rfl) rfl ?_
  intro X hXl hin C
  show J X g _ _ 0 [(0, .int a0), (1, .int a1)] [] S (f_J9_floorDiv_7cf53 a0 a1)
  unfold f_J9_floorDiv_7cf53
  refine J.iload_n (pc := 0) C dJ9_floorDiv_7cf53_0 rfl rfl ?_
  refine J.iload_n (pc := 1) C dJ9_floorDiv_7cf53_1 rfl rfl ?_
  refine J.idiv (pc := 2) C dJ9_floorDiv_7cf53_2 ?_
  refine J.istore_n (pc := 3) C (lv' := [(0, .int a0), (1, .int a1), (2, .int (a0 / a1))]) dJ9_floorDiv_7cf53_3 rfl (Nat.le_of_ble_eq_true rfl) (lsf_i (lsf_i lsf_n)) rfl ?_
  refine J.iload_n (pc := 4) C dJ9_floorDiv_7cf53_4 rfl rfl ?_
  refine J.iload_n (pc := 5) C dJ9_floorDiv_7cf53_5 rfl rfl ?_
  refine J.ixor (pc := 6) C dJ9_floorDiv_7cf53_6 ?_
  refine J.if_ge (pc := 7) C (tgt := 21) dJ9_floorDiv_7cf53_7 rfl ?_ ?_
  · refine J.iload_n (pc := 21) C dJ9_floorDiv_7cf53_21 rfl rfl ?_
    exact J.iret (pc := 22) C rfl rfl ⟨Nat.le_refl _, Nat.le_refl _⟩ dJ9_floorDiv_7cf53_22
  · refine J.iload_n (pc := 10) C dJ9_floorDiv_7cf53_10 rfl rfl ?_
    refine J.iload_n (pc := 11) C dJ9_floorDiv_7cf53_11 rfl rfl ?_
    refine J.imul (pc := 12) C dJ9_floorDiv_7cf53_12 ?_
    refine J.iload_n (pc := 13) C dJ9_floorDiv_7cf53_13 rfl rfl ?_
    refine J.icmp_eq (pc := 14) C (tgt := 21) dJ9_floorDiv_7cf53_14 rfl ?_ ?_
    · refine J.iload_n (pc := 21) C dJ9_floorDiv_7cf53_21 rfl rfl ?_
      exact J.iret (pc := 22) C rfl rfl ⟨Nat.le_refl _, Nat.le_refl _⟩ dJ9_floorDiv_7cf53_22
    · refine J.iload_n (pc := 17) C dJ9_floorDiv_7cf53_17 rfl rfl ?_
      refine J.iconst (pc := 18) C dJ9_floorDiv_7cf53_18 ki_1 ?_
      refine J.isub (pc := 19) C dJ9_floorDiv_7cf53_19 ?_
      exact J.iret (pc := 20) C rfl rfl ⟨Nat.le_refl _, Nat.le_refl _⟩ dJ9_floorDiv_7cf53_20
abbrev rm_J9_max_7cf53 : Room := { frames := 0, cells := 0, slots := 0, locals := 0 }
def f_J9_max_7cf53 (a0 : Int32) (a1 : Int32) : Option Int32 :=
  (if a0 < a1 then
  (some a1)
  else (some a0))
set_option maxRecDepth 100000 in
set_option maxHeartbeats 4000000 in
theorem c_J9_max_7cf53 (l : Launch) (g : GG) (S : St) (a0 : Int32) (a1 : Int32) : Ct l yJ9_max_7cf53 cJ9_max_7cf53 2 (some .int) rm_J9_max_7cf53 g aI (pK S) [.int a0, .int a1] S (f_J9_max_7cf53 a0 a1) := by
  refine Ct.mk (cf := cw (0, 0)) (by decide +kernel) (cat_i (cat_i cat_n)) (Nat.le_of_ble_eq_true rfl) rfl ?_
  intro X hXl hin C
  show J X g _ _ 0 [(0, .int a0), (1, .int a1)] [] S (f_J9_max_7cf53 a0 a1)
  unfold f_J9_max_7cf53
  refine J.iload_n (pc := 0) C dJ9_max_7cf53_0 rfl rfl ?_
  refine J.iload_n (pc := 1) C dJ9_max_7cf53_1 rfl rfl ?_
  refine J.icmp_lt (pc := 2) C (tgt := 9) dJ9_max_7cf53_2 rfl ?_ ?_
  · refine J.iload_n (pc := 9) C dJ9_max_7cf53_9 rfl rfl ?_
    exact J.iret (pc := 10) C rfl rfl ⟨Nat.le_refl _, Nat.le_refl _⟩ dJ9_max_7cf53_10
  · refine J.iload_n (pc := 5) C dJ9_max_7cf53_5 rfl rfl ?_
    refine J.goto (pc := 6) C (tgt := 10) dJ9_max_7cf53_6 rfl ?_
    exact J.iret (pc := 10) C rfl rfl ⟨Nat.le_refl _, Nat.le_refl _⟩ dJ9_max_7cf53_10
abbrev rm_J9_min_7cf53 : Room := { frames := 0, cells := 0, slots := 0, locals := 0 }
def f_J9_min_7cf53 (a0 : Int32) (a1 : Int32) : Option Int32 :=
  (if a1 < a0 then
  (some a1)
  else (some a0))
set_option maxRecDepth 100000 in
set_option maxHeartbeats 4000000 in
theorem c_J9_min_7cf53 (l : Launch) (g : GG) (S : St) (a0 : Int32) (a1 : Int32) : Ct l yJ9_min_7cf53 cJ9_min_7cf53 2 (some .int) rm_J9_min_7cf53 g aI (pK S) [.int a0, .int a1] S (f_J9_min_7cf53 a0 a1) := by
  refine Ct.mk (cf := cw (0, 0)) (by decide +kernel) (cat_i (cat_i cat_n)) (Nat.le_of_ble_eq_true rfl) rfl ?_
  intro X hXl hin C
  show J X g _ _ 0 [(0, .int a0), (1, .int a1)] [] S (f_J9_min_7cf53 a0 a1)
  unfold f_J9_min_7cf53
  refine J.iload_n (pc := 0) C dJ9_min_7cf53_0 rfl rfl ?_
  refine J.iload_n (pc := 1) C dJ9_min_7cf53_1 rfl rfl ?_
  refine J.icmp_gt (pc := 2) C (tgt := 9) dJ9_min_7cf53_2 rfl ?_ ?_
  · refine J.iload_n (pc := 9) C dJ9_min_7cf53_9 rfl rfl ?_
    exact J.iret (pc := 10) C rfl rfl ⟨Nat.le_refl _, Nat.le_refl _⟩ dJ9_min_7cf53_10
  · refine J.iload_n (pc := 5) C dJ9_min_7cf53_5 rfl rfl ?_
    refine J.goto (pc := 6) C (tgt := 10) dJ9_min_7cf53_6 rfl ?_
    exact J.iret (pc := 10) C rfl rfl ⟨Nat.le_refl _, Nat.le_refl _⟩ dJ9_min_7cf53_10
abbrev rm_L_bits : Room := { frames := 0, cells := 0, slots := 0, locals := 0 }
def f_L_bits_B4 (a0 : Int32) (kx4 : Int32 → Option Int32) (k4 : Int32 → Int32 → Option Int32) (x1 : Int32) (x2 : Int32) : Option Int32 :=
  (if (17 : Int32) ≤ x2 then
  (kx4 x1)
  else (k4 (x1 + ((a0 >>> (x2 &&& 31)) &&& 1)) (x2 + 1)))
set_option maxRecDepth 100000 in
set_option maxHeartbeats 4000000 in
theorem w_L_bits_B4 {X : CT} {g : GG} (C : CX X g cL_bits RL (some .int) 3 rm_L_bits) (S : St) (a0 : Int32) (kx4 : Int32 → Option Int32) (hkx4 : ∀ (x1 : Int32), J X g (Qm X g aI (pK S)) (cw (0, 0)) 24 [(1, .int x1)] [] S (kx4 x1)) : ∀ (n : Nat) (x1 : Int32) (x2 : Int32), J X g (Qm X g aI (pK S)) (cw (0, 0)) 4 [(0, .int a0), (1, .int x1), (2, .int x2)] [] S (wl2 (f_L_bits_B4 a0 kx4) n x1 x2) := by
  refine J.loop2 (lvf := fun (x1 : Int32) (x2 : Int32) => [(0, .int a0), (1, .int x1), (2, .int x2)]) (Sf := fun (x1 : Int32) (x2 : Int32) => S) ?_
  intro k4 hk4 x1 x2
  show J X g _ _ 4 [(0, .int a0), (1, .int x1), (2, .int x2)] [] S (f_L_bits_B4 a0 kx4 k4 x1 x2)
  unfold f_L_bits_B4
  refine J.iload_n (pc := 4) C dL_bits_4 rfl rfl ?_
  refine J.bipush (pc := 5) C dL_bits_5 kb_17 ?_
  refine J.icmp_ge (pc := 7) C (tgt := 24) dL_bits_7 rfl ?_ ?_
  · exact J.pick [1] rfl (hkx4 _)
  · refine J.iload_n (pc := 10) C dL_bits_10 rfl rfl ?_
    refine J.iload_n (pc := 11) C dL_bits_11 rfl rfl ?_
    refine J.iload_n (pc := 12) C dL_bits_12 rfl rfl ?_
    refine J.ishr (pc := 13) C dL_bits_13 ?_
    refine J.iconst (pc := 14) C dL_bits_14 ki_1 ?_
    refine J.iand (pc := 15) C dL_bits_15 ?_
    refine J.iadd (pc := 16) C dL_bits_16 ?_
    refine J.istore_n (pc := 17) C (lv' := [(0, .int a0), (1, .int (x1 + ((a0 >>> (x2 &&& 31)) &&& 1))), (2, .int x2)]) dL_bits_17 rfl (Nat.le_of_ble_eq_true rfl) (lsf_i (lsf_i (lsf_i lsf_n))) rfl ?_
    refine J.iinc (pc := 18) C (lv' := [(0, .int a0), (1, .int (x1 + ((a0 >>> (x2 &&& 31)) &&& 1))), (2, .int (x2 + 1))]) dL_bits_18 rfl (Nat.le_of_ble_eq_true rfl) (lsf_i (lsf_i (lsf_i lsf_n))) ki_1 rfl ?_
    refine J.goto (pc := 21) C (tgt := 4) dL_bits_21 rfl ?_
    exact (hk4 _ _)
def f_L_bits (a0 : Int32) : Option Int32 :=
  (wl2 (f_L_bits_B4 a0 (fun (y1_1 : Int32) => (some y1_1))) FU 0 0)
set_option maxRecDepth 100000 in
set_option maxHeartbeats 4000000 in
theorem c_L_bits (l : Launch) (g : GG) (S : St) (a0 : Int32) : Ct l yL_bits cL_bits 3 (some .int) rm_L_bits g aI (pK S) [.int a0] S (f_L_bits a0) := by
  refine Ct.mk (cf := cw (0, 0)) (by decide +kernel) (cat_i cat_n) (Nat.le_of_ble_eq_true rfl) rfl ?_
  intro X hXl hin C
  show J X g _ _ 0 [(0, .int a0)] [] S (f_L_bits a0)
  unfold f_L_bits
  refine J.iconst (pc := 0) C dL_bits_0 ki_0 ?_
  refine J.istore_n (pc := 1) C (lv' := [(0, .int a0), (1, .int 0)]) dL_bits_1 rfl (Nat.le_of_ble_eq_true rfl) (lsf_i lsf_n) rfl ?_
  refine J.iconst (pc := 2) C dL_bits_2 ki_0 ?_
  refine J.istore_n (pc := 3) C (lv' := [(0, .int a0), (1, .int 0), (2, .int 0)]) dL_bits_3 rfl (Nat.le_of_ble_eq_true rfl) (lsf_i (lsf_i lsf_n)) rfl ?_
  refine w_L_bits_B4 C _ _ _ (fun y1_1 => ?_) FU _ _
  refine J.iload_n (pc := 24) C dL_bits_24 rfl rfl ?_
  exact J.iret (pc := 25) C rfl rfl ⟨Nat.le_refl _, Nat.le_refl _⟩ dL_bits_25
abbrev rm_X7_numberIn : Room := { frames := 0, cells := 0, slots := 0, locals := 0 }
def f_X7_numberIn (S : St) (a0 : Nat) (a1 : Int32) : Option Int32 :=
  (if a1 < 0 then
  (some 0)
  else (chk (okc S 10 a0)
  (if (Int32.ofNat (ln a0)) ≤ a1 then
  (some 0)
  else (chk (ina S 10 a0 a1)
  (some (S.1 a0 a1.toNatClampNeg))))))
set_option maxRecDepth 100000 in
set_option maxHeartbeats 4000000 in
theorem c_X7_numberIn (l : Launch) (g : GG) (S : St) (a0 : Nat) (a1 : Int32) : Ct l yX7_numberIn cX7_numberIn 2 (some .int) rm_X7_numberIn g aI (pK S) [rv g a0, .int a1] S (f_X7_numberIn S a0 a1) := by
  refine Ct.mk (cf := cw (0, 0)) (by decide +kernel) (cat_r (cat_i cat_n)) (Nat.le_of_ble_eq_true rfl) rfl ?_
  intro X hXl hin C
  show J X g _ _ 0 [(0, rv g a0), (1, .int a1)] [] S (f_X7_numberIn S a0 a1)
  unfold f_X7_numberIn
  refine J.iload_n (pc := 0) C dX7_numberIn_0 rfl rfl ?_
  refine J.if_lt (pc := 1) C (tgt := 16) dX7_numberIn_1 rfl ?_ ?_
  · refine J.iconst (pc := 16) C dX7_numberIn_16 ki_0 ?_
    exact J.iret (pc := 17) C rfl rfl ⟨Nat.le_refl _, Nat.le_refl _⟩ dX7_numberIn_17
  · refine J.iload_n (pc := 4) C dX7_numberIn_4 rfl rfl ?_
    refine J.aload_n (pc := 5) C (x := a0) dX7_numberIn_5 rfl rfl ?_
    refine J.alen (pc := 6) C 10 (by decide) dX7_numberIn_6 ?_
    refine J.icmp_ge (pc := 7) C (tgt := 16) dX7_numberIn_7 rfl ?_ ?_
    · refine J.iconst (pc := 16) C dX7_numberIn_16 ki_0 ?_
      exact J.iret (pc := 17) C rfl rfl ⟨Nat.le_refl _, Nat.le_refl _⟩ dX7_numberIn_17
    · refine J.aload_n (pc := 10) C (x := a0) dX7_numberIn_10 rfl rfl ?_
      refine J.iload_n (pc := 11) C dX7_numberIn_11 rfl rfl ?_
      refine J.iald (pc := 12) C dX7_numberIn_12 ?_
      refine J.goto (pc := 13) C (tgt := 17) dX7_numberIn_13 rfl ?_
      exact J.iret (pc := 17) C rfl rfl ⟨Nat.le_refl _, Nat.le_refl _⟩ dX7_numberIn_17
abbrev rm_X3_weightOf : Room := { frames := 1, cells := 0, slots := 0, locals := 21 }
def f_X3_weightOf (S : St) (a0 : Nat) (a1 : Int32) : Option Int32 :=
  (chk (okc S 3 a0)
  (bnd (f_X7_numberIn S (S.2.1 a0 8) a1) fun r1 =>
  (chk (okc S 3 a0)
  (bnd (f_X7_numberIn S (S.2.1 a0 9) a1) fun r2 =>
  (bnd (f_J9_max_7cf53 0 (r1 - r2)) fun r3 =>
  (some (1 + r3)))))))
set_option maxRecDepth 100000 in
set_option maxHeartbeats 4000000 in
theorem c_X3_weightOf (l : Launch) (g : GG) (S : St) (a0 : Nat) (a1 : Int32) : Ct l yX3_weightOf cX3_weightOf 2 (some .int) rm_X3_weightOf g aI (pK S) [rv g a0, .int a1] S (f_X3_weightOf S a0 a1) := by
  refine Ct.mk (cf := cw (0, 0)) (by decide +kernel) (cat_r (cat_i cat_n)) (Nat.le_of_ble_eq_true rfl) rfl ?_
  intro X hXl hin C
  show J X g _ _ 0 [(0, rv g a0), (1, .int a1)] [] S (f_X3_weightOf S a0 a1)
  unfold f_X3_weightOf
  refine J.iconst (pc := 0) C dX3_weightOf_0 ki_1 ?_
  refine J.iconst (pc := 1) C dX3_weightOf_1 ki_0 ?_
  refine J.aload_n (pc := 2) C (x := a0) dX3_weightOf_2 rfl rfl ?_
  refine J.getR (pc := 3) C fl_RX3_27 rfl dX3_weightOf_3 ?_
  refine J.iload_n (pc := 6) C dX3_weightOf_6 rfl rfl ?_
  refine J.snI (pc := 7) C ms_X7_numberIn wn_RX3_36 (fun l => c_X7_numberIn l g S (S.2.1 a0 8) a1) ⟨⟨Nat.zero_le _, Nat.zero_le _⟩, rfl, rfl⟩ rfl ⟨Nat.le_of_ble_eq_true rfl, Nat.le_of_ble_eq_true rfl⟩ rfl (ct_i (ct_i ct_n)) (Nat.le_of_ble_eq_true rfl) dX3_weightOf_7 (fun r1 => ?_)
  refine J.aload_n (pc := 10) C (x := a0) dX3_weightOf_10 rfl rfl ?_
  refine J.getR (pc := 11) C fl_RX3_30 rfl dX3_weightOf_11 ?_
  refine J.iload_n (pc := 14) C dX3_weightOf_14 rfl rfl ?_
  refine J.snI (pc := 15) C ms_X7_numberIn wn_RX3_36 (fun l => c_X7_numberIn l g S (S.2.1 a0 9) a1) ⟨⟨Nat.zero_le _, Nat.zero_le _⟩, rfl, rfl⟩ rfl ⟨Nat.le_of_ble_eq_true rfl, Nat.le_of_ble_eq_true rfl⟩ rfl (ct_i (ct_i (ct_i ct_n))) (Nat.le_of_ble_eq_true rfl) dX3_weightOf_15 (fun r2 => ?_)
  refine J.isub (pc := 18) C dX3_weightOf_18 ?_
  refine J.sI (pc := 19) C ms_J9_max_7cf53 wm_RX3_158 (fun l => c_J9_max_7cf53 l g S 0 (r1 - r2)) ⟨⟨Nat.zero_le _, Nat.zero_le _⟩, rfl, rfl⟩ rfl ⟨Nat.le_of_ble_eq_true rfl, Nat.le_of_ble_eq_true rfl⟩ rfl (ct_i ct_n) (Nat.le_of_ble_eq_true rfl) dX3_weightOf_19 (fun r3 => ?_)
  refine J.iadd (pc := 22) C dX3_weightOf_22 ?_
  exact J.iret (pc := 23) C rfl rfl ⟨Nat.le_refl _, Nat.le_refl _⟩ dX3_weightOf_23
abbrev rm_X7_holds : Room := { frames := 0, cells := 0, slots := 0, locals := 0 }
def f_X7_holds (a0 : Int32) (a1 : Int32) : Option Int32 :=
  (if ((a0 >>> (a1 &&& 31)) &&& 1) = 1 then
  (some 1)
  else (some 0))
set_option maxRecDepth 100000 in
set_option maxHeartbeats 4000000 in
theorem c_X7_holds (l : Launch) (g : GG) (S : St) (a0 : Int32) (a1 : Int32) : Ct l yX7_holds cX7_holds 2 (some .boolean) rm_X7_holds g aI (pK S) [.int a0, .int a1] S (f_X7_holds a0 a1) := by
  refine Ct.mk (cf := cw (0, 0)) (by decide +kernel) (cat_i (cat_i cat_n)) (Nat.le_of_ble_eq_true rfl) rfl ?_
  intro X hXl hin C
  show J X g _ _ 0 [(0, .int a0), (1, .int a1)] [] S (f_X7_holds a0 a1)
  unfold f_X7_holds
  refine J.iload_n (pc := 0) C dX7_holds_0 rfl rfl ?_
  refine J.iload_n (pc := 1) C dX7_holds_1 rfl rfl ?_
  refine J.ishr (pc := 2) C dX7_holds_2 ?_
  refine J.iconst (pc := 3) C dX7_holds_3 ki_1 ?_
  refine J.iand (pc := 4) C dX7_holds_4 ?_
  refine J.iconst (pc := 5) C dX7_holds_5 ki_1 ?_
  refine J.icmp_ne (pc := 6) C (tgt := 13) dX7_holds_6 rfl ?_ ?_
  · refine J.iconst (pc := 13) C dX7_holds_13 ki_0 ?_
    exact J.zret (pc := 14) C rfl rfl rfl ⟨Nat.le_refl _, Nat.le_refl _⟩ dX7_holds_14
  · refine J.iconst (pc := 9) C dX7_holds_9 ki_1 ?_
    refine J.goto (pc := 10) C (tgt := 14) dX7_holds_10 rfl ?_
    exact J.zret (pc := 14) C rfl rfl rfl ⟨Nat.le_refl _, Nat.le_refl _⟩ dX7_holds_14
abbrev rm_X7_isWithin : Room := { frames := 0, cells := 0, slots := 0, locals := 0 }
def f_X7_isWithin (a0 : Int32) (a1 : Int32) (a2 : Int32) : Option Int32 :=
  (if a0 < a1 then
  (some 0)
  else (if a2 < a0 then
  (some 0)
  else (some 1)))
set_option maxRecDepth 100000 in
set_option maxHeartbeats 4000000 in
theorem c_X7_isWithin (l : Launch) (g : GG) (S : St) (a0 : Int32) (a1 : Int32) (a2 : Int32) : Ct l yX7_isWithin cX7_isWithin 3 (some .boolean) rm_X7_isWithin g aI (pK S) [.int a0, .int a1, .int a2] S (f_X7_isWithin a0 a1 a2) := by
  refine Ct.mk (cf := cw (0, 0)) (by decide +kernel) (cat_i (cat_i (cat_i cat_n))) (Nat.le_of_ble_eq_true rfl) rfl ?_
  intro X hXl hin C
  show J X g _ _ 0 [(0, .int a0), (1, .int a1), (2, .int a2)] [] S (f_X7_isWithin a0 a1 a2)
  unfold f_X7_isWithin
  refine J.iload_n (pc := 0) C dX7_isWithin_0 rfl rfl ?_
  refine J.iload_n (pc := 1) C dX7_isWithin_1 rfl rfl ?_
  refine J.icmp_lt (pc := 2) C (tgt := 14) dX7_isWithin_2 rfl ?_ ?_
  · refine J.iconst (pc := 14) C dX7_isWithin_14 ki_0 ?_
    exact J.zret (pc := 15) C rfl rfl rfl ⟨Nat.le_refl _, Nat.le_refl _⟩ dX7_isWithin_15
  · refine J.iload_n (pc := 5) C dX7_isWithin_5 rfl rfl ?_
    refine J.iload_n (pc := 6) C dX7_isWithin_6 rfl rfl ?_
    refine J.icmp_gt (pc := 7) C (tgt := 14) dX7_isWithin_7 rfl ?_ ?_
    · refine J.iconst (pc := 14) C dX7_isWithin_14 ki_0 ?_
      exact J.zret (pc := 15) C rfl rfl rfl ⟨Nat.le_refl _, Nat.le_refl _⟩ dX7_isWithin_15
    · refine J.iconst (pc := 10) C dX7_isWithin_10 ki_1 ?_
      refine J.goto (pc := 11) C (tgt := 15) dX7_isWithin_11 rfl ?_
      exact J.zret (pc := 15) C rfl rfl rfl ⟨Nat.le_refl _, Nat.le_refl _⟩ dX7_isWithin_15
abbrev rm_X7_rowOf : Room := { frames := 2, cells := 0, slots := 0, locals := 42 }
def f_X7_rowOf_J82 (S : St) (x1 : Int32) (t0 : Nat) : Option Int32 :=
  (bnd (f_X7_numberIn S t0 x1) fun r3 =>
  (some r3))
set_option maxRecDepth 100000 in
set_option maxHeartbeats 4000000 in
theorem w_X7_rowOf_J82 {X : CT} {g : GG} (C : CX X g cX7_rowOf RX7 (some .int) 3 rm_X7_rowOf) (S : St) (x1 : Int32) (t0 : Nat) : J X g (Qm X g aI (pK S)) (cw (0, 0)) 82 [(1, .int x1)] [rv g t0] S (f_X7_rowOf_J82 S x1 t0) := by
  unfold f_X7_rowOf_J82
  refine J.iload_n (pc := 82) C dX7_rowOf_82 rfl rfl ?_
  refine J.sI (pc := 83) C ms_X7_numberIn wm_RX7_64 (fun l => c_X7_numberIn l g S t0 x1) ⟨⟨Nat.zero_le _, Nat.zero_le _⟩, rfl, rfl⟩ rfl ⟨Nat.le_of_ble_eq_true rfl, Nat.le_of_ble_eq_true rfl⟩ rfl ct_n (Nat.le_of_ble_eq_true rfl) dX7_rowOf_83 (fun r3 => ?_)
  exact J.iret (pc := 86) C rfl rfl ⟨Nat.le_refl _, Nat.le_refl _⟩ dX7_rowOf_86
def f_X7_rowOf (S : St) (a0 : Nat) (a1 : Int32) (a2 : Int32) : Option Int32 :=
  (bnd (f_X7_isWithin a1 0 9) fun r1 =>
  (if r1 = 0 then
  (some (-10000001))
  else (bnd (f_X7_isWithin a2 0 3) fun r2 =>
  (if r2 = 0 then
  (some (-10000001))
  else (if a2 = 0 then
  (chk (okc S 7 a0)
  (chk (okc S 3 (S.2.1 a0 0))
  (bnd (f_X7_holds (S.1 (S.2.1 a0 0) 7) a1) fun r5 =>
  (if r5 = 0 then
  (some 0)
  else (some 1)))))
  else (if a2 = 3 then
  (chk (okc S 7 a0)
  (chk (okc S 3 (S.2.1 a0 0)) (bnd (f_X3_weightOf S (S.2.1 a0 0) a1) fun r4 =>
  (some r4))))
  else (if a2 = 1 then
  (chk (okc S 7 a0)
  (chk (okc S 3 (S.2.1 a0 0))
  (f_X7_rowOf_J82 S a1 (S.2.1 (S.2.1 a0 0) 8))))
  else (chk (okc S 7 a0)
  (chk (okc S 3 (S.2.1 a0 0))
  (f_X7_rowOf_J82 S a1 (S.2.1 (S.2.1 a0 0) 9)))))))))))
set_option maxRecDepth 100000 in
set_option maxHeartbeats 4000000 in
theorem c_X7_rowOf (l : Launch) (g : GG) (S : St) (a0 : Nat) (a1 : Int32) (a2 : Int32) : Ct l yX7_rowOf cX7_rowOf 3 (some .int) rm_X7_rowOf g aI (pK S) [rv g a0, .int a1, .int a2] S (f_X7_rowOf S a0 a1 a2) := by
  refine Ct.mk (cf := cw (0, 0)) (by decide +kernel) (cat_r (cat_i (cat_i cat_n))) (Nat.le_of_ble_eq_true rfl) rfl ?_
  intro X hXl hin C
  show J X g _ _ 0 [(0, rv g a0), (1, .int a1), (2, .int a2)] [] S (f_X7_rowOf S a0 a1 a2)
  unfold f_X7_rowOf
  refine J.iload_n (pc := 0) C dX7_rowOf_0 rfl rfl ?_
  refine J.iconst (pc := 1) C dX7_rowOf_1 ki_0 ?_
  refine J.bipush (pc := 2) C dX7_rowOf_2 kb_9 ?_
  refine J.sI (pc := 4) C ms_X7_isWithin wm_RX7_56 (fun l => c_X7_isWithin l g S a1 0 9) ⟨⟨Nat.zero_le _, Nat.zero_le _⟩, rfl, rfl⟩ rfl ⟨Nat.le_of_ble_eq_true rfl, Nat.le_of_ble_eq_true rfl⟩ rfl ct_n (Nat.le_of_ble_eq_true rfl) dX7_rowOf_4 (fun r1 => ?_)
  refine J.if_eq (pc := 7) C (tgt := 19) dX7_rowOf_7 rfl ?_ ?_
  · refine J.ldc (pc := 19) C wc_RX7_60 dX7_rowOf_19 ?_
    exact J.iret (pc := 21) C rfl rfl ⟨Nat.le_refl _, Nat.le_refl _⟩ dX7_rowOf_21
  · refine J.iload_n (pc := 10) C dX7_rowOf_10 rfl rfl ?_
    refine J.iconst (pc := 11) C dX7_rowOf_11 ki_0 ?_
    refine J.iconst (pc := 12) C dX7_rowOf_12 ki_3 ?_
    refine J.sI (pc := 13) C ms_X7_isWithin wm_RX7_56 (fun l => c_X7_isWithin l g S a2 0 3) ⟨⟨Nat.zero_le _, Nat.zero_le _⟩, rfl, rfl⟩ rfl ⟨Nat.le_of_ble_eq_true rfl, Nat.le_of_ble_eq_true rfl⟩ rfl ct_n (Nat.le_of_ble_eq_true rfl) dX7_rowOf_13 (fun r2 => ?_)
    refine J.if_ne (pc := 16) C (tgt := 22) dX7_rowOf_16 rfl ?_ ?_
    · refine J.iload_n (pc := 22) C dX7_rowOf_22 rfl rfl ?_
      refine J.if_ne (pc := 23) C (tgt := 46) dX7_rowOf_23 rfl ?_ ?_
      · refine J.iload_n (pc := 46) C dX7_rowOf_46 rfl rfl ?_
        refine J.iconst (pc := 47) C dX7_rowOf_47 ki_3 ?_
        refine J.icmp_ne (pc := 48) C (tgt := 60) dX7_rowOf_48 rfl ?_ ?_
        · refine J.iload_n (pc := 60) C dX7_rowOf_60 rfl rfl ?_
          refine J.iconst (pc := 61) C dX7_rowOf_61 ki_1 ?_
          refine J.icmp_ne (pc := 62) C (tgt := 75) dX7_rowOf_62 rfl ?_ ?_
          · refine J.aload_n (pc := 75) C (x := a0) dX7_rowOf_75 rfl rfl ?_
            refine J.getR (pc := 76) C fl_RX7_12 rfl dX7_rowOf_76 ?_
            refine J.getR (pc := 79) C fl_RX7_207 rfl dX7_rowOf_79 ?_
            exact J.pick [1] rfl (w_X7_rowOf_J82 C _ _ _)
          · refine J.aload_n (pc := 65) C (x := a0) dX7_rowOf_65 rfl rfl ?_
            refine J.getR (pc := 66) C fl_RX7_12 rfl dX7_rowOf_66 ?_
            refine J.getR (pc := 69) C fl_RX7_204 rfl dX7_rowOf_69 ?_
            refine J.goto (pc := 72) C (tgt := 82) dX7_rowOf_72 rfl ?_
            exact J.pick [1] rfl (w_X7_rowOf_J82 C _ _ _)
        · refine J.aload_n (pc := 51) C (x := a0) dX7_rowOf_51 rfl rfl ?_
          refine J.getR (pc := 52) C fl_RX7_12 rfl dX7_rowOf_52 ?_
          refine J.iload_n (pc := 55) C dX7_rowOf_55 rfl rfl ?_
          refine J.vI (pc := 56) C mv_X3_weightOf wm_RX7_201 (fun l => c_X3_weightOf l g S (S.2.1 a0 0) a1) ⟨⟨Nat.zero_le _, Nat.zero_le _⟩, rfl, rfl⟩ rfl ⟨Nat.le_of_ble_eq_true rfl, Nat.le_of_ble_eq_true rfl⟩ rfl ct_n (Nat.le_of_ble_eq_true rfl) dX7_rowOf_56 (fun r4 => ?_)
          exact J.iret (pc := 59) C rfl rfl ⟨Nat.le_refl _, Nat.le_refl _⟩ dX7_rowOf_59
      · refine J.aload_n (pc := 26) C (x := a0) dX7_rowOf_26 rfl rfl ?_
        refine J.getR (pc := 27) C fl_RX7_12 rfl dX7_rowOf_27 ?_
        refine J.getI (pc := 30) C fl_RX7_119 rfl dX7_rowOf_30 ?_
        refine J.iload_n (pc := 33) C dX7_rowOf_33 rfl rfl ?_
        refine J.sI (pc := 34) C ms_X7_holds wm_RX7_122 (fun l => c_X7_holds l g S (S.1 (S.2.1 a0 0) 7) a1) ⟨⟨Nat.zero_le _, Nat.zero_le _⟩, rfl, rfl⟩ rfl ⟨Nat.le_of_ble_eq_true rfl, Nat.le_of_ble_eq_true rfl⟩ rfl ct_n (Nat.le_of_ble_eq_true rfl) dX7_rowOf_34 (fun r5 => ?_)
        refine J.if_eq (pc := 37) C (tgt := 44) dX7_rowOf_37 rfl ?_ ?_
        · refine J.iconst (pc := 44) C dX7_rowOf_44 ki_0 ?_
          exact J.iret (pc := 45) C rfl rfl ⟨Nat.le_refl _, Nat.le_refl _⟩ dX7_rowOf_45
        · refine J.iconst (pc := 40) C dX7_rowOf_40 ki_1 ?_
          refine J.goto (pc := 41) C (tgt := 45) dX7_rowOf_41 rfl ?_
          exact J.iret (pc := 45) C rfl rfl ⟨Nat.le_refl _, Nat.le_refl _⟩ dX7_rowOf_45
    · refine J.ldc (pc := 19) C wc_RX7_60 dX7_rowOf_19 ?_
      exact J.iret (pc := 21) C rfl rfl ⟨Nat.le_refl _, Nat.le_refl _⟩ dX7_rowOf_21
abbrev rm_L_blinded : Room := { frames := 3, cells := 0, slots := 0, locals := 64 }
def f_L_blinded_B4 (S : St) (a0 : Nat) (kx4 : Int32 → Option Int32) (k4 : Int32 → Int32 → Option Int32) (x1 : Int32) (x2 : Int32) : Option Int32 :=
  (if (10 : Int32) ≤ x2 then
  (kx4 x1)
  else (chk (okc S 7 a0) (bnd (f_X7_rowOf S a0 x2 0) fun r1 =>
  (k4 (x1 ||| (r1 <<< (x2 &&& 31))) (x2 + 1)))))
set_option maxRecDepth 100000 in
set_option maxHeartbeats 4000000 in
theorem w_L_blinded_B4 {X : CT} {g : GG} (C : CX X g cL_blinded RL (some .int) 3 rm_L_blinded) (S : St) (a0 : Nat) (kx4 : Int32 → Option Int32) (hkx4 : ∀ (x1 : Int32), J X g (Qm X g aI (pK S)) (cw (0, 0)) 27 [(1, .int x1)] [] S (kx4 x1)) : ∀ (n : Nat) (x1 : Int32) (x2 : Int32), J X g (Qm X g aI (pK S)) (cw (0, 0)) 4 [(0, rv g a0), (1, .int x1), (2, .int x2)] [] S (wl2 (f_L_blinded_B4 S a0 kx4) n x1 x2) := by
  refine J.loop2 (lvf := fun (x1 : Int32) (x2 : Int32) => [(0, rv g a0), (1, .int x1), (2, .int x2)]) (Sf := fun (x1 : Int32) (x2 : Int32) => S) ?_
  intro k4 hk4 x1 x2
  show J X g _ _ 4 [(0, rv g a0), (1, .int x1), (2, .int x2)] [] S (f_L_blinded_B4 S a0 kx4 k4 x1 x2)
  unfold f_L_blinded_B4
  refine J.iload_n (pc := 4) C dL_blinded_4 rfl rfl ?_
  refine J.bipush (pc := 5) C dL_blinded_5 kb_10 ?_
  refine J.icmp_ge (pc := 7) C (tgt := 27) dL_blinded_7 rfl ?_ ?_
  · exact J.pick [1] rfl (hkx4 _)
  · refine J.iload_n (pc := 10) C dL_blinded_10 rfl rfl ?_
    refine J.aload_n (pc := 11) C (x := a0) dL_blinded_11 rfl rfl ?_
    refine J.iload_n (pc := 12) C dL_blinded_12 rfl rfl ?_
    refine J.iconst (pc := 13) C dL_blinded_13 ki_0 ?_
    refine J.vI (pc := 14) C mv_X7_rowOf wm_RL_8 (fun l => c_X7_rowOf l g S a0 x2 0) ⟨⟨Nat.zero_le _, Nat.zero_le _⟩, rfl, rfl⟩ rfl ⟨Nat.le_of_ble_eq_true rfl, Nat.le_of_ble_eq_true rfl⟩ rfl (ct_i ct_n) (Nat.le_of_ble_eq_true rfl) dL_blinded_14 (fun r1 => ?_)
    refine J.iload_n (pc := 17) C dL_blinded_17 rfl rfl ?_
    refine J.ishl (pc := 18) C dL_blinded_18 ?_
    refine J.ior (pc := 19) C dL_blinded_19 ?_
    refine J.istore_n (pc := 20) C (lv' := [(0, rv g a0), (1, .int (x1 ||| (r1 <<< (x2 &&& 31)))), (2, .int x2)]) dL_blinded_20 rfl (Nat.le_of_ble_eq_true rfl) (lsf_r (lsf_i (lsf_i lsf_n))) rfl ?_
    refine J.iinc (pc := 21) C (lv' := [(0, rv g a0), (1, .int (x1 ||| (r1 <<< (x2 &&& 31)))), (2, .int (x2 + 1))]) dL_blinded_21 rfl (Nat.le_of_ble_eq_true rfl) (lsf_r (lsf_i (lsf_i lsf_n))) ki_1 rfl ?_
    refine J.goto (pc := 24) C (tgt := 4) dL_blinded_24 rfl ?_
    exact (hk4 _ _)
def f_L_blinded (S : St) (a0 : Nat) : Option Int32 :=
  (wl2 (f_L_blinded_B4 S a0 (fun (y1_2 : Int32) => (some y1_2))) FU 0 0)
set_option maxRecDepth 100000 in
set_option maxHeartbeats 4000000 in
theorem c_L_blinded (l : Launch) (g : GG) (S : St) (a0 : Nat) : Ct l yL_blinded cL_blinded 3 (some .int) rm_L_blinded g aI (pK S) [rv g a0] S (f_L_blinded S a0) := by
  refine Ct.mk (cf := cw (0, 0)) (by decide +kernel) (cat_r cat_n) (Nat.le_of_ble_eq_true rfl) rfl ?_
  intro X hXl hin C
  show J X g _ _ 0 [(0, rv g a0)] [] S (f_L_blinded S a0)
  unfold f_L_blinded
  refine J.iconst (pc := 0) C dL_blinded_0 ki_0 ?_
  refine J.istore_n (pc := 1) C (lv' := [(0, rv g a0), (1, .int 0)]) dL_blinded_1 rfl (Nat.le_of_ble_eq_true rfl) (lsf_r lsf_n) rfl ?_
  refine J.iconst (pc := 2) C dL_blinded_2 ki_0 ?_
  refine J.istore_n (pc := 3) C (lv' := [(0, rv g a0), (1, .int 0), (2, .int 0)]) dL_blinded_3 rfl (Nat.le_of_ble_eq_true rfl) (lsf_r (lsf_i lsf_n)) rfl ?_
  refine w_L_blinded_B4 C _ _ _ (fun y1_2 => ?_) FU _ _
  refine J.iload_n (pc := 27) C dL_blinded_27 rfl rfl ?_
  exact J.iret (pc := 28) C rfl rfl ⟨Nat.le_refl _, Nat.le_refl _⟩ dL_blinded_28
abbrev rm_X0_become : Room := { frames := 0, cells := 0, slots := 0, locals := 0 }
def f_X0_become_B18 (a0 : Nat) (a1 : Nat) (kx18 : St → Option St) (k18 : St → Int32 → Option St) (S : St) (x2 : Int32) : Option St :=
  (chk (okc S 0 a0)
  (chk (okc S 10 (S.2.1 a0 2))
  (if (Int32.ofNat (ln (S.2.1 a0 2))) ≤ x2 then
  (kx18 S)
  else (chk (okc S 0 a1)
  (chk (okc S 10 (S.2.1 a1 2))
  (if (Int32.ofNat (ln (S.2.1 a1 2))) ≤ x2 then
  (kx18 S)
  else (chk (okc S 0 a0)
  (chk (okc S 0 a1)
  (chk (ina S 10 (S.2.1 a1 2) x2)
  (chk (inw S 10 (S.2.1 a0 2) x2) (vlt (upI S (S.2.1 a0 2) x2.toNatClampNeg (S.1 (S.2.1 a1 2) x2.toNatClampNeg)) fun S_3 =>
  (k18 S_3 (x2 + 1)))))))))))))
set_option maxRecDepth 100000 in
set_option maxHeartbeats 4000000 in
theorem w_X0_become_B18 {X : CT} {g : GG} (C : CX X g cX0_become RX0 none 3 rm_X0_become) (a0 : Nat) (a1 : Nat) (kx18 : St → Option St) (hkx18 : ∀ (S : St), J X g (Qm X g aU pU) (cw (0, 0)) 54 [] [] S (kx18 S)) : ∀ (n : Nat) (S : St) (x2 : Int32), J X g (Qm X g aU pU) (cw (0, 0)) 18 [(0, rv g a0), (1, rv g a1), (2, .int x2)] [] S (wl2 (f_X0_become_B18 a0 a1 kx18) n S x2) := by
  refine J.loop2 (lvf := fun (S : St) (x2 : Int32) => [(0, rv g a0), (1, rv g a1), (2, .int x2)]) (Sf := fun (S : St) (x2 : Int32) => S) ?_
  intro k18 hk18 S x2
  show J X g _ _ 18 [(0, rv g a0), (1, rv g a1), (2, .int x2)] [] S (f_X0_become_B18 a0 a1 kx18 k18 S x2)
  unfold f_X0_become_B18
  refine J.iload_n (pc := 18) C dX0_become_18 rfl rfl ?_
  refine J.aload_n (pc := 19) C (x := a0) dX0_become_19 rfl rfl ?_
  refine J.getR (pc := 20) C fl_RX0_9 rfl dX0_become_20 ?_
  refine J.alen (pc := 23) C 10 (by decide) dX0_become_23 ?_
  refine J.icmp_ge (pc := 24) C (tgt := 54) dX0_become_24 rfl ?_ ?_
  · exact J.pick [] rfl (hkx18 _)
  · refine J.iload_n (pc := 27) C dX0_become_27 rfl rfl ?_
    refine J.aload_n (pc := 28) C (x := a1) dX0_become_28 rfl rfl ?_
    refine J.getR (pc := 29) C fl_RX0_9 rfl dX0_become_29 ?_
    refine J.alen (pc := 32) C 10 (by decide) dX0_become_32 ?_
    refine J.icmp_ge (pc := 33) C (tgt := 54) dX0_become_33 rfl ?_ ?_
    · exact J.pick [] rfl (hkx18 _)
    · refine J.aload_n (pc := 36) C (x := a0) dX0_become_36 rfl rfl ?_
      refine J.getR (pc := 37) C fl_RX0_9 rfl dX0_become_37 ?_
      refine J.iload_n (pc := 40) C dX0_become_40 rfl rfl ?_
      refine J.aload_n (pc := 41) C (x := a1) dX0_become_41 rfl rfl ?_
      refine J.getR (pc := 42) C fl_RX0_9 rfl dX0_become_42 ?_
      refine J.iload_n (pc := 45) C dX0_become_45 rfl rfl ?_
      refine J.iald (pc := 46) C dX0_become_46 ?_
      refine J.iasts (pc := 47) C dX0_become_47 (fun S_3 => ?_)
      refine J.iinc (pc := 48) C (lv' := [(0, rv g a0), (1, rv g a1), (2, .int (x2 + 1))]) dX0_become_48 rfl (Nat.le_of_ble_eq_true rfl) (lsf_r (lsf_r (lsf_i lsf_n))) ki_1 rfl ?_
      refine J.goto (pc := 51) C (tgt := 18) dX0_become_51 rfl ?_
      exact (hk18 _ _)
def f_X0_become (S : St) (a0 : Nat) (a1 : Nat) : Option St :=
  (chk (okc S 0 a1)
  (chk (okc S 0 a0) (vlt (upI S a0 0 (S.1 a1 0)) fun S_1 =>
  (chk (okc S_1 0 a1)
  (chk (okc S_1 0 a0) (vlt (upI S_1 a0 1 (S_1.1 a1 1)) fun S_2 =>
  (wl2 (f_X0_become_B18 a0 a1 (fun (S_4 : St) => (some S_4))) FU S_2 0)))))))
set_option maxRecDepth 100000 in
set_option maxHeartbeats 4000000 in
theorem c_X0_become (l : Launch) (g : GG) (S : St) (a0 : Nat) (a1 : Nat) : Ct l yX0_become cX0_become 3 none rm_X0_become g aU pU [rv g a0, rv g a1] S (f_X0_become S a0 a1) := by
  refine Ct.mk (cf := cw (0, 0)) (by decide +kernel) (cat_r (cat_r cat_n)) (Nat.le_of_ble_eq_true rfl) rfl ?_
  intro X hXl hin C
  show J X g _ _ 0 [(0, rv g a0), (1, rv g a1)] [] S (f_X0_become S a0 a1)
  unfold f_X0_become
  refine J.aload_n (pc := 0) C (x := a0) dX0_become_0 rfl rfl ?_
  refine J.aload_n (pc := 1) C (x := a1) dX0_become_1 rfl rfl ?_
  refine J.getI (pc := 2) C fl_RX0_15 rfl dX0_become_2 ?_
  refine J.putIs (pc := 5) C fl_RX0_15 rfl (fun r h => by cases h; rfl) rfl rfl dX0_become_5 (fun S_1 => ?_)
  refine J.aload_n (pc := 8) C (x := a0) dX0_become_8 rfl rfl ?_
  refine J.aload_n (pc := 9) C (x := a1) dX0_become_9 rfl rfl ?_
  refine J.getI (pc := 10) C fl_RX0_19 rfl dX0_become_10 ?_
  refine J.putIs (pc := 13) C fl_RX0_19 rfl (fun r h => by cases h; rfl) rfl rfl dX0_become_13 (fun S_2 => ?_)
  refine J.iconst (pc := 16) C dX0_become_16 ki_0 ?_
  refine J.istore_n (pc := 17) C (lv' := [(0, rv g a0), (1, rv g a1), (2, .int 0)]) dX0_become_17 rfl (Nat.le_of_ble_eq_true rfl) (lsf_r (lsf_r lsf_n)) rfl ?_
  refine w_X0_become_B18 C _ _ _ (fun S_4 => ?_) FU _ _
  exact J.vret (pc := 54) C rfl rfl ⟨Nat.le_refl _, Nat.le_refl _⟩ dX0_become_54
abbrev rm_X3_frameAt : Room := { frames := 0, cells := 0, slots := 0, locals := 0 }
def f_X3_frameAt (S : St) (a0 : Nat) (a1 : Int32) : Option Nat :=
  (if a1 < 0 then
  (some 0)
  else (chk (okc S 3 a0)
  (if (S.1 a0 4) ≤ a1 then
  (some 0)
  else (chk (okc S 3 a0)
  (chk (okc S 12 (S.2.1 a0 3))
  (if (Int32.ofNat (ln (S.2.1 a0 3))) ≤ a1 then
  (some 0)
  else (chk (okc S 3 a0)
  (chk (ina S 12 (S.2.1 a0 3) a1)
  (some (S.2.1 (S.2.1 a0 3) a1.toNatClampNeg))))))))))
set_option maxRecDepth 100000 in
set_option maxHeartbeats 4000000 in
theorem c_X3_frameAt (l : Launch) (g : GG) (S : St) (a0 : Nat) (a1 : Int32) : Ct l yX3_frameAt cX3_frameAt 2 (some (.object "RowVotes$Frame")) rm_X3_frameAt g (aR g) (pK S) [rv g a0, .int a1] S (f_X3_frameAt S a0 a1) := by
  refine Ct.mk (cf := cw (0, 0)) (by decide +kernel) (cat_r (cat_i cat_n)) (Nat.le_of_ble_eq_true rfl) rfl ?_
  intro X hXl hin C
  show J X g _ _ 0 [(0, rv g a0), (1, .int a1)] [] S (f_X3_frameAt S a0 a1)
  unfold f_X3_frameAt
  refine J.iload_n (pc := 0) C dX3_frameAt_0 rfl rfl ?_
  refine J.if_lt (pc := 1) C (tgt := 30) dX3_frameAt_1 rfl ?_ ?_
  · refine J.anull (pc := 30) C dX3_frameAt_30 ?_
    exact J.aret (pc := 31) C rfl rfl ⟨Nat.le_refl _, Nat.le_refl _⟩ dX3_frameAt_31
  · refine J.iload_n (pc := 4) C dX3_frameAt_4 rfl rfl ?_
    refine J.aload_n (pc := 5) C (x := a0) dX3_frameAt_5 rfl rfl ?_
    refine J.getI (pc := 6) C fl_RX3_67 rfl dX3_frameAt_6 ?_
    refine J.icmp_ge (pc := 9) C (tgt := 30) dX3_frameAt_9 rfl ?_ ?_
    · refine J.anull (pc := 30) C dX3_frameAt_30 ?_
      exact J.aret (pc := 31) C rfl rfl ⟨Nat.le_refl _, Nat.le_refl _⟩ dX3_frameAt_31
    · refine J.iload_n (pc := 12) C dX3_frameAt_12 rfl rfl ?_
      refine J.aload_n (pc := 13) C (x := a0) dX3_frameAt_13 rfl rfl ?_
      refine J.getR (pc := 14) C fl_RX3_23 rfl dX3_frameAt_14 ?_
      refine J.alen (pc := 17) C 12 (by decide) dX3_frameAt_17 ?_
      refine J.icmp_ge (pc := 18) C (tgt := 30) dX3_frameAt_18 rfl ?_ ?_
      · refine J.anull (pc := 30) C dX3_frameAt_30 ?_
        exact J.aret (pc := 31) C rfl rfl ⟨Nat.le_refl _, Nat.le_refl _⟩ dX3_frameAt_31
      · refine J.aload_n (pc := 21) C (x := a0) dX3_frameAt_21 rfl rfl ?_
        refine J.getR (pc := 22) C fl_RX3_23 rfl dX3_frameAt_22 ?_
        refine J.iload_n (pc := 25) C dX3_frameAt_25 rfl rfl ?_
        refine J.aald (pc := 26) C 12 (by decide) (fun _ => rfl) rfl dX3_frameAt_26 ?_
        refine J.goto (pc := 27) C (tgt := 31) dX3_frameAt_27 rfl ?_
        exact J.aret (pc := 31) C rfl rfl ⟨Nat.le_refl _, Nat.le_refl _⟩ dX3_frameAt_31
abbrev rm_X3_becomeInFrames : Room := { frames := 1, cells := 0, slots := 0, locals := 22 }
def f_X3_becomeInFrames_B18 (a0 : Nat) (a1 : Nat) (kx18 : St → Option St) (k18 : St → Int32 → Option St) (S : St) (x2 : Int32) : Option St :=
  (chk (okc S 3 a0)
  (if (S.1 a0 4) ≤ x2 then
  (kx18 S)
  else (chk (okc S 3 a0) (bnd (f_X3_frameAt S a0 x2) fun r3 =>
  (chk (okc S 3 a1) (bnd (f_X3_frameAt S a1 x2) fun r4 =>
  (if r3 = 0 then
  (k18 S (x2 + 1))
  else (if r4 = 0 then
  (k18 S (x2 + 1))
  else (chk (okc S 0 r3) (bnd (f_X0_become S r3 r4) fun S_5 =>
  (k18 S_5 (x2 + 1))))))))))))
set_option maxRecDepth 100000 in
set_option maxHeartbeats 4000000 in
theorem w_X3_becomeInFrames_B18 {X : CT} {g : GG} (C : CX X g cX3_becomeInFrames RX3 none 5 rm_X3_becomeInFrames) (a0 : Nat) (a1 : Nat) (kx18 : St → Option St) (hkx18 : ∀ (S : St), J X g (Qm X g aU pU) (cw (0, 0)) 60 [] [] S (kx18 S)) : ∀ (n : Nat) (S : St) (x2 : Int32), J X g (Qm X g aU pU) (cw (0, 0)) 18 [(0, rv g a0), (1, rv g a1), (2, .int x2)] [] S (wl2 (f_X3_becomeInFrames_B18 a0 a1 kx18) n S x2) := by
  refine J.loop2 (lvf := fun (S : St) (x2 : Int32) => [(0, rv g a0), (1, rv g a1), (2, .int x2)]) (Sf := fun (S : St) (x2 : Int32) => S) ?_
  intro k18 hk18 S x2
  show J X g _ _ 18 [(0, rv g a0), (1, rv g a1), (2, .int x2)] [] S (f_X3_becomeInFrames_B18 a0 a1 kx18 k18 S x2)
  unfold f_X3_becomeInFrames_B18
  refine J.iload_n (pc := 18) C dX3_becomeInFrames_18 rfl rfl ?_
  refine J.aload_n (pc := 19) C (x := a0) dX3_becomeInFrames_19 rfl rfl ?_
  refine J.getI (pc := 20) C fl_RX3_67 rfl dX3_becomeInFrames_20 ?_
  refine J.icmp_ge (pc := 23) C (tgt := 60) dX3_becomeInFrames_23 rfl ?_ ?_
  · exact J.pick [] rfl (hkx18 _)
  · refine J.aload_n (pc := 26) C (x := a0) dX3_becomeInFrames_26 rfl rfl ?_
    refine J.iload_n (pc := 27) C dX3_becomeInFrames_27 rfl rfl ?_
    refine J.vR (pc := 28) C mv_X3_frameAt wm_RX3_73 (fun l => c_X3_frameAt l g S a0 x2) ⟨⟨Nat.zero_le _, Nat.zero_le _⟩, rfl, rfl⟩ rfl ⟨Nat.le_of_ble_eq_true rfl, Nat.le_of_ble_eq_true rfl⟩ rfl ct_n (Nat.le_of_ble_eq_true rfl) dX3_becomeInFrames_28 (fun r3 => ?_)
    refine J.astore_n (pc := 31) C (lv' := [(0, rv g a0), (1, rv g a1), (2, .int x2), (3, rv g r3)]) dX3_becomeInFrames_31 rfl (Nat.le_of_ble_eq_true rfl) (lsf_r (lsf_r (lsf_i lsf_n))) rfl ?_
    refine J.aload_n (pc := 32) C (x := a1) dX3_becomeInFrames_32 rfl rfl ?_
    refine J.iload_n (pc := 33) C dX3_becomeInFrames_33 rfl rfl ?_
    refine J.vR (pc := 34) C mv_X3_frameAt wm_RX3_73 (fun l => c_X3_frameAt l g S a1 x2) ⟨⟨Nat.zero_le _, Nat.zero_le _⟩, rfl, rfl⟩ rfl ⟨Nat.le_of_ble_eq_true rfl, Nat.le_of_ble_eq_true rfl⟩ rfl ct_n (Nat.le_of_ble_eq_true rfl) dX3_becomeInFrames_34 (fun r4 => ?_)
    refine J.astore (pc := 37) C (lv' := [(0, rv g a0), (1, rv g a1), (2, .int x2), (3, rv g r3), (4, rv g r4)]) dX3_becomeInFrames_37 (Nat.le_of_ble_eq_true rfl) (lsf_r (lsf_r (lsf_i (lsf_r lsf_n)))) rfl ?_
    refine J.aload_n (pc := 39) C (x := r3) dX3_becomeInFrames_39 rfl rfl ?_
    refine J.ifnull (pc := 40) C (tgt := 54) dX3_becomeInFrames_40 rfl ?_ ?_
    · refine J.iinc (pc := 54) C (lv' := [(0, rv g a0), (1, rv g a1), (2, .int (x2 + 1)), (3, rv g r3), (4, rv g r4)]) dX3_becomeInFrames_54 rfl (Nat.le_of_ble_eq_true rfl) (lsf_r (lsf_r (lsf_i (lsf_r (lsf_r lsf_n))))) ki_1 rfl ?_
      refine J.goto (pc := 57) C (tgt := 18) dX3_becomeInFrames_57 rfl ?_
      exact J.pick [0, 1, 2] rfl (hk18 _ _)
    · refine J.aload (pc := 43) C (x := r4) dX3_becomeInFrames_43 rfl ?_
      refine J.ifnull (pc := 45) C (tgt := 54) dX3_becomeInFrames_45 rfl ?_ ?_
      · refine J.iinc (pc := 54) C (lv' := [(0, rv g a0), (1, rv g a1), (2, .int (x2 + 1)), (3, rv g r3), (4, rv g r4)]) dX3_becomeInFrames_54 rfl (Nat.le_of_ble_eq_true rfl) (lsf_r (lsf_r (lsf_i (lsf_r (lsf_r lsf_n))))) ki_1 rfl ?_
        refine J.goto (pc := 57) C (tgt := 18) dX3_becomeInFrames_57 rfl ?_
        exact J.pick [0, 1, 2] rfl (hk18 _ _)
      · refine J.aload_n (pc := 48) C (x := r3) dX3_becomeInFrames_48 rfl rfl ?_
        refine J.aload (pc := 49) C (x := r4) dX3_becomeInFrames_49 rfl ?_
        refine J.vU (pc := 51) C mv_X0_become wm_RX3_77 (fun l => c_X0_become l g S r3 r4) ⟨⟨Nat.zero_le _, Nat.zero_le _⟩, rfl, rfl⟩ rfl ⟨Nat.le_of_ble_eq_true rfl, Nat.le_of_ble_eq_true rfl⟩ rfl ct_n (Nat.le_of_ble_eq_true rfl) dX3_becomeInFrames_51 (fun S_5 => ?_)
        refine J.iinc (pc := 54) C (lv' := [(0, rv g a0), (1, rv g a1), (2, .int (x2 + 1)), (3, rv g r3), (4, rv g r4)]) dX3_becomeInFrames_54 rfl (Nat.le_of_ble_eq_true rfl) (lsf_r (lsf_r (lsf_i (lsf_r (lsf_r lsf_n))))) ki_1 rfl ?_
        refine J.goto (pc := 57) C (tgt := 18) dX3_becomeInFrames_57 rfl ?_
        exact J.pick [0, 1, 2] rfl (hk18 _ _)
def f_X3_becomeInFrames (S : St) (a0 : Nat) (a1 : Nat) : Option St :=
  (chk (okc S 3 a1)
  (chk (okc S 3 a0) (vlt (upI S a0 4 (S.1 a1 4)) fun S_1 =>
  (chk (okc S_1 3 a1)
  (chk (okc S_1 3 a0) (vlt (upI S_1 a0 5 (S_1.1 a1 5)) fun S_2 =>
  (wl2 (f_X3_becomeInFrames_B18 a0 a1 (fun (S_6 : St) => (some S_6))) FU S_2 0)))))))
set_option maxRecDepth 100000 in
set_option maxHeartbeats 4000000 in
theorem c_X3_becomeInFrames (l : Launch) (g : GG) (S : St) (a0 : Nat) (a1 : Nat) : Ct l yX3_becomeInFrames cX3_becomeInFrames 5 none rm_X3_becomeInFrames g aU pU [rv g a0, rv g a1] S (f_X3_becomeInFrames S a0 a1) := by
  refine Ct.mk (cf := cw (0, 0)) (by decide +kernel) (cat_r (cat_r cat_n)) (Nat.le_of_ble_eq_true rfl) rfl ?_
  intro X hXl hin C
  show J X g _ _ 0 [(0, rv g a0), (1, rv g a1)] [] S (f_X3_becomeInFrames S a0 a1)
  unfold f_X3_becomeInFrames
  refine J.aload_n (pc := 0) C (x := a0) dX3_becomeInFrames_0 rfl rfl ?_
  refine J.aload_n (pc := 1) C (x := a1) dX3_becomeInFrames_1 rfl rfl ?_
  refine J.getI (pc := 2) C fl_RX3_67 rfl dX3_becomeInFrames_2 ?_
  refine J.putIs (pc := 5) C fl_RX3_67 rfl (fun r h => by cases h; rfl) rfl rfl dX3_becomeInFrames_5 (fun S_1 => ?_)
  refine J.aload_n (pc := 8) C (x := a0) dX3_becomeInFrames_8 rfl rfl ?_
  refine J.aload_n (pc := 9) C (x := a1) dX3_becomeInFrames_9 rfl rfl ?_
  refine J.getI (pc := 10) C fl_RX3_70 rfl dX3_becomeInFrames_10 ?_
  refine J.putIs (pc := 13) C fl_RX3_70 rfl (fun r h => by cases h; rfl) rfl rfl dX3_becomeInFrames_13 (fun S_2 => ?_)
  refine J.iconst (pc := 16) C dX3_becomeInFrames_16 ki_0 ?_
  refine J.istore_n (pc := 17) C (lv' := [(0, rv g a0), (1, rv g a1), (2, .int 0)]) dX3_becomeInFrames_17 rfl (Nat.le_of_ble_eq_true rfl) (lsf_r (lsf_r lsf_n)) rfl ?_
  refine w_X3_becomeInFrames_B18 C _ _ _ (fun S_6 => ?_) FU _ _
  exact J.vret (pc := 60) C rfl rfl ⟨Nat.le_refl _, Nat.le_refl _⟩ dX3_becomeInFrames_60
abbrev rm_X3_thingAt : Room := { frames := 0, cells := 0, slots := 0, locals := 0 }
def f_X3_thingAt (S : St) (a0 : Nat) (a1 : Int32) : Option Nat :=
  (if a1 < 0 then
  (some 0)
  else (chk (okc S 3 a0)
  (if (S.1 a0 2) ≤ a1 then
  (some 0)
  else (chk (okc S 3 a0)
  (chk (okc S 14 (S.2.1 a0 1))
  (if (Int32.ofNat (ln (S.2.1 a0 1))) ≤ a1 then
  (some 0)
  else (chk (okc S 3 a0)
  (chk (ina S 14 (S.2.1 a0 1) a1)
  (some (S.2.1 (S.2.1 a0 1) a1.toNatClampNeg))))))))))
set_option maxRecDepth 100000 in
set_option maxHeartbeats 4000000 in
theorem c_X3_thingAt (l : Launch) (g : GG) (S : St) (a0 : Nat) (a1 : Int32) : Ct l yX3_thingAt cX3_thingAt 2 (some (.object "RowVotes$Thing")) rm_X3_thingAt g (aR g) (pK S) [rv g a0, .int a1] S (f_X3_thingAt S a0 a1) := by
  refine Ct.mk (cf := cw (0, 0)) (by decide +kernel) (cat_r (cat_i cat_n)) (Nat.le_of_ble_eq_true rfl) rfl ?_
  intro X hXl hin C
  show J X g _ _ 0 [(0, rv g a0), (1, .int a1)] [] S (f_X3_thingAt S a0 a1)
  unfold f_X3_thingAt
  refine J.iload_n (pc := 0) C dX3_thingAt_0 rfl rfl ?_
  refine J.if_lt (pc := 1) C (tgt := 30) dX3_thingAt_1 rfl ?_ ?_
  · refine J.anull (pc := 30) C dX3_thingAt_30 ?_
    exact J.aret (pc := 31) C rfl rfl ⟨Nat.le_refl _, Nat.le_refl _⟩ dX3_thingAt_31
  · refine J.iload_n (pc := 4) C dX3_thingAt_4 rfl rfl ?_
    refine J.aload_n (pc := 5) C (x := a0) dX3_thingAt_5 rfl rfl ?_
    refine J.getI (pc := 6) C fl_RX3_56 rfl dX3_thingAt_6 ?_
    refine J.icmp_ge (pc := 9) C (tgt := 30) dX3_thingAt_9 rfl ?_ ?_
    · refine J.anull (pc := 30) C dX3_thingAt_30 ?_
      exact J.aret (pc := 31) C rfl rfl ⟨Nat.le_refl _, Nat.le_refl _⟩ dX3_thingAt_31
    · refine J.iload_n (pc := 12) C dX3_thingAt_12 rfl rfl ?_
      refine J.aload_n (pc := 13) C (x := a0) dX3_thingAt_13 rfl rfl ?_
      refine J.getR (pc := 14) C fl_RX3_17 rfl dX3_thingAt_14 ?_
      refine J.alen (pc := 17) C 14 (by decide) dX3_thingAt_17 ?_
      refine J.icmp_ge (pc := 18) C (tgt := 30) dX3_thingAt_18 rfl ?_ ?_
      · refine J.anull (pc := 30) C dX3_thingAt_30 ?_
        exact J.aret (pc := 31) C rfl rfl ⟨Nat.le_refl _, Nat.le_refl _⟩ dX3_thingAt_31
      · refine J.aload_n (pc := 21) C (x := a0) dX3_thingAt_21 rfl rfl ?_
        refine J.getR (pc := 22) C fl_RX3_17 rfl dX3_thingAt_22 ?_
        refine J.iload_n (pc := 25) C dX3_thingAt_25 rfl rfl ?_
        refine J.aald (pc := 26) C 14 (by decide) (fun _ => rfl) rfl dX3_thingAt_26 ?_
        refine J.goto (pc := 27) C (tgt := 31) dX3_thingAt_27 rfl ?_
        exact J.aret (pc := 31) C rfl rfl ⟨Nat.le_refl _, Nat.le_refl _⟩ dX3_thingAt_31
abbrev rm_X5_become : Room := { frames := 0, cells := 0, slots := 0, locals := 0 }
def f_X5_become (S : St) (a0 : Nat) (a1 : Nat) : Option St :=
  (chk (okc S 5 a1)
  (chk (okc S 5 a0) (vlt (upI S a0 0 (S.1 a1 0)) fun S_1 =>
  (chk (okc S_1 5 a1)
  (chk (okc S_1 5 a0) (vlt (upI S_1 a0 1 (S_1.1 a1 1)) fun S_2 =>
  (chk (okc S_2 5 a1)
  (chk (okc S_2 5 a0) (vlt (upI S_2 a0 2 (S_2.1 a1 2)) fun S_3 =>
  (chk (okc S_3 5 a1)
  (chk (okc S_3 5 a0) (vlt (upI S_3 a0 3 (S_3.1 a1 3)) fun S_4 =>
  (chk (okc S_4 5 a1)
  (chk (okc S_4 5 a0) (vlt (upI S_4 a0 4 (S_4.1 a1 4)) fun S_5 =>
  (chk (okc S_5 5 a1)
  (chk (okc S_5 5 a0) (vlt (upI S_5 a0 5 (S_5.1 a1 5)) fun S_6 =>
  (some S_6)))))))))))))))))))
set_option maxRecDepth 100000 in
set_option maxHeartbeats 4000000 in
theorem c_X5_become (l : Launch) (g : GG) (S : St) (a0 : Nat) (a1 : Nat) : Ct l yX5_become cX5_become 2 none rm_X5_become g aU pU [rv g a0, rv g a1] S (f_X5_become S a0 a1) := by
  refine Ct.mk (cf := cw (0, 0)) (by decide +kernel) (cat_r (cat_r cat_n)) (Nat.le_of_ble_eq_true rfl) rfl ?_
  intro X hXl hin C
  show J X g _ _ 0 [(0, rv g a0), (1, rv g a1)] [] S (f_X5_become S a0 a1)
  unfold f_X5_become
  refine J.aload_n (pc := 0) C (x := a0) dX5_become_0 rfl rfl ?_
  refine J.aload_n (pc := 1) C (x := a1) dX5_become_1 rfl rfl ?_
  refine J.getI (pc := 2) C fl_RX5_7 rfl dX5_become_2 ?_
  refine J.putIs (pc := 5) C fl_RX5_7 rfl (fun r h => by cases h; rfl) rfl rfl dX5_become_5 (fun S_1 => ?_)
  refine J.aload_n (pc := 8) C (x := a0) dX5_become_8 rfl rfl ?_
  refine J.aload_n (pc := 9) C (x := a1) dX5_become_9 rfl rfl ?_
  refine J.getI (pc := 10) C fl_RX5_13 rfl dX5_become_10 ?_
  refine J.putIs (pc := 13) C fl_RX5_13 rfl (fun r h => by cases h; rfl) rfl rfl dX5_become_13 (fun S_2 => ?_)
  refine J.aload_n (pc := 16) C (x := a0) dX5_become_16 rfl rfl ?_
  refine J.aload_n (pc := 17) C (x := a1) dX5_become_17 rfl rfl ?_
  refine J.getI (pc := 18) C fl_RX5_16 rfl dX5_become_18 ?_
  refine J.putIs (pc := 21) C fl_RX5_16 rfl (fun r h => by cases h; rfl) rfl rfl dX5_become_21 (fun S_3 => ?_)
  refine J.aload_n (pc := 24) C (x := a0) dX5_become_24 rfl rfl ?_
  refine J.aload_n (pc := 25) C (x := a1) dX5_become_25 rfl rfl ?_
  refine J.getI (pc := 26) C fl_RX5_19 rfl dX5_become_26 ?_
  refine J.putIs (pc := 29) C fl_RX5_19 rfl (fun r h => by cases h; rfl) rfl rfl dX5_become_29 (fun S_4 => ?_)
  refine J.aload_n (pc := 32) C (x := a0) dX5_become_32 rfl rfl ?_
  refine J.aload_n (pc := 33) C (x := a1) dX5_become_33 rfl rfl ?_
  refine J.getI (pc := 34) C fl_RX5_22 rfl dX5_become_34 ?_
  refine J.putIs (pc := 37) C fl_RX5_22 rfl (fun r h => by cases h; rfl) rfl rfl dX5_become_37 (fun S_5 => ?_)
  refine J.aload_n (pc := 40) C (x := a0) dX5_become_40 rfl rfl ?_
  refine J.aload_n (pc := 41) C (x := a1) dX5_become_41 rfl rfl ?_
  refine J.getI (pc := 42) C fl_RX5_25 rfl dX5_become_42 ?_
  refine J.putIs (pc := 45) C fl_RX5_25 rfl (fun r h => by cases h; rfl) rfl rfl dX5_become_45 (fun S_6 => ?_)
  exact J.vret (pc := 48) C rfl rfl ⟨Nat.le_refl _, Nat.le_refl _⟩ dX5_become_48
abbrev rm_X3_becomeInThings : Room := { frames := 1, cells := 0, slots := 0, locals := 21 }
def f_X3_becomeInThings_B10 (a0 : Nat) (a1 : Nat) (kx10 : St → Option St) (k10 : St → Int32 → Option St) (S : St) (x2 : Int32) : Option St :=
  (chk (okc S 3 a0)
  (if (S.1 a0 2) ≤ x2 then
  (kx10 S)
  else (chk (okc S 3 a0) (bnd (f_X3_thingAt S a0 x2) fun r2 =>
  (chk (okc S 3 a1) (bnd (f_X3_thingAt S a1 x2) fun r3 =>
  (if r2 = 0 then
  (k10 S (x2 + 1))
  else (if r3 = 0 then
  (k10 S (x2 + 1))
  else (chk (okc S 5 r2) (bnd (f_X5_become S r2 r3) fun S_4 =>
  (k10 S_4 (x2 + 1))))))))))))
set_option maxRecDepth 100000 in
set_option maxHeartbeats 4000000 in
theorem w_X3_becomeInThings_B10 {X : CT} {g : GG} (C : CX X g cX3_becomeInThings RX3 none 5 rm_X3_becomeInThings) (a0 : Nat) (a1 : Nat) (kx10 : St → Option St) (hkx10 : ∀ (S : St), J X g (Qm X g aU pU) (cw (0, 0)) 52 [] [] S (kx10 S)) : ∀ (n : Nat) (S : St) (x2 : Int32), J X g (Qm X g aU pU) (cw (0, 0)) 10 [(0, rv g a0), (1, rv g a1), (2, .int x2)] [] S (wl2 (f_X3_becomeInThings_B10 a0 a1 kx10) n S x2) := by
  refine J.loop2 (lvf := fun (S : St) (x2 : Int32) => [(0, rv g a0), (1, rv g a1), (2, .int x2)]) (Sf := fun (S : St) (x2 : Int32) => S) ?_
  intro k10 hk10 S x2
  show J X g _ _ 10 [(0, rv g a0), (1, rv g a1), (2, .int x2)] [] S (f_X3_becomeInThings_B10 a0 a1 kx10 k10 S x2)
  unfold f_X3_becomeInThings_B10
  refine J.iload_n (pc := 10) C dX3_becomeInThings_10 rfl rfl ?_
  refine J.aload_n (pc := 11) C (x := a0) dX3_becomeInThings_11 rfl rfl ?_
  refine J.getI (pc := 12) C fl_RX3_56 rfl dX3_becomeInThings_12 ?_
  refine J.icmp_ge (pc := 15) C (tgt := 52) dX3_becomeInThings_15 rfl ?_ ?_
  · exact J.pick [] rfl (hkx10 _)
  · refine J.aload_n (pc := 18) C (x := a0) dX3_becomeInThings_18 rfl rfl ?_
    refine J.iload_n (pc := 19) C dX3_becomeInThings_19 rfl rfl ?_
    refine J.vR (pc := 20) C mv_X3_thingAt wm_RX3_59 (fun l => c_X3_thingAt l g S a0 x2) ⟨⟨Nat.zero_le _, Nat.zero_le _⟩, rfl, rfl⟩ rfl ⟨Nat.le_of_ble_eq_true rfl, Nat.le_of_ble_eq_true rfl⟩ rfl ct_n (Nat.le_of_ble_eq_true rfl) dX3_becomeInThings_20 (fun r2 => ?_)
    refine J.astore_n (pc := 23) C (lv' := [(0, rv g a0), (1, rv g a1), (2, .int x2), (3, rv g r2)]) dX3_becomeInThings_23 rfl (Nat.le_of_ble_eq_true rfl) (lsf_r (lsf_r (lsf_i lsf_n))) rfl ?_
    refine J.aload_n (pc := 24) C (x := a1) dX3_becomeInThings_24 rfl rfl ?_
    refine J.iload_n (pc := 25) C dX3_becomeInThings_25 rfl rfl ?_
    refine J.vR (pc := 26) C mv_X3_thingAt wm_RX3_59 (fun l => c_X3_thingAt l g S a1 x2) ⟨⟨Nat.zero_le _, Nat.zero_le _⟩, rfl, rfl⟩ rfl ⟨Nat.le_of_ble_eq_true rfl, Nat.le_of_ble_eq_true rfl⟩ rfl ct_n (Nat.le_of_ble_eq_true rfl) dX3_becomeInThings_26 (fun r3 => ?_)
    refine J.astore (pc := 29) C (lv' := [(0, rv g a0), (1, rv g a1), (2, .int x2), (3, rv g r2), (4, rv g r3)]) dX3_becomeInThings_29 (Nat.le_of_ble_eq_true rfl) (lsf_r (lsf_r (lsf_i (lsf_r lsf_n)))) rfl ?_
    refine J.aload_n (pc := 31) C (x := r2) dX3_becomeInThings_31 rfl rfl ?_
    refine J.ifnull (pc := 32) C (tgt := 46) dX3_becomeInThings_32 rfl ?_ ?_
    · refine J.iinc (pc := 46) C (lv' := [(0, rv g a0), (1, rv g a1), (2, .int (x2 + 1)), (3, rv g r2), (4, rv g r3)]) dX3_becomeInThings_46 rfl (Nat.le_of_ble_eq_true rfl) (lsf_r (lsf_r (lsf_i (lsf_r (lsf_r lsf_n))))) ki_1 rfl ?_
      refine J.goto (pc := 49) C (tgt := 10) dX3_becomeInThings_49 rfl ?_
      exact J.pick [0, 1, 2] rfl (hk10 _ _)
    · refine J.aload (pc := 35) C (x := r3) dX3_becomeInThings_35 rfl ?_
      refine J.ifnull (pc := 37) C (tgt := 46) dX3_becomeInThings_37 rfl ?_ ?_
      · refine J.iinc (pc := 46) C (lv' := [(0, rv g a0), (1, rv g a1), (2, .int (x2 + 1)), (3, rv g r2), (4, rv g r3)]) dX3_becomeInThings_46 rfl (Nat.le_of_ble_eq_true rfl) (lsf_r (lsf_r (lsf_i (lsf_r (lsf_r lsf_n))))) ki_1 rfl ?_
        refine J.goto (pc := 49) C (tgt := 10) dX3_becomeInThings_49 rfl ?_
        exact J.pick [0, 1, 2] rfl (hk10 _ _)
      · refine J.aload_n (pc := 40) C (x := r2) dX3_becomeInThings_40 rfl rfl ?_
        refine J.aload (pc := 41) C (x := r3) dX3_becomeInThings_41 rfl ?_
        refine J.vU (pc := 43) C mv_X5_become wm_RX3_63 (fun l => c_X5_become l g S r2 r3) ⟨⟨Nat.zero_le _, Nat.zero_le _⟩, rfl, rfl⟩ rfl ⟨Nat.le_of_ble_eq_true rfl, Nat.le_of_ble_eq_true rfl⟩ rfl ct_n (Nat.le_of_ble_eq_true rfl) dX3_becomeInThings_43 (fun S_4 => ?_)
        refine J.iinc (pc := 46) C (lv' := [(0, rv g a0), (1, rv g a1), (2, .int (x2 + 1)), (3, rv g r2), (4, rv g r3)]) dX3_becomeInThings_46 rfl (Nat.le_of_ble_eq_true rfl) (lsf_r (lsf_r (lsf_i (lsf_r (lsf_r lsf_n))))) ki_1 rfl ?_
        refine J.goto (pc := 49) C (tgt := 10) dX3_becomeInThings_49 rfl ?_
        exact J.pick [0, 1, 2] rfl (hk10 _ _)
def f_X3_becomeInThings (S : St) (a0 : Nat) (a1 : Nat) : Option St :=
  (chk (okc S 3 a1)
  (chk (okc S 3 a0) (vlt (upI S a0 2 (S.1 a1 2)) fun S_1 =>
  (wl2 (f_X3_becomeInThings_B10 a0 a1 (fun (S_5 : St) => (some S_5))) FU S_1 0))))
set_option maxRecDepth 100000 in
set_option maxHeartbeats 4000000 in
theorem c_X3_becomeInThings (l : Launch) (g : GG) (S : St) (a0 : Nat) (a1 : Nat) : Ct l yX3_becomeInThings cX3_becomeInThings 5 none rm_X3_becomeInThings g aU pU [rv g a0, rv g a1] S (f_X3_becomeInThings S a0 a1) := by
  refine Ct.mk (cf := cw (0, 0)) (by decide +kernel) (cat_r (cat_r cat_n)) (Nat.le_of_ble_eq_true rfl) rfl ?_
  intro X hXl hin C
  show J X g _ _ 0 [(0, rv g a0), (1, rv g a1)] [] S (f_X3_becomeInThings S a0 a1)
  unfold f_X3_becomeInThings
  refine J.aload_n (pc := 0) C (x := a0) dX3_becomeInThings_0 rfl rfl ?_
  refine J.aload_n (pc := 1) C (x := a1) dX3_becomeInThings_1 rfl rfl ?_
  refine J.getI (pc := 2) C fl_RX3_56 rfl dX3_becomeInThings_2 ?_
  refine J.putIs (pc := 5) C fl_RX3_56 rfl (fun r h => by cases h; rfl) rfl rfl dX3_becomeInThings_5 (fun S_1 => ?_)
  refine J.iconst (pc := 8) C dX3_becomeInThings_8 ki_0 ?_
  refine J.istore_n (pc := 9) C (lv' := [(0, rv g a0), (1, rv g a1), (2, .int 0)]) dX3_becomeInThings_9 rfl (Nat.le_of_ble_eq_true rfl) (lsf_r (lsf_r lsf_n)) rfl ?_
  refine w_X3_becomeInThings_B10 C _ _ _ (fun S_5 => ?_) FU _ _
  exact J.vret (pc := 52) C rfl rfl ⟨Nat.le_refl _, Nat.le_refl _⟩ dX3_becomeInThings_52
abbrev rm_X3_become : Room := { frames := 2, cells := 0, slots := 0, locals := 46 }
def f_X3_become_B7 (a0 : Nat) (a1 : Nat) (kx7 : St → Option St) (k7 : St → Int32 → Option St) (S : St) (x2 : Int32) : Option St :=
  (chk (okc S 3 a0)
  (chk (okc S 10 (S.2.1 a0 0))
  (if (Int32.ofNat (ln (S.2.1 a0 0))) ≤ x2 then
  (kx7 S)
  else (chk (okc S 3 a0)
  (chk (okc S 3 a1)
  (bnd (f_X7_numberIn S (S.2.1 a1 0) x2) fun r1 =>
  (chk (inw S 10 (S.2.1 a0 0) x2) (vlt (upI S (S.2.1 a0 0) x2.toNatClampNeg r1) fun S_2 =>
  (k7 S_2 (x2 + 1))))))))))
set_option maxRecDepth 100000 in
set_option maxHeartbeats 4000000 in
theorem w_X3_become_B7 {X : CT} {g : GG} (C : CX X g cX3_become RX3 none 3 rm_X3_become) (a0 : Nat) (a1 : Nat) (kx7 : St → Option St) (hkx7 : ∀ (S : St), J X g (Qm X g aU pU) (cw (0, 0)) 36 [(0, rv g a0), (1, rv g a1)] [] S (kx7 S)) : ∀ (n : Nat) (S : St) (x2 : Int32), J X g (Qm X g aU pU) (cw (0, 0)) 7 [(0, rv g a0), (1, rv g a1), (2, .int x2)] [] S (wl2 (f_X3_become_B7 a0 a1 kx7) n S x2) := by
  refine J.loop2 (lvf := fun (S : St) (x2 : Int32) => [(0, rv g a0), (1, rv g a1), (2, .int x2)]) (Sf := fun (S : St) (x2 : Int32) => S) ?_
  intro k7 hk7 S x2
  show J X g _ _ 7 [(0, rv g a0), (1, rv g a1), (2, .int x2)] [] S (f_X3_become_B7 a0 a1 kx7 k7 S x2)
  unfold f_X3_become_B7
  refine J.iload_n (pc := 7) C dX3_become_7 rfl rfl ?_
  refine J.aload_n (pc := 8) C (x := a0) dX3_become_8 rfl rfl ?_
  refine J.getR (pc := 9) C fl_RX3_9 rfl dX3_become_9 ?_
  refine J.alen (pc := 12) C 10 (by decide) dX3_become_12 ?_
  refine J.icmp_ge (pc := 13) C (tgt := 36) dX3_become_13 rfl ?_ ?_
  · exact J.pick [0, 1] rfl (hkx7 _)
  · refine J.aload_n (pc := 16) C (x := a0) dX3_become_16 rfl rfl ?_
    refine J.getR (pc := 17) C fl_RX3_9 rfl dX3_become_17 ?_
    refine J.iload_n (pc := 20) C dX3_become_20 rfl rfl ?_
    refine J.aload_n (pc := 21) C (x := a1) dX3_become_21 rfl rfl ?_
    refine J.getR (pc := 22) C fl_RX3_9 rfl dX3_become_22 ?_
    refine J.iload_n (pc := 25) C dX3_become_25 rfl rfl ?_
    refine J.snI (pc := 26) C ms_X7_numberIn wn_RX3_36 (fun l => c_X7_numberIn l g S (S.2.1 a1 0) x2) ⟨⟨Nat.zero_le _, Nat.zero_le _⟩, rfl, rfl⟩ rfl ⟨Nat.le_of_ble_eq_true rfl, Nat.le_of_ble_eq_true rfl⟩ rfl (ct_i (ct_r ct_n)) (Nat.le_of_ble_eq_true rfl) dX3_become_26 (fun r1 => ?_)
    refine J.iasts (pc := 29) C dX3_become_29 (fun S_2 => ?_)
    refine J.iinc (pc := 30) C (lv' := [(0, rv g a0), (1, rv g a1), (2, .int (x2 + 1))]) dX3_become_30 rfl (Nat.le_of_ble_eq_true rfl) (lsf_r (lsf_r (lsf_i lsf_n))) ki_1 rfl ?_
    refine J.goto (pc := 33) C (tgt := 7) dX3_become_33 rfl ?_
    exact (hk7 _ _)
def f_X3_become_B64 (a0 : Nat) (a1 : Nat) (kx64 : St → Option St) (k64 : St → Int32 → Option St) (S : St) (x2 : Int32) : Option St :=
  (chk (okc S 3 a0)
  (chk (okc S 10 (S.2.1 a0 8))
  (if (Int32.ofNat (ln (S.2.1 a0 8))) ≤ x2 then
  (kx64 S)
  else (chk (okc S 3 a0)
  (chk (okc S 10 (S.2.1 a0 9))
  (if (Int32.ofNat (ln (S.2.1 a0 9))) ≤ x2 then
  (kx64 S)
  else (chk (okc S 3 a0)
  (chk (okc S 3 a1)
  (bnd (f_X7_numberIn S (S.2.1 a1 8) x2) fun r8 =>
  (chk (inw S 10 (S.2.1 a0 8) x2) (vlt (upI S (S.2.1 a0 8) x2.toNatClampNeg r8) fun S_9 =>
  (chk (okc S_9 3 a0)
  (chk (okc S_9 3 a1)
  (bnd (f_X7_numberIn S_9 (S_9.2.1 a1 9) x2) fun r10 =>
  (chk (inw S_9 10 (S_9.2.1 a0 9) x2) (vlt (upI S_9 (S_9.2.1 a0 9) x2.toNatClampNeg r10) fun S_11 =>
  (k64 S_11 (x2 + 1))))))))))))))))))
set_option maxRecDepth 100000 in
set_option maxHeartbeats 4000000 in
theorem w_X3_become_B64 {X : CT} {g : GG} (C : CX X g cX3_become RX3 none 3 rm_X3_become) (a0 : Nat) (a1 : Nat) (kx64 : St → Option St) (hkx64 : ∀ (S : St), J X g (Qm X g aU pU) (cw (0, 0)) 116 [] [] S (kx64 S)) : ∀ (n : Nat) (S : St) (x2 : Int32), J X g (Qm X g aU pU) (cw (0, 0)) 64 [(0, rv g a0), (1, rv g a1), (2, .int x2)] [] S (wl2 (f_X3_become_B64 a0 a1 kx64) n S x2) := by
  refine J.loop2 (lvf := fun (S : St) (x2 : Int32) => [(0, rv g a0), (1, rv g a1), (2, .int x2)]) (Sf := fun (S : St) (x2 : Int32) => S) ?_
  intro k64 hk64 S x2
  show J X g _ _ 64 [(0, rv g a0), (1, rv g a1), (2, .int x2)] [] S (f_X3_become_B64 a0 a1 kx64 k64 S x2)
  unfold f_X3_become_B64
  refine J.iload_n (pc := 64) C dX3_become_64 rfl rfl ?_
  refine J.aload_n (pc := 65) C (x := a0) dX3_become_65 rfl rfl ?_
  refine J.getR (pc := 66) C fl_RX3_27 rfl dX3_become_66 ?_
  refine J.alen (pc := 69) C 10 (by decide) dX3_become_69 ?_
  refine J.icmp_ge (pc := 70) C (tgt := 116) dX3_become_70 rfl ?_ ?_
  · exact J.pick [] rfl (hkx64 _)
  · refine J.iload_n (pc := 73) C dX3_become_73 rfl rfl ?_
    refine J.aload_n (pc := 74) C (x := a0) dX3_become_74 rfl rfl ?_
    refine J.getR (pc := 75) C fl_RX3_30 rfl dX3_become_75 ?_
    refine J.alen (pc := 78) C 10 (by decide) dX3_become_78 ?_
    refine J.icmp_ge (pc := 79) C (tgt := 116) dX3_become_79 rfl ?_ ?_
    · exact J.pick [] rfl (hkx64 _)
    · refine J.aload_n (pc := 82) C (x := a0) dX3_become_82 rfl rfl ?_
      refine J.getR (pc := 83) C fl_RX3_27 rfl dX3_become_83 ?_
      refine J.iload_n (pc := 86) C dX3_become_86 rfl rfl ?_
      refine J.aload_n (pc := 87) C (x := a1) dX3_become_87 rfl rfl ?_
      refine J.getR (pc := 88) C fl_RX3_27 rfl dX3_become_88 ?_
      refine J.iload_n (pc := 91) C dX3_become_91 rfl rfl ?_
      refine J.snI (pc := 92) C ms_X7_numberIn wn_RX3_36 (fun l => c_X7_numberIn l g S (S.2.1 a1 8) x2) ⟨⟨Nat.zero_le _, Nat.zero_le _⟩, rfl, rfl⟩ rfl ⟨Nat.le_of_ble_eq_true rfl, Nat.le_of_ble_eq_true rfl⟩ rfl (ct_i (ct_r ct_n)) (Nat.le_of_ble_eq_true rfl) dX3_become_92 (fun r8 => ?_)
      refine J.iasts (pc := 95) C dX3_become_95 (fun S_9 => ?_)
      refine J.aload_n (pc := 96) C (x := a0) dX3_become_96 rfl rfl ?_
      refine J.getR (pc := 97) C fl_RX3_30 rfl dX3_become_97 ?_
      refine J.iload_n (pc := 100) C dX3_become_100 rfl rfl ?_
      refine J.aload_n (pc := 101) C (x := a1) dX3_become_101 rfl rfl ?_
      refine J.getR (pc := 102) C fl_RX3_30 rfl dX3_become_102 ?_
      refine J.iload_n (pc := 105) C dX3_become_105 rfl rfl ?_
      refine J.snI (pc := 106) C ms_X7_numberIn wn_RX3_36 (fun l => c_X7_numberIn l g S_9 (S_9.2.1 a1 9) x2) ⟨⟨Nat.zero_le _, Nat.zero_le _⟩, rfl, rfl⟩ rfl ⟨Nat.le_of_ble_eq_true rfl, Nat.le_of_ble_eq_true rfl⟩ rfl (ct_i (ct_r ct_n)) (Nat.le_of_ble_eq_true rfl) dX3_become_106 (fun r10 => ?_)
      refine J.iasts (pc := 109) C dX3_become_109 (fun S_11 => ?_)
      refine J.iinc (pc := 110) C (lv' := [(0, rv g a0), (1, rv g a1), (2, .int (x2 + 1))]) dX3_become_110 rfl (Nat.le_of_ble_eq_true rfl) (lsf_r (lsf_r (lsf_i lsf_n))) ki_1 rfl ?_
      refine J.goto (pc := 113) C (tgt := 64) dX3_become_113 rfl ?_
      exact (hk64 _ _)
def f_X3_become (S : St) (a0 : Nat) (a1 : Nat) : Option St :=
  (if a1 = 0 then
  (some S)
  else (wl2 (f_X3_become_B7 a0 a1 (fun (S_3 : St) => (chk (okc S_3 3 a0) (bnd (f_X3_becomeInThings S_3 a0 a1) fun S_4 =>
  (chk (okc S_4 3 a0) (bnd (f_X3_becomeInFrames S_4 a0 a1) fun S_5 =>
  (chk (okc S_5 3 a1)
  (chk (okc S_5 3 a0) (vlt (upI S_5 a0 6 (S_5.1 a1 6)) fun S_6 =>
  (chk (okc S_6 3 a1)
  (chk (okc S_6 3 a0) (vlt (upI S_6 a0 7 (S_6.1 a1 7)) fun S_7 =>
  (wl2 (f_X3_become_B64 a0 a1 (fun (S_12 : St) => (some S_12))) FU S_7 0))))))))))))) FU S 0))
set_option maxRecDepth 100000 in
set_option maxHeartbeats 4000000 in
theorem c_X3_become (l : Launch) (g : GG) (S : St) (a0 : Nat) (a1 : Nat) : Ct l yX3_become cX3_become 3 none rm_X3_become g aU pU [rv g a0, rv g a1] S (f_X3_become S a0 a1) := by
  refine Ct.mk (cf := cw (0, 0)) (by decide +kernel) (cat_r (cat_r cat_n)) (Nat.le_of_ble_eq_true rfl) rfl ?_
  intro X hXl hin C
  show J X g _ _ 0 [(0, rv g a0), (1, rv g a1)] [] S (f_X3_become S a0 a1)
  unfold f_X3_become
  refine J.aload_n (pc := 0) C (x := a1) dX3_become_0 rfl rfl ?_
  refine J.ifnonnull (pc := 1) C (tgt := 5) dX3_become_1 rfl ?_ ?_
  · refine J.iconst (pc := 5) C dX3_become_5 ki_0 ?_
    refine J.istore_n (pc := 6) C (lv' := [(0, rv g a0), (1, rv g a1), (2, .int 0)]) dX3_become_6 rfl (Nat.le_of_ble_eq_true rfl) (lsf_r (lsf_r lsf_n)) rfl ?_
    refine w_X3_become_B7 C _ _ _ (fun S_3 => ?_) FU _ _
    refine J.aload_n (pc := 36) C (x := a0) dX3_become_36 rfl rfl ?_
    refine J.aload_n (pc := 37) C (x := a1) dX3_become_37 rfl rfl ?_
    refine J.vU (pc := 38) C mv_X3_becomeInThings wm_RX3_42 (fun l => c_X3_becomeInThings l g S_3 a0 a1) ⟨⟨Nat.zero_le _, Nat.zero_le _⟩, rfl, rfl⟩ rfl ⟨Nat.le_of_ble_eq_true rfl, Nat.le_of_ble_eq_true rfl⟩ rfl ct_n (Nat.le_of_ble_eq_true rfl) dX3_become_38 (fun S_4 => ?_)
    refine J.aload_n (pc := 41) C (x := a0) dX3_become_41 rfl rfl ?_
    refine J.aload_n (pc := 42) C (x := a1) dX3_become_42 rfl rfl ?_
    refine J.vU (pc := 43) C mv_X3_becomeInFrames wm_RX3_46 (fun l => c_X3_becomeInFrames l g S_4 a0 a1) ⟨⟨Nat.zero_le _, Nat.zero_le _⟩, rfl, rfl⟩ rfl ⟨Nat.le_of_ble_eq_true rfl, Nat.le_of_ble_eq_true rfl⟩ rfl ct_n (Nat.le_of_ble_eq_true rfl) dX3_become_43 (fun S_5 => ?_)
    refine J.aload_n (pc := 46) C (x := a0) dX3_become_46 rfl rfl ?_
    refine J.aload_n (pc := 47) C (x := a1) dX3_become_47 rfl rfl ?_
    refine J.getI (pc := 48) C fl_RX3_49 rfl dX3_become_48 ?_
    refine J.putIs (pc := 51) C fl_RX3_49 rfl (fun r h => by cases h; rfl) rfl rfl dX3_become_51 (fun S_6 => ?_)
    refine J.aload_n (pc := 54) C (x := a0) dX3_become_54 rfl rfl ?_
    refine J.aload_n (pc := 55) C (x := a1) dX3_become_55 rfl rfl ?_
    refine J.getI (pc := 56) C fl_RX3_53 rfl dX3_become_56 ?_
    refine J.putIs (pc := 59) C fl_RX3_53 rfl (fun r h => by cases h; rfl) rfl rfl dX3_become_59 (fun S_7 => ?_)
    refine J.iconst (pc := 62) C dX3_become_62 ki_0 ?_
    refine J.istore_n (pc := 63) C (lv' := [(0, rv g a0), (1, rv g a1), (2, .int 0)]) dX3_become_63 rfl (Nat.le_of_ble_eq_true rfl) (lsf_r (lsf_r lsf_n)) rfl ?_
    refine w_X3_become_B64 C _ _ _ (fun S_12 => ?_) FU _ _
    exact J.vret (pc := 116) C rfl rfl ⟨Nat.le_refl _, Nat.le_refl _⟩ dX3_become_116
  · exact J.vret (pc := 4) C rfl rfl ⟨Nat.le_refl _, Nat.le_refl _⟩ dX3_become_4
abbrev rm_X7_dropOldestState : Room := { frames := 0, cells := 0, slots := 0, locals := 0 }
def f_X7_dropOldestState_B2 (a0 : Nat) (kx2 : St → Option St) (k2 : St → Int32 → Option St) (S : St) (x1 : Int32) : Option St :=
  (chk (okc S 7 a0)
  (chk (okc S 13 (S.2.1 a0 1))
  (if (Int32.ofNat (ln (S.2.1 a0 1))) ≤ x1 then
  (kx2 S)
  else (chk (okc S 7 a0)
  (chk (ina S 13 (S.2.1 a0 1) (x1 - 1))
  (chk (okc S 7 a0)
  (chk (okc S 7 a0)
  (chk (ina S 13 (S.2.1 a0 1) x1)
  (chk (inw S 13 (S.2.1 a0 1) (x1 - 1) ∧ okc S 3 (S.2.1 (S.2.1 a0 1) x1.toNatClampNeg)) (vlt (upR S (S.2.1 a0 1) (x1 - 1).toNatClampNeg (S.2.1 (S.2.1 a0 1) x1.toNatClampNeg)) fun S_1 =>
  (chk (okc S_1 7 a0)
  (chk (inw S_1 13 (S_1.2.1 a0 1) x1 ∧ okc S_1 3 (S.2.1 (S.2.1 a0 1) (x1 - 1).toNatClampNeg)) (vlt (upR S_1 (S_1.2.1 a0 1) x1.toNatClampNeg (S.2.1 (S.2.1 a0 1) (x1 - 1).toNatClampNeg)) fun S_2 =>
  (k2 S_2 (x1 + 1)))))))))))))))
set_option maxRecDepth 100000 in
set_option maxHeartbeats 4000000 in
theorem w_X7_dropOldestState_B2 {X : CT} {g : GG} (C : CX X g cX7_dropOldestState RX7 none 3 rm_X7_dropOldestState) (a0 : Nat) (kx2 : St → Option St) (hkx2 : ∀ (S : St), J X g (Qm X g aU pU) (cw (0, 0)) 47 [(0, rv g a0)] [] S (kx2 S)) : ∀ (n : Nat) (S : St) (x1 : Int32), J X g (Qm X g aU pU) (cw (0, 0)) 2 [(0, rv g a0), (1, .int x1)] [] S (wl2 (f_X7_dropOldestState_B2 a0 kx2) n S x1) := by
  refine J.loop2 (lvf := fun (S : St) (x1 : Int32) => [(0, rv g a0), (1, .int x1)]) (Sf := fun (S : St) (x1 : Int32) => S) ?_
  intro k2 hk2 S x1
  show J X g _ _ 2 [(0, rv g a0), (1, .int x1)] [] S (f_X7_dropOldestState_B2 a0 kx2 k2 S x1)
  unfold f_X7_dropOldestState_B2
  refine J.iload_n (pc := 2) C dX7_dropOldestState_2 rfl rfl ?_
  refine J.aload_n (pc := 3) C (x := a0) dX7_dropOldestState_3 rfl rfl ?_
  refine J.getR (pc := 4) C fl_RX7_16 rfl dX7_dropOldestState_4 ?_
  refine J.alen (pc := 7) C 13 (by decide) dX7_dropOldestState_7 ?_
  refine J.icmp_ge (pc := 8) C (tgt := 47) dX7_dropOldestState_8 rfl ?_ ?_
  · exact J.pick [0] rfl (hkx2 _)
  · refine J.aload_n (pc := 11) C (x := a0) dX7_dropOldestState_11 rfl rfl ?_
    refine J.getR (pc := 12) C fl_RX7_16 rfl dX7_dropOldestState_12 ?_
    refine J.iload_n (pc := 15) C dX7_dropOldestState_15 rfl rfl ?_
    refine J.iconst (pc := 16) C dX7_dropOldestState_16 ki_1 ?_
    refine J.isub (pc := 17) C dX7_dropOldestState_17 ?_
    refine J.aald (pc := 18) C 13 (by decide) (fun _ => rfl) rfl dX7_dropOldestState_18 ?_
    refine J.astore_n (pc := 19) C (lv' := [(0, rv g a0), (1, .int x1), (2, rv g (S.2.1 (S.2.1 a0 1) (x1 - 1).toNatClampNeg))]) dX7_dropOldestState_19 rfl (Nat.le_of_ble_eq_true rfl) (lsf_r (lsf_i lsf_n)) rfl ?_
    refine J.aload_n (pc := 20) C (x := a0) dX7_dropOldestState_20 rfl rfl ?_
    refine J.getR (pc := 21) C fl_RX7_16 rfl dX7_dropOldestState_21 ?_
    refine J.iload_n (pc := 24) C dX7_dropOldestState_24 rfl rfl ?_
    refine J.iconst (pc := 25) C dX7_dropOldestState_25 ki_1 ?_
    refine J.isub (pc := 26) C dX7_dropOldestState_26 ?_
    refine J.aload_n (pc := 27) C (x := a0) dX7_dropOldestState_27 rfl rfl ?_
    refine J.getR (pc := 28) C fl_RX7_16 rfl dX7_dropOldestState_28 ?_
    refine J.iload_n (pc := 31) C dX7_dropOldestState_31 rfl rfl ?_
    refine J.aald (pc := 32) C 13 (by decide) (fun _ => rfl) rfl dX7_dropOldestState_32 ?_
    refine J.aasts (pc := 33) C 13 3 (by decide) (fun _ => rfl) rfl rfl dX7_dropOldestState_33 (fun S_1 => ?_)
    refine J.aload_n (pc := 34) C (x := a0) dX7_dropOldestState_34 rfl rfl ?_
    refine J.getR (pc := 35) C fl_RX7_16 rfl dX7_dropOldestState_35 ?_
    refine J.iload_n (pc := 38) C dX7_dropOldestState_38 rfl rfl ?_
    refine J.aload_n (pc := 39) C (x := S.2.1 (S.2.1 a0 1) (x1 - 1).toNatClampNeg) dX7_dropOldestState_39 rfl rfl ?_
    refine J.aasts (pc := 40) C 13 3 (by decide) (fun _ => rfl) rfl rfl dX7_dropOldestState_40 (fun S_2 => ?_)
    refine J.iinc (pc := 41) C (lv' := [(0, rv g a0), (1, .int (x1 + 1)), (2, rv g (S.2.1 (S.2.1 a0 1) (x1 - 1).toNatClampNeg))]) dX7_dropOldestState_41 rfl (Nat.le_of_ble_eq_true rfl) (lsf_r (lsf_i (lsf_r lsf_n))) ki_1 rfl ?_
    refine J.goto (pc := 44) C (tgt := 2) dX7_dropOldestState_44 rfl ?_
    exact J.pick [0, 1] rfl (hk2 _ _)
def f_X7_dropOldestState (S : St) (a0 : Nat) : Option St :=
  (wl2 (f_X7_dropOldestState_B2 a0 (fun (S_3 : St) => (chk (okc S_3 7 a0)
  (chk (okc S_3 13 (S_3.2.1 a0 1))
  (chk (okc S_3 7 a0) (vlt (upI S_3 a0 2 ((Int32.ofNat (ln (S_3.2.1 a0 1))) - 1)) fun S_4 =>
  (some S_4))))))) FU S 1)
set_option maxRecDepth 100000 in
set_option maxHeartbeats 4000000 in
theorem c_X7_dropOldestState (l : Launch) (g : GG) (S : St) (a0 : Nat) : Ct l yX7_dropOldestState cX7_dropOldestState 3 none rm_X7_dropOldestState g aU pU [rv g a0] S (f_X7_dropOldestState S a0) := by
  refine Ct.mk (cf := cw (0, 0)) (by decide +kernel) (cat_r cat_n) (Nat.le_of_ble_eq_true rfl) rfl ?_
  intro X hXl hin C
  show J X g _ _ 0 [(0, rv g a0)] [] S (f_X7_dropOldestState S a0)
  unfold f_X7_dropOldestState
  refine J.iconst (pc := 0) C dX7_dropOldestState_0 ki_1 ?_
  refine J.istore_n (pc := 1) C (lv' := [(0, rv g a0), (1, .int 1)]) dX7_dropOldestState_1 rfl (Nat.le_of_ble_eq_true rfl) (lsf_r lsf_n) rfl ?_
  refine w_X7_dropOldestState_B2 C _ _ (fun S_3 => ?_) FU _ _
  refine J.aload_n (pc := 47) C (x := a0) dX7_dropOldestState_47 rfl rfl ?_
  refine J.aload_n (pc := 48) C (x := a0) dX7_dropOldestState_48 rfl rfl ?_
  refine J.getR (pc := 49) C fl_RX7_16 rfl dX7_dropOldestState_49 ?_
  refine J.alen (pc := 52) C 13 (by decide) dX7_dropOldestState_52 ?_
  refine J.iconst (pc := 53) C dX7_dropOldestState_53 ki_1 ?_
  refine J.isub (pc := 54) C dX7_dropOldestState_54 ?_
  refine J.putIs (pc := 55) C fl_RX7_20 rfl (fun r h => by cases h; rfl) rfl rfl dX7_dropOldestState_55 (fun S_4 => ?_)
  exact J.vret (pc := 58) C rfl rfl ⟨Nat.le_refl _, Nat.le_refl _⟩ dX7_dropOldestState_58
abbrev rm_X7_recordState : Room := { frames := 3, cells := 0, slots := 0, locals := 68 }
def f_X7_recordState_J16 (S : St) (x0 : Nat) : Option St :=
  (chk (okc S 7 x0)
  (if (S.1 x0 2) < 0 then
  (some S)
  else (chk (okc S 7 x0)
  (chk (okc S 7 x0)
  (chk (okc S 13 (S.2.1 x0 1))
  (if (Int32.ofNat (ln (S.2.1 x0 1))) ≤ (S.1 x0 2) then
  (some S)
  else (chk (okc S 7 x0)
  (chk (okc S 7 x0)
  (chk (ina S 13 (S.2.1 x0 1) (S.1 x0 2))
  (if (S.2.1 (S.2.1 x0 1) (S.1 x0 2).toNatClampNeg) = 0 then
  (some S)
  else (chk (okc S 7 x0)
  (chk (okc S 7 x0)
  (chk (ina S 13 (S.2.1 x0 1) (S.1 x0 2))
  (chk (okc S 7 x0)
  (chk (okc S 3 (S.2.1 (S.2.1 x0 1) (S.1 x0 2).toNatClampNeg)) (bnd (f_X3_become S (S.2.1 (S.2.1 x0 1) (S.1 x0 2).toNatClampNeg) (S.2.1 x0 0)) fun S_1 =>
  (chk (okc S_1 7 x0)
  (chk (okc S_1 7 x0) (vlt (upI S_1 x0 2 ((S_1.1 x0 2) + 1)) fun S_2 =>
  (some S_2))))))))))))))))))))
set_option maxRecDepth 100000 in
set_option maxHeartbeats 4000000 in
theorem w_X7_recordState_J16 {X : CT} {g : GG} (C : CX X g cX7_recordState RX7 none 1 rm_X7_recordState) (S : St) (x0 : Nat) : J X g (Qm X g aU pU) (cw (0, 0)) 16 [(0, rv g x0)] [] S (f_X7_recordState_J16 S x0) := by
  unfold f_X7_recordState_J16
  refine J.aload_n (pc := 16) C (x := x0) dX7_recordState_16 rfl rfl ?_
  refine J.getI (pc := 17) C fl_RX7_20 rfl dX7_recordState_17 ?_
  refine J.if_lt (pc := 20) C (tgt := 73) dX7_recordState_20 rfl ?_ ?_
  · exact J.vret (pc := 73) C rfl rfl ⟨Nat.le_refl _, Nat.le_refl _⟩ dX7_recordState_73
  · refine J.aload_n (pc := 23) C (x := x0) dX7_recordState_23 rfl rfl ?_
    refine J.getI (pc := 24) C fl_RX7_20 rfl dX7_recordState_24 ?_
    refine J.aload_n (pc := 27) C (x := x0) dX7_recordState_27 rfl rfl ?_
    refine J.getR (pc := 28) C fl_RX7_16 rfl dX7_recordState_28 ?_
    refine J.alen (pc := 31) C 13 (by decide) dX7_recordState_31 ?_
    refine J.icmp_ge (pc := 32) C (tgt := 73) dX7_recordState_32 rfl ?_ ?_
    · exact J.vret (pc := 73) C rfl rfl ⟨Nat.le_refl _, Nat.le_refl _⟩ dX7_recordState_73
    · refine J.aload_n (pc := 35) C (x := x0) dX7_recordState_35 rfl rfl ?_
      refine J.getR (pc := 36) C fl_RX7_16 rfl dX7_recordState_36 ?_
      refine J.aload_n (pc := 39) C (x := x0) dX7_recordState_39 rfl rfl ?_
      refine J.getI (pc := 40) C fl_RX7_20 rfl dX7_recordState_40 ?_
      refine J.aald (pc := 43) C 13 (by decide) (fun _ => rfl) rfl dX7_recordState_43 ?_
      refine J.ifnull (pc := 44) C (tgt := 73) dX7_recordState_44 rfl ?_ ?_
      · exact J.vret (pc := 73) C rfl rfl ⟨Nat.le_refl _, Nat.le_refl _⟩ dX7_recordState_73
      · refine J.aload_n (pc := 47) C (x := x0) dX7_recordState_47 rfl rfl ?_
        refine J.getR (pc := 48) C fl_RX7_16 rfl dX7_recordState_48 ?_
        refine J.aload_n (pc := 51) C (x := x0) dX7_recordState_51 rfl rfl ?_
        refine J.getI (pc := 52) C fl_RX7_20 rfl dX7_recordState_52 ?_
        refine J.aald (pc := 55) C 13 (by decide) (fun _ => rfl) rfl dX7_recordState_55 ?_
        refine J.aload_n (pc := 56) C (x := x0) dX7_recordState_56 rfl rfl ?_
        refine J.getR (pc := 57) C fl_RX7_12 rfl dX7_recordState_57 ?_
        refine J.vU (pc := 60) C mv_X3_become wm_RX7_257 (fun l => c_X3_become l g S (S.2.1 (S.2.1 x0 1) (S.1 x0 2).toNatClampNeg) (S.2.1 x0 0)) ⟨⟨Nat.zero_le _, Nat.zero_le _⟩, rfl, rfl⟩ rfl ⟨Nat.le_of_ble_eq_true rfl, Nat.le_of_ble_eq_true rfl⟩ rfl ct_n (Nat.le_of_ble_eq_true rfl) dX7_recordState_60 (fun S_1 => ?_)
        refine J.aload_n (pc := 63) C (x := x0) dX7_recordState_63 rfl rfl ?_
        refine J.dup (pc := 64) C dX7_recordState_64 (rv_cat g _) ?_
        refine J.getI (pc := 65) C fl_RX7_20 rfl dX7_recordState_65 ?_
        refine J.iconst (pc := 68) C dX7_recordState_68 ki_1 ?_
        refine J.iadd (pc := 69) C dX7_recordState_69 ?_
        refine J.putIs (pc := 70) C fl_RX7_20 rfl (fun r h => by cases h; rfl) rfl rfl dX7_recordState_70 (fun S_2 => ?_)
        exact J.vret (pc := 73) C rfl rfl ⟨Nat.le_refl _, Nat.le_refl _⟩ dX7_recordState_73
def f_X7_recordState (S : St) (a0 : Nat) : Option St :=
  (chk (okc S 7 a0)
  (chk (okc S 7 a0)
  (chk (okc S 13 (S.2.1 a0 1))
  (if (S.1 a0 2) < (Int32.ofNat (ln (S.2.1 a0 1))) then
  (f_X7_recordState_J16 S a0)
  else (chk (okc S 7 a0) (bnd (f_X7_dropOldestState S a0) fun S_3 =>
  (f_X7_recordState_J16 S_3 a0)))))))
set_option maxRecDepth 100000 in
set_option maxHeartbeats 4000000 in
theorem c_X7_recordState (l : Launch) (g : GG) (S : St) (a0 : Nat) : Ct l yX7_recordState cX7_recordState 1 none rm_X7_recordState g aU pU [rv g a0] S (f_X7_recordState S a0) := by
  refine Ct.mk (cf := cw (0, 0)) (by decide +kernel) (cat_r cat_n) (Nat.le_of_ble_eq_true rfl) rfl ?_
  intro X hXl hin C
  show J X g _ _ 0 [(0, rv g a0)] [] S (f_X7_recordState S a0)
  unfold f_X7_recordState
  refine J.aload_n (pc := 0) C (x := a0) dX7_recordState_0 rfl rfl ?_
  refine J.getI (pc := 1) C fl_RX7_20 rfl dX7_recordState_1 ?_
  refine J.aload_n (pc := 4) C (x := a0) dX7_recordState_4 rfl rfl ?_
  refine J.getR (pc := 5) C fl_RX7_16 rfl dX7_recordState_5 ?_
  refine J.alen (pc := 8) C 13 (by decide) dX7_recordState_8 ?_
  refine J.icmp_lt (pc := 9) C (tgt := 16) dX7_recordState_9 rfl ?_ ?_
  · exact (w_X7_recordState_J16 C _ _)
  · refine J.aload_n (pc := 12) C (x := a0) dX7_recordState_12 rfl rfl ?_
    refine J.vU (pc := 13) C mv_X7_dropOldestState wm_RX7_296 (fun l => c_X7_dropOldestState l g S a0) ⟨⟨Nat.zero_le _, Nat.zero_le _⟩, rfl, rfl⟩ rfl ⟨Nat.le_of_ble_eq_true rfl, Nat.le_of_ble_eq_true rfl⟩ rfl ct_n (Nat.le_of_ble_eq_true rfl) dX7_recordState_13 (fun S_3 => ?_)
    exact (w_X7_recordState_J16 C _ _)
abbrev rm_X7_blind : Room := { frames := 4, cells := 0, slots := 0, locals := 88 }
def f_X7_blind_J43 (S : St) (x0 : Nat) (x1 : Int32) (t0 : Int32) (t1 : Int32) : Option (Int32 × St) :=
  (if t1 = t0 then
  (some ((-10000002), S))
  else (chk (okc S 7 x0) (bnd (f_X7_recordState S x0) fun S_4 =>
  (chk (okc S_4 7 x0)
  (chk (okc S_4 3 (S_4.2.1 x0 0))
  (chk (okc S_4 3 (S_4.2.1 x0 0)) (vlt (upI S_4 (S_4.2.1 x0 0) 7 ((S_4.1 (S_4.2.1 x0 0) 7) ^^^ (1 <<< (x1 &&& 31)))) fun S_5 =>
  (chk (okc S_5 7 x0)
  (chk (okc S_5 3 (S_5.2.1 x0 0))
  (bnd (f_J6_bitCount_0f7a4 (S_5.1 (S_5.2.1 x0 0) 7)) fun r6 =>
  (some (r6, S_5))))))))))))
set_option maxRecDepth 100000 in
set_option maxHeartbeats 4000000 in
theorem w_X7_blind_J43 {X : CT} {g : GG} (C : CX X g cX7_blind RX7 (some .int) 3 rm_X7_blind) (S : St) (x0 : Nat) (x1 : Int32) (t0 : Int32) (t1 : Int32) : J X g (Qm X g aW pW) (cw (0, 0)) 43 [(0, rv g x0), (1, .int x1)] [.int t0, .int t1] S (f_X7_blind_J43 S x0 x1 t0 t1) := by
  unfold f_X7_blind_J43
  refine J.icmp_ne (pc := 43) C (tgt := 49) dX7_blind_43 rfl ?_ ?_
  · refine J.aload_n (pc := 49) C (x := x0) dX7_blind_49 rfl rfl ?_
    refine J.vU (pc := 50) C mv_X7_recordState wm_RX7_75 (fun l => c_X7_recordState l g S x0) ⟨⟨Nat.zero_le _, Nat.zero_le _⟩, rfl, rfl⟩ rfl ⟨Nat.le_of_ble_eq_true rfl, Nat.le_of_ble_eq_true rfl⟩ rfl ct_n (Nat.le_of_ble_eq_true rfl) dX7_blind_50 (fun S_4 => ?_)
    refine J.aload_n (pc := 53) C (x := x0) dX7_blind_53 rfl rfl ?_
    refine J.getR (pc := 54) C fl_RX7_12 rfl dX7_blind_54 ?_
    refine J.dup (pc := 57) C dX7_blind_57 (rv_cat g _) ?_
    refine J.getI (pc := 58) C fl_RX7_119 rfl dX7_blind_58 ?_
    refine J.iconst (pc := 61) C dX7_blind_61 ki_1 ?_
    refine J.iload_n (pc := 62) C dX7_blind_62 rfl rfl ?_
    refine J.ishl (pc := 63) C dX7_blind_63 ?_
    refine J.ixor (pc := 64) C dX7_blind_64 ?_
    refine J.putIs (pc := 65) C fl_RX7_119 rfl (fun r h => by cases h; rfl) rfl rfl dX7_blind_65 (fun S_5 => ?_)
    refine J.aload_n (pc := 68) C (x := x0) dX7_blind_68 rfl rfl ?_
    refine J.getR (pc := 69) C fl_RX7_12 rfl dX7_blind_69 ?_
    refine J.getI (pc := 72) C fl_RX7_119 rfl dX7_blind_72 ?_
    refine J.sI (pc := 75) C ms_J6_bitCount_0f7a4 wm_RX7_126 (fun l => c_J6_bitCount_0f7a4 l g S_5 (S_5.1 (S_5.2.1 x0 0) 7)) ⟨⟨Nat.zero_le _, Nat.zero_le _⟩, rfl, rfl⟩ rfl ⟨Nat.le_of_ble_eq_true rfl, Nat.le_of_ble_eq_true rfl⟩ rfl ct_n (Nat.le_of_ble_eq_true rfl) dX7_blind_75 (fun r6 => ?_)
    exact J.iret (pc := 78) C rfl rfl ⟨Nat.le_refl _, Nat.le_refl _⟩ dX7_blind_78
  · refine J.ldc (pc := 46) C wc_RX7_74 dX7_blind_46 ?_
    exact J.iret (pc := 48) C rfl rfl ⟨Nat.le_refl _, Nat.le_refl _⟩ dX7_blind_48
def f_X7_blind (S : St) (a0 : Nat) (a1 : Int32) (a2 : Int32) : Option (Int32 × St) :=
  (bnd (f_X7_isWithin a1 0 9) fun r1 =>
  (if r1 = 0 then
  (some ((-10000001), S))
  else (bnd (f_X7_isWithin a2 0 1) fun r2 =>
  (if r2 = 0 then
  (some ((-10000001), S))
  else (chk (okc S 7 a0)
  (chk (okc S 3 (S.2.1 a0 0))
  (bnd (f_X7_holds (S.1 (S.2.1 a0 0) 7) a1) fun r3 =>
  (if a2 = 1 then
  (f_X7_blind_J43 S a0 a1 1 r3)
  else (f_X7_blind_J43 S a0 a1 0 r3)))))))))
set_option maxRecDepth 100000 in
set_option maxHeartbeats 4000000 in
theorem c_X7_blind (l : Launch) (g : GG) (S : St) (a0 : Nat) (a1 : Int32) (a2 : Int32) : Ct l yX7_blind cX7_blind 3 (some .int) rm_X7_blind g aW pW [rv g a0, .int a1, .int a2] S (f_X7_blind S a0 a1 a2) := by
  refine Ct.mk (cf := cw (0, 0)) (by decide +kernel) (cat_r (cat_i (cat_i cat_n))) (Nat.le_of_ble_eq_true rfl) rfl ?_
  intro X hXl hin C
  show J X g _ _ 0 [(0, rv g a0), (1, .int a1), (2, .int a2)] [] S (f_X7_blind S a0 a1 a2)
  unfold f_X7_blind
  refine J.iload_n (pc := 0) C dX7_blind_0 rfl rfl ?_
  refine J.iconst (pc := 1) C dX7_blind_1 ki_0 ?_
  refine J.bipush (pc := 2) C dX7_blind_2 kb_9 ?_
  refine J.sI (pc := 4) C ms_X7_isWithin wm_RX7_56 (fun l => c_X7_isWithin l g S a1 0 9) ⟨⟨Nat.zero_le _, Nat.zero_le _⟩, rfl, rfl⟩ rfl ⟨Nat.le_of_ble_eq_true rfl, Nat.le_of_ble_eq_true rfl⟩ rfl ct_n (Nat.le_of_ble_eq_true rfl) dX7_blind_4 (fun r1 => ?_)
  refine J.if_eq (pc := 7) C (tgt := 19) dX7_blind_7 rfl ?_ ?_
  · refine J.ldc (pc := 19) C wc_RX7_60 dX7_blind_19 ?_
    exact J.iret (pc := 21) C rfl rfl ⟨Nat.le_refl _, Nat.le_refl _⟩ dX7_blind_21
  · refine J.iload_n (pc := 10) C dX7_blind_10 rfl rfl ?_
    refine J.iconst (pc := 11) C dX7_blind_11 ki_0 ?_
    refine J.iconst (pc := 12) C dX7_blind_12 ki_1 ?_
    refine J.sI (pc := 13) C ms_X7_isWithin wm_RX7_56 (fun l => c_X7_isWithin l g S a2 0 1) ⟨⟨Nat.zero_le _, Nat.zero_le _⟩, rfl, rfl⟩ rfl ⟨Nat.le_of_ble_eq_true rfl, Nat.le_of_ble_eq_true rfl⟩ rfl ct_n (Nat.le_of_ble_eq_true rfl) dX7_blind_13 (fun r2 => ?_)
    refine J.if_ne (pc := 16) C (tgt := 22) dX7_blind_16 rfl ?_ ?_
    · refine J.aload_n (pc := 22) C (x := a0) dX7_blind_22 rfl rfl ?_
      refine J.getR (pc := 23) C fl_RX7_12 rfl dX7_blind_23 ?_
      refine J.getI (pc := 26) C fl_RX7_119 rfl dX7_blind_26 ?_
      refine J.iload_n (pc := 29) C dX7_blind_29 rfl rfl ?_
      refine J.sI (pc := 30) C ms_X7_holds wm_RX7_122 (fun l => c_X7_holds l g S (S.1 (S.2.1 a0 0) 7) a1) ⟨⟨Nat.zero_le _, Nat.zero_le _⟩, rfl, rfl⟩ rfl ⟨Nat.le_of_ble_eq_true rfl, Nat.le_of_ble_eq_true rfl⟩ rfl ct_n (Nat.le_of_ble_eq_true rfl) dX7_blind_30 (fun r3 => ?_)
      refine J.iload_n (pc := 33) C dX7_blind_33 rfl rfl ?_
      refine J.iconst (pc := 34) C dX7_blind_34 ki_1 ?_
      refine J.icmp_ne (pc := 35) C (tgt := 42) dX7_blind_35 rfl ?_ ?_
      · refine J.iconst (pc := 42) C dX7_blind_42 ki_0 ?_
        exact J.pick [0, 1] rfl (w_X7_blind_J43 C _ _ _ _ _)
      · refine J.iconst (pc := 38) C dX7_blind_38 ki_1 ?_
        refine J.goto (pc := 39) C (tgt := 43) dX7_blind_39 rfl ?_
        exact J.pick [0, 1] rfl (w_X7_blind_J43 C _ _ _ _ _)
    · refine J.ldc (pc := 19) C wc_RX7_60 dX7_blind_19 ?_
      exact J.iret (pc := 21) C rfl rfl ⟨Nat.le_refl _, Nat.le_refl _⟩ dX7_blind_21
abbrev rm_X3_setting : Room := { frames := 1, cells := 0, slots := 0, locals := 21 }
def f_X3_setting (S : St) (a0 : Nat) (a1 : Int32) : Option Int32 :=
  (chk (okc S 3 a0)
  (bnd (f_X7_numberIn S (S.2.1 a0 0) a1) fun r1 =>
  (some r1)))
set_option maxRecDepth 100000 in
set_option maxHeartbeats 4000000 in
theorem c_X3_setting (l : Launch) (g : GG) (S : St) (a0 : Nat) (a1 : Int32) : Ct l yX3_setting cX3_setting 2 (some .int) rm_X3_setting g aI (pK S) [rv g a0, .int a1] S (f_X3_setting S a0 a1) := by
  refine Ct.mk (cf := cw (0, 0)) (by decide +kernel) (cat_r (cat_i cat_n)) (Nat.le_of_ble_eq_true rfl) rfl ?_
  intro X hXl hin C
  show J X g _ _ 0 [(0, rv g a0), (1, .int a1)] [] S (f_X3_setting S a0 a1)
  unfold f_X3_setting
  refine J.aload_n (pc := 0) C (x := a0) dX3_setting_0 rfl rfl ?_
  refine J.getR (pc := 1) C fl_RX3_9 rfl dX3_setting_1 ?_
  refine J.iload_n (pc := 4) C dX3_setting_4 rfl rfl ?_
  refine J.snI (pc := 5) C ms_X7_numberIn wn_RX3_36 (fun l => c_X7_numberIn l g S (S.2.1 a0 0) a1) ⟨⟨Nat.zero_le _, Nat.zero_le _⟩, rfl, rfl⟩ rfl ⟨Nat.le_of_ble_eq_true rfl, Nat.le_of_ble_eq_true rfl⟩ rfl ct_n (Nat.le_of_ble_eq_true rfl) dX3_setting_5 (fun r1 => ?_)
  exact J.iret (pc := 8) C rfl rfl ⟨Nat.le_refl _, Nat.le_refl _⟩ dX3_setting_8
abbrev rm_X7_isDark : Room := { frames := 0, cells := 0, slots := 0, locals := 0 }
def f_X7_isDark (a0 : Int32) (a1 : Int32) (a2 : Int32) : Option Int32 :=
  (if a1 = 0 then
  (some 0)
  else (chk (¬ a1 = 0)
  (if a2 ≤ (a0 - a0 / a1 * a1) then
  (some 0)
  else (some 1))))
set_option maxRecDepth 100000 in
set_option maxHeartbeats 4000000 in
theorem c_X7_isDark (l : Launch) (g : GG) (S : St) (a0 : Int32) (a1 : Int32) (a2 : Int32) : Ct l yX7_isDark cX7_isDark 3 (some .boolean) rm_X7_isDark g aI (pK S) [.int a0, .int a1, .int a2] S (f_X7_isDark a0 a1 a2) := by
  refine Ct.mk (cf := cw (0, 0)) (by decide +kernel) (cat_i (cat_i (cat_i cat_n))) (Nat.le_of_ble_eq_true rfl) rfl ?_
  intro X hXl hin C
  show J X g _ _ 0 [(0, .int a0), (1, .int a1), (2, .int a2)] [] S (f_X7_isDark a0 a1 a2)
  unfold f_X7_isDark
  refine J.iload_n (pc := 0) C dX7_isDark_0 rfl rfl ?_
  refine J.if_eq (pc := 1) C (tgt := 15) dX7_isDark_1 rfl ?_ ?_
  · refine J.iconst (pc := 15) C dX7_isDark_15 ki_0 ?_
    exact J.zret (pc := 16) C rfl rfl rfl ⟨Nat.le_refl _, Nat.le_refl _⟩ dX7_isDark_16
  · refine J.iload_n (pc := 4) C dX7_isDark_4 rfl rfl ?_
    refine J.iload_n (pc := 5) C dX7_isDark_5 rfl rfl ?_
    refine J.irem (pc := 6) C dX7_isDark_6 ?_
    refine J.iload_n (pc := 7) C dX7_isDark_7 rfl rfl ?_
    refine J.icmp_ge (pc := 8) C (tgt := 15) dX7_isDark_8 rfl ?_ ?_
    · refine J.iconst (pc := 15) C dX7_isDark_15 ki_0 ?_
      exact J.zret (pc := 16) C rfl rfl rfl ⟨Nat.le_refl _, Nat.le_refl _⟩ dX7_isDark_16
    · refine J.iconst (pc := 11) C dX7_isDark_11 ki_1 ?_
      refine J.goto (pc := 12) C (tgt := 16) dX7_isDark_12 rfl ?_
      exact J.zret (pc := 16) C rfl rfl rfl ⟨Nat.le_refl _, Nat.le_refl _⟩ dX7_isDark_16
abbrev rm_X7_count : Room := { frames := 2, cells := 0, slots := 0, locals := 42 }
def f_X7_count (S : St) (a0 : Nat) (a1 : Int32) : Option Int32 :=
  (bnd (f_X7_isWithin a1 10 17) fun r1 =>
  (if r1 = 0 then
  (if a1 = 0 then
  (chk (okc S 7 a0)
  (chk (okc S 3 (S.2.1 a0 0))
  (some (S.1 (S.2.1 a0 0) 2))))
  else (if a1 = 1 then
  (chk (okc S 7 a0)
  (chk (okc S 3 (S.2.1 a0 0))
  (some (S.1 (S.2.1 a0 0) 4))))
  else (if a1 = 2 then
  (chk (okc S 7 a0)
  (chk (okc S 3 (S.2.1 a0 0))
  (some (S.1 (S.2.1 a0 0) 6))))
  else (if a1 = 3 then
  (chk (okc S 7 a0)
  (chk (okc S 3 (S.2.1 a0 0))
  (bnd (f_J6_bitCount_0f7a4 (S.1 (S.2.1 a0 0) 7)) fun r2 =>
  (some r2))))
  else (if a1 = 4 then
  (chk (okc S 7 a0)
  (chk (okc S 3 (S.2.1 a0 0))
  (some (S.1 (S.2.1 a0 0) 5))))
  else (if a1 = 5 then
  (chk (okc S 7 a0)
  (chk (okc S 3 (S.2.1 a0 0))
  (chk (okc S 7 a0)
  (chk (okc S 3 (S.2.1 a0 0)) (bnd (f_X3_setting S (S.2.1 a0 0) 5) fun r3 =>
  (chk (okc S 7 a0)
  (chk (okc S 3 (S.2.1 a0 0)) (bnd (f_X3_setting S (S.2.1 a0 0) 6) fun r4 =>
  (bnd (f_X7_isDark (S.1 (S.2.1 a0 0) 6) r3 r4) fun r5 =>
  (if r5 = 0 then
  (some 0)
  else (some 1)))))))))))
  else (if a1 = 6 then
  (chk (okc S 7 a0)
  (some (S.1 a0 2)))
  else (if a1 = 7 then
  (chk (okc S 7 a0)
  (chk (okc S 4 (S.2.1 a0 3))
  (some (S.1 (S.2.1 a0 3) 1))))
  else (some (-10000001))))))))))
  else (chk (okc S 7 a0)
  (chk (okc S 3 (S.2.1 a0 0)) (bnd (f_X3_setting S (S.2.1 a0 0) (a1 - 10)) fun r6 =>
  (some r6))))))
set_option maxRecDepth 100000 in
set_option maxHeartbeats 4000000 in
theorem c_X7_count (l : Launch) (g : GG) (S : St) (a0 : Nat) (a1 : Int32) : Ct l yX7_count cX7_count 2 (some .int) rm_X7_count g aI (pK S) [rv g a0, .int a1] S (f_X7_count S a0 a1) := by
  refine Ct.mk (cf := cw (0, 0)) (by decide +kernel) (cat_r (cat_i cat_n)) (Nat.le_of_ble_eq_true rfl) rfl ?_
  intro X hXl hin C
  show J X g _ _ 0 [(0, rv g a0), (1, .int a1)] [] S (f_X7_count S a0 a1)
  unfold f_X7_count
  refine J.iload_n (pc := 0) C dX7_count_0 rfl rfl ?_
  refine J.bipush (pc := 1) C dX7_count_1 kb_10 ?_
  refine J.bipush (pc := 3) C dX7_count_3 kb_17 ?_
  refine J.sI (pc := 5) C ms_X7_isWithin wm_RX7_56 (fun l => c_X7_isWithin l g S a1 10 17) ⟨⟨Nat.zero_le _, Nat.zero_le _⟩, rfl, rfl⟩ rfl ⟨Nat.le_of_ble_eq_true rfl, Nat.le_of_ble_eq_true rfl⟩ rfl ct_n (Nat.le_of_ble_eq_true rfl) dX7_count_5 (fun r1 => ?_)
  refine J.if_eq (pc := 8) C (tgt := 23) dX7_count_8 rfl ?_ ?_
  · refine J.iload_n (pc := 23) C dX7_count_23 rfl rfl ?_
    refine J.ite (fun h0 => ?_) (fun h0 => ?_)
    · refine J.tswIn (pc := 24) C (tgt := 72) 0 dX7_count_24 h0 (by decide) (by decide) rfl rfl ?_
      refine J.aload_n (pc := 72) C (x := a0) dX7_count_72 rfl rfl ?_
      refine J.getR (pc := 73) C fl_RX7_12 rfl dX7_count_73 ?_
      refine J.getI (pc := 76) C fl_RX7_90 rfl dX7_count_76 ?_
      exact J.iret (pc := 79) C rfl rfl ⟨Nat.le_refl _, Nat.le_refl _⟩ dX7_count_79
    · refine J.ite (fun h1 => ?_) (fun h1 => ?_)
      · refine J.tswIn (pc := 24) C (tgt := 80) 1 dX7_count_24 h1 (by decide) (by decide) rfl rfl ?_
        refine J.aload_n (pc := 80) C (x := a0) dX7_count_80 rfl rfl ?_
        refine J.getR (pc := 81) C fl_RX7_12 rfl dX7_count_81 ?_
        refine J.getI (pc := 84) C fl_RX7_71 rfl dX7_count_84 ?_
        exact J.iret (pc := 87) C rfl rfl ⟨Nat.le_refl _, Nat.le_refl _⟩ dX7_count_87
      · refine J.ite (fun h2 => ?_) (fun h2 => ?_)
        · refine J.tswIn (pc := 24) C (tgt := 88) 2 dX7_count_24 h2 (by decide) (by decide) rfl rfl ?_
          refine J.aload_n (pc := 88) C (x := a0) dX7_count_88 rfl rfl ?_
          refine J.getR (pc := 89) C fl_RX7_12 rfl dX7_count_89 ?_
          refine J.getI (pc := 92) C fl_RX7_107 rfl dX7_count_92 ?_
          exact J.iret (pc := 95) C rfl rfl ⟨Nat.le_refl _, Nat.le_refl _⟩ dX7_count_95
        · refine J.ite (fun h3 => ?_) (fun h3 => ?_)
          · refine J.tswIn (pc := 24) C (tgt := 96) 3 dX7_count_24 h3 (by decide) (by decide) rfl rfl ?_
            refine J.aload_n (pc := 96) C (x := a0) dX7_count_96 rfl rfl ?_
            refine J.getR (pc := 97) C fl_RX7_12 rfl dX7_count_97 ?_
            refine J.getI (pc := 100) C fl_RX7_119 rfl dX7_count_100 ?_
            refine J.sI (pc := 103) C ms_J6_bitCount_0f7a4 wm_RX7_126 (fun l => c_J6_bitCount_0f7a4 l g S (S.1 (S.2.1 a0 0) 7)) ⟨⟨Nat.zero_le _, Nat.zero_le _⟩, rfl, rfl⟩ rfl ⟨Nat.le_of_ble_eq_true rfl, Nat.le_of_ble_eq_true rfl⟩ rfl ct_n (Nat.le_of_ble_eq_true rfl) dX7_count_103 (fun r2 => ?_)
            exact J.iret (pc := 106) C rfl rfl ⟨Nat.le_refl _, Nat.le_refl _⟩ dX7_count_106
          · refine J.ite (fun h4 => ?_) (fun h4 => ?_)
            · refine J.tswIn (pc := 24) C (tgt := 107) 4 dX7_count_24 h4 (by decide) (by decide) rfl rfl ?_
              refine J.aload_n (pc := 107) C (x := a0) dX7_count_107 rfl rfl ?_
              refine J.getR (pc := 108) C fl_RX7_12 rfl dX7_count_108 ?_
              refine J.getI (pc := 111) C fl_RX7_248 rfl dX7_count_111 ?_
              exact J.iret (pc := 114) C rfl rfl ⟨Nat.le_refl _, Nat.le_refl _⟩ dX7_count_114
            · refine J.ite (fun h5 => ?_) (fun h5 => ?_)
              · refine J.tswIn (pc := 24) C (tgt := 115) 5 dX7_count_24 h5 (by decide) (by decide) rfl rfl ?_
                refine J.aload_n (pc := 115) C (x := a0) dX7_count_115 rfl rfl ?_
                refine J.getR (pc := 116) C fl_RX7_12 rfl dX7_count_116 ?_
                refine J.getI (pc := 119) C fl_RX7_107 rfl dX7_count_119 ?_
                refine J.aload_n (pc := 122) C (x := a0) dX7_count_122 rfl rfl ?_
                refine J.getR (pc := 123) C fl_RX7_12 rfl dX7_count_123 ?_
                refine J.iconst (pc := 126) C dX7_count_126 ki_5 ?_
                refine J.vI (pc := 127) C mv_X3_setting wm_RX7_78 (fun l => c_X3_setting l g S (S.2.1 a0 0) 5) ⟨⟨Nat.zero_le _, Nat.zero_le _⟩, rfl, rfl⟩ rfl ⟨Nat.le_of_ble_eq_true rfl, Nat.le_of_ble_eq_true rfl⟩ rfl (ct_i ct_n) (Nat.le_of_ble_eq_true rfl) dX7_count_127 (fun r3 => ?_)
                refine J.aload_n (pc := 130) C (x := a0) dX7_count_130 rfl rfl ?_
                refine J.getR (pc := 131) C fl_RX7_12 rfl dX7_count_131 ?_
                refine J.bipush (pc := 134) C dX7_count_134 kb_6 ?_
                refine J.vI (pc := 136) C mv_X3_setting wm_RX7_78 (fun l => c_X3_setting l g S (S.2.1 a0 0) 6) ⟨⟨Nat.zero_le _, Nat.zero_le _⟩, rfl, rfl⟩ rfl ⟨Nat.le_of_ble_eq_true rfl, Nat.le_of_ble_eq_true rfl⟩ rfl (ct_i (ct_i ct_n)) (Nat.le_of_ble_eq_true rfl) dX7_count_136 (fun r4 => ?_)
                refine J.sI (pc := 139) C ms_X7_isDark wm_RX7_251 (fun l => c_X7_isDark l g S (S.1 (S.2.1 a0 0) 6) r3 r4) ⟨⟨Nat.zero_le _, Nat.zero_le _⟩, rfl, rfl⟩ rfl ⟨Nat.le_of_ble_eq_true rfl, Nat.le_of_ble_eq_true rfl⟩ rfl ct_n (Nat.le_of_ble_eq_true rfl) dX7_count_139 (fun r5 => ?_)
                refine J.if_eq (pc := 142) C (tgt := 149) dX7_count_142 rfl ?_ ?_
                · refine J.iconst (pc := 149) C dX7_count_149 ki_0 ?_
                  exact J.iret (pc := 150) C rfl rfl ⟨Nat.le_refl _, Nat.le_refl _⟩ dX7_count_150
                · refine J.iconst (pc := 145) C dX7_count_145 ki_1 ?_
                  refine J.goto (pc := 146) C (tgt := 150) dX7_count_146 rfl ?_
                  exact J.iret (pc := 150) C rfl rfl ⟨Nat.le_refl _, Nat.le_refl _⟩ dX7_count_150
              · refine J.ite (fun h6 => ?_) (fun h6 => ?_)
                · refine J.tswIn (pc := 24) C (tgt := 151) 6 dX7_count_24 h6 (by decide) (by decide) rfl rfl ?_
                  refine J.aload_n (pc := 151) C (x := a0) dX7_count_151 rfl rfl ?_
                  refine J.getI (pc := 152) C fl_RX7_20 rfl dX7_count_152 ?_
                  exact J.iret (pc := 155) C rfl rfl ⟨Nat.le_refl _, Nat.le_refl _⟩ dX7_count_155
                · refine J.ite (fun h7 => ?_) (fun h7 => ?_)
                  · refine J.tswIn (pc := 24) C (tgt := 156) 7 dX7_count_24 h7 (by decide) (by decide) rfl rfl ?_
                    refine J.aload_n (pc := 156) C (x := a0) dX7_count_156 rfl rfl ?_
                    refine J.getR (pc := 157) C fl_RX7_27 rfl dX7_count_157 ?_
                    refine J.getI (pc := 160) C fl_RX7_254 rfl dX7_count_160 ?_
                    exact J.iret (pc := 163) C rfl rfl ⟨Nat.le_refl _, Nat.le_refl _⟩ dX7_count_163
                  · refine J.tswOut (pc := 24) C (tgt := 164) dX7_count_24 (by have e0 := lv_neT h0 (a := 0) rfl; have e1 := lv_neT h1 (a := 1) rfl; have e2 := lv_neT h2 (a := 2) rfl; have e3 := lv_neT h3 (a := 3) rfl; have e4 := lv_neT h4 (a := 4) rfl; have e5 := lv_neT h5 (a := 5) rfl; have e6 := lv_neT h6 (a := 6) rfl; have e7 := lv_neT h7 (a := 7) rfl; omega) rfl ?_
                    refine J.ldc (pc := 164) C wc_RX7_60 dX7_count_164 ?_
                    exact J.iret (pc := 166) C rfl rfl ⟨Nat.le_refl _, Nat.le_refl _⟩ dX7_count_166
  · refine J.aload_n (pc := 11) C (x := a0) dX7_count_11 rfl rfl ?_
    refine J.getR (pc := 12) C fl_RX7_12 rfl dX7_count_12 ?_
    refine J.iload_n (pc := 15) C dX7_count_15 rfl rfl ?_
    refine J.bipush (pc := 16) C dX7_count_16 kb_10 ?_
    refine J.isub (pc := 18) C dX7_count_18 ?_
    refine J.vI (pc := 19) C mv_X3_setting wm_RX7_78 (fun l => c_X3_setting l g S (S.2.1 a0 0) (a1 - 10)) ⟨⟨Nat.zero_le _, Nat.zero_le _⟩, rfl, rfl⟩ rfl ⟨Nat.le_of_ble_eq_true rfl, Nat.le_of_ble_eq_true rfl⟩ rfl ct_n (Nat.le_of_ble_eq_true rfl) dX7_count_19 (fun r6 => ?_)
    exact J.iret (pc := 22) C rfl rfl ⟨Nat.le_refl _, Nat.le_refl _⟩ dX7_count_22
abbrev rm_L_blinds : Room := { frames := 5, cells := 0, slots := 0, locals := 110 }
def f_L_blinds_J47 (S : St) (x0 : Nat) (x1 : Int32) (x2 : Int32) (t0 : Int32) : Option (Int32 × St) :=
  (if t0 = 0 then
  (some (0, S))
  else (chk (okc S 7 x0) (bnd (f_X7_rowOf S x0 x1 0) fun r5 =>
  (if r5 = (1 - x2) then
  (chk (okc S 7 x0) (bnd (f_X7_count S x0 3) fun r6 =>
  (bnd (f_L_blinded S x0) fun r7 =>
  (bnd (f_L_bits r7) fun r8 =>
  (if r6 = r8 then
  (some (1, S))
  else (some (0, S)))))))
  else (some (0, S))))))
set_option maxRecDepth 100000 in
set_option maxHeartbeats 4000000 in
theorem w_L_blinds_J47 {X : CT} {g : GG} (C : CX X g cL_blinds RL (some .boolean) 5 rm_L_blinds) (S : St) (x0 : Nat) (x1 : Int32) (x2 : Int32) (t0 : Int32) : J X g (Qm X g aW pW) (cw (0, 0)) 47 [(0, rv g x0), (1, .int x1), (2, .int x2)] [.int t0] S (f_L_blinds_J47 S x0 x1 x2 t0) := by
  unfold f_L_blinds_J47
  refine J.istore (pc := 47) C (lv' := [(0, rv g x0), (1, .int x1), (2, .int x2), (4, .int t0)]) dL_blinds_47 (Nat.le_of_ble_eq_true rfl) (lsf_r (lsf_i (lsf_i lsf_n))) rfl ?_
  refine J.iload (pc := 49) C dL_blinds_49 rfl ?_
  refine J.if_eq (pc := 51) C (tgt := 85) dL_blinds_51 rfl ?_ ?_
  · refine J.iconst (pc := 85) C dL_blinds_85 ki_0 ?_
    exact J.zret (pc := 86) C rfl rfl rfl ⟨Nat.le_refl _, Nat.le_refl _⟩ dL_blinds_86
  · refine J.aload_n (pc := 54) C (x := x0) dL_blinds_54 rfl rfl ?_
    refine J.iload_n (pc := 55) C dL_blinds_55 rfl rfl ?_
    refine J.iconst (pc := 56) C dL_blinds_56 ki_0 ?_
    refine J.vI (pc := 57) C mv_X7_rowOf wm_RL_8 (fun l => c_X7_rowOf l g S x0 x1 0) ⟨⟨Nat.zero_le _, Nat.zero_le _⟩, rfl, rfl⟩ rfl ⟨Nat.le_of_ble_eq_true rfl, Nat.le_of_ble_eq_true rfl⟩ rfl ct_n (Nat.le_of_ble_eq_true rfl) dL_blinds_57 (fun r5 => ?_)
    refine J.iconst (pc := 60) C dL_blinds_60 ki_1 ?_
    refine J.iload_n (pc := 61) C dL_blinds_61 rfl rfl ?_
    refine J.isub (pc := 62) C dL_blinds_62 ?_
    refine J.icmp_ne (pc := 63) C (tgt := 85) dL_blinds_63 rfl ?_ ?_
    · refine J.iconst (pc := 85) C dL_blinds_85 ki_0 ?_
      exact J.zret (pc := 86) C rfl rfl rfl ⟨Nat.le_refl _, Nat.le_refl _⟩ dL_blinds_86
    · refine J.aload_n (pc := 66) C (x := x0) dL_blinds_66 rfl rfl ?_
      refine J.iconst (pc := 67) C dL_blinds_67 ki_3 ?_
      refine J.vI (pc := 68) C mv_X7_count wm_RL_29 (fun l => c_X7_count l g S x0 3) ⟨⟨Nat.zero_le _, Nat.zero_le _⟩, rfl, rfl⟩ rfl ⟨Nat.le_of_ble_eq_true rfl, Nat.le_of_ble_eq_true rfl⟩ rfl ct_n (Nat.le_of_ble_eq_true rfl) dL_blinds_68 (fun r6 => ?_)
      refine J.aload_n (pc := 71) C (x := x0) dL_blinds_71 rfl rfl ?_
      refine J.sI (pc := 72) C ms_L_blinded wm_RL_54 (fun l => c_L_blinded l g S x0) ⟨⟨Nat.zero_le _, Nat.zero_le _⟩, rfl, rfl⟩ rfl ⟨Nat.le_of_ble_eq_true rfl, Nat.le_of_ble_eq_true rfl⟩ rfl (ct_i ct_n) (Nat.le_of_ble_eq_true rfl) dL_blinds_72 (fun r7 => ?_)
      refine J.sI (pc := 75) C ms_L_bits wm_RL_48 (fun l => c_L_bits l g S r7) ⟨⟨Nat.zero_le _, Nat.zero_le _⟩, rfl, rfl⟩ rfl ⟨Nat.le_of_ble_eq_true rfl, Nat.le_of_ble_eq_true rfl⟩ rfl (ct_i ct_n) (Nat.le_of_ble_eq_true rfl) dL_blinds_75 (fun r8 => ?_)
      refine J.icmp_ne (pc := 78) C (tgt := 85) dL_blinds_78 rfl ?_ ?_
      · refine J.iconst (pc := 85) C dL_blinds_85 ki_0 ?_
        exact J.zret (pc := 86) C rfl rfl rfl ⟨Nat.le_refl _, Nat.le_refl _⟩ dL_blinds_86
      · refine J.iconst (pc := 81) C dL_blinds_81 ki_1 ?_
        refine J.goto (pc := 82) C (tgt := 86) dL_blinds_82 rfl ?_
        exact J.zret (pc := 86) C rfl rfl rfl ⟨Nat.le_refl _, Nat.le_refl _⟩ dL_blinds_86
def f_L_blinds_J46 (S : St) (x0 : Nat) (x1 : Int32) (x2 : Int32) : Option (Int32 × St) :=
  (f_L_blinds_J47 S x0 x1 x2 0)
set_option maxRecDepth 100000 in
set_option maxHeartbeats 4000000 in
theorem w_L_blinds_J46 {X : CT} {g : GG} (C : CX X g cL_blinds RL (some .boolean) 5 rm_L_blinds) (S : St) (x0 : Nat) (x1 : Int32) (x2 : Int32) : J X g (Qm X g aW pW) (cw (0, 0)) 46 [(0, rv g x0), (1, .int x1), (2, .int x2)] [] S (f_L_blinds_J46 S x0 x1 x2) := by
  unfold f_L_blinds_J46
  refine J.iconst (pc := 46) C dL_blinds_46 ki_0 ?_
  exact (w_L_blinds_J47 C _ _ _ _ _)
def f_L_blinds (S : St) (a0 : Nat) (a1 : Int32) : Option (Int32 × St) :=
  (chk (okc S 7 a0) (bnd (f_X7_rowOf S a0 a1 0) fun r1 =>
  (chk (okc S 7 a0) (bnd (f_X7_count S a0 3) fun r2 =>
  (chk (okc S 7 a0) (bnd2 (f_X7_blind S a0 a1 r1) fun r3 S_4 =>
  (if r3 = (-10000002) then
  (chk (okc S_4 7 a0) (bnd2 (f_X7_blind S_4 a0 a1 (1 - r1)) fun r9 S_10 =>
  (if r9 = ((r2 + 1) - (2 * r1)) then
  (f_L_blinds_J47 S_10 a0 a1 r1 1)
  else (f_L_blinds_J46 S_10 a0 a1 r1))))
  else (f_L_blinds_J46 S_4 a0 a1 r1))))))))
set_option maxRecDepth 100000 in
set_option maxHeartbeats 4000000 in
theorem c_L_blinds (l : Launch) (g : GG) (S : St) (a0 : Nat) (a1 : Int32) : Ct l yL_blinds cL_blinds 5 (some .boolean) rm_L_blinds g aW pW [rv g a0, .int a1] S (f_L_blinds S a0 a1) := by
  refine Ct.mk (cf := cw (0, 0)) (by decide +kernel) (cat_r (cat_i cat_n)) (Nat.le_of_ble_eq_true rfl) rfl ?_
  intro X hXl hin C
  show J X g _ _ 0 [(0, rv g a0), (1, .int a1)] [] S (f_L_blinds S a0 a1)
  unfold f_L_blinds
  refine J.aload_n (pc := 0) C (x := a0) dL_blinds_0 rfl rfl ?_
  refine J.iload_n (pc := 1) C dL_blinds_1 rfl rfl ?_
  refine J.iconst (pc := 2) C dL_blinds_2 ki_0 ?_
  refine J.vI (pc := 3) C mv_X7_rowOf wm_RL_8 (fun l => c_X7_rowOf l g S a0 a1 0) ⟨⟨Nat.zero_le _, Nat.zero_le _⟩, rfl, rfl⟩ rfl ⟨Nat.le_of_ble_eq_true rfl, Nat.le_of_ble_eq_true rfl⟩ rfl ct_n (Nat.le_of_ble_eq_true rfl) dL_blinds_3 (fun r1 => ?_)
  refine J.istore_n (pc := 6) C (lv' := [(0, rv g a0), (1, .int a1), (2, .int r1)]) dL_blinds_6 rfl (Nat.le_of_ble_eq_true rfl) (lsf_r (lsf_i lsf_n)) rfl ?_
  refine J.aload_n (pc := 7) C (x := a0) dL_blinds_7 rfl rfl ?_
  refine J.iconst (pc := 8) C dL_blinds_8 ki_3 ?_
  refine J.vI (pc := 9) C mv_X7_count wm_RL_29 (fun l => c_X7_count l g S a0 3) ⟨⟨Nat.zero_le _, Nat.zero_le _⟩, rfl, rfl⟩ rfl ⟨Nat.le_of_ble_eq_true rfl, Nat.le_of_ble_eq_true rfl⟩ rfl ct_n (Nat.le_of_ble_eq_true rfl) dL_blinds_9 (fun r2 => ?_)
  refine J.istore_n (pc := 12) C (lv' := [(0, rv g a0), (1, .int a1), (2, .int r1), (3, .int r2)]) dL_blinds_12 rfl (Nat.le_of_ble_eq_true rfl) (lsf_r (lsf_i (lsf_i lsf_n))) rfl ?_
  refine J.aload_n (pc := 13) C (x := a0) dL_blinds_13 rfl rfl ?_
  refine J.iload_n (pc := 14) C dL_blinds_14 rfl rfl ?_
  refine J.iload_n (pc := 15) C dL_blinds_15 rfl rfl ?_
  refine J.vW (pc := 16) C mv_X7_blind wm_RL_90 (fun l => c_X7_blind l g S a0 a1 r1) ⟨⟨Nat.zero_le _, Nat.zero_le _⟩, rfl, rfl⟩ rfl ⟨Nat.le_of_ble_eq_true rfl, Nat.le_of_ble_eq_true rfl⟩ rfl ct_n (Nat.le_of_ble_eq_true rfl) dL_blinds_16 (fun r3 S_4 => ?_)
  refine J.ldc (pc := 19) C wc_RL_93 dL_blinds_19 ?_
  refine J.icmp_ne (pc := 21) C (tgt := 46) dL_blinds_21 rfl ?_ ?_
  · exact J.pick [0, 1, 2] rfl (w_L_blinds_J46 C _ _ _ _)
  · refine J.aload_n (pc := 24) C (x := a0) dL_blinds_24 rfl rfl ?_
    refine J.iload_n (pc := 25) C dL_blinds_25 rfl rfl ?_
    refine J.iconst (pc := 26) C dL_blinds_26 ki_1 ?_
    refine J.iload_n (pc := 27) C dL_blinds_27 rfl rfl ?_
    refine J.isub (pc := 28) C dL_blinds_28 ?_
    refine J.vW (pc := 29) C mv_X7_blind wm_RL_90 (fun l => c_X7_blind l g S_4 a0 a1 (1 - r1)) ⟨⟨Nat.zero_le _, Nat.zero_le _⟩, rfl, rfl⟩ rfl ⟨Nat.le_of_ble_eq_true rfl, Nat.le_of_ble_eq_true rfl⟩ rfl ct_n (Nat.le_of_ble_eq_true rfl) dL_blinds_29 (fun r9 S_10 => ?_)
    refine J.iload_n (pc := 32) C dL_blinds_32 rfl rfl ?_
    refine J.iconst (pc := 33) C dL_blinds_33 ki_1 ?_
    refine J.iadd (pc := 34) C dL_blinds_34 ?_
    refine J.iconst (pc := 35) C dL_blinds_35 ki_2 ?_
    refine J.iload_n (pc := 36) C dL_blinds_36 rfl rfl ?_
    refine J.imul (pc := 37) C dL_blinds_37 ?_
    refine J.isub (pc := 38) C dL_blinds_38 ?_
    refine J.icmp_ne (pc := 39) C (tgt := 46) dL_blinds_39 rfl ?_ ?_
    · exact J.pick [0, 1, 2] rfl (w_L_blinds_J46 C _ _ _ _)
    · refine J.iconst (pc := 42) C dL_blinds_42 ki_1 ?_
      refine J.goto (pc := 43) C (tgt := 47) dL_blinds_43 rfl ?_
      exact J.pick [0, 1, 2] rfl (w_L_blinds_J47 C _ _ _ _ _)
abbrev rm_L_cell : Room := { frames := 0, cells := 0, slots := 0, locals := 0 }
def f_L_cell (g : GG) (S : St) (a1 : Int32) : Option Int32 :=
  (if (Int32.ofNat (gl g)) ≤ a1 then
  (some ((16807 * (a1 + 13)) &&& 2147483647))
  else (chk (0 ≤ a1 ∧ a1.toNatClampNeg < gl g)
  (some ((gx g a1.toNatClampNeg) &&& 2147483647))))
set_option maxRecDepth 100000 in
set_option maxHeartbeats 4000000 in
theorem c_L_cell (l : Launch) (g : GG) (S : St) (a1 : Int32) : Ct l yL_cell cL_cell 2 (some .int) rm_L_cell g aI (pK S) [sv g, .int a1] S (f_L_cell g S a1) := by
  refine Ct.mk (cf := cw (0, 0)) (by decide +kernel) (cat_s (cat_i cat_n)) (Nat.le_of_ble_eq_true rfl) rfl ?_
  intro X hXl hin C
  show J X g _ _ 0 [(0, sv g), (1, .int a1)] [] S (f_L_cell g S a1)
  unfold f_L_cell
  refine J.iload_n (pc := 0) C dL_cell_0 rfl rfl ?_
  refine J.sload_n (pc := 1) C dL_cell_1 rfl rfl ?_
  refine J.slen (pc := 2) C dL_cell_2 ?_
  refine J.icmp_ge (pc := 3) C (tgt := 12) dL_cell_3 rfl ?_ ?_
  · refine J.sipush (pc := 12) C dL_cell_12 ks_16807 ?_
    refine J.iload_n (pc := 15) C dL_cell_15 rfl rfl ?_
    refine J.bipush (pc := 16) C dL_cell_16 kb_13 ?_
    refine J.iadd (pc := 18) C dL_cell_18 ?_
    refine J.imul (pc := 19) C dL_cell_19 ?_
    refine J.ldc (pc := 20) C wc_RL_7 dL_cell_20 ?_
    refine J.iand (pc := 22) C dL_cell_22 ?_
    exact J.iret (pc := 23) C rfl rfl ⟨Nat.le_refl _, Nat.le_refl _⟩ dL_cell_23
  · refine J.sload_n (pc := 6) C dL_cell_6 rfl rfl ?_
    refine J.iload_n (pc := 7) C dL_cell_7 rfl rfl ?_
    refine J.sld (pc := 8) C dL_cell_8 ?_
    refine J.goto (pc := 9) C (tgt := 20) dL_cell_9 rfl ?_
    refine J.ldc (pc := 20) C wc_RL_7 dL_cell_20 ?_
    refine J.iand (pc := 22) C dL_cell_22 ?_
    exact J.iret (pc := 23) C rfl rfl ⟨Nat.le_refl _, Nat.le_refl _⟩ dL_cell_23
abbrev rm_X3_changeSetting : Room := { frames := 0, cells := 0, slots := 0, locals := 0 }
def f_X3_changeSetting (S : St) (a0 : Nat) (a1 : Int32) (a2 : Int32) : Option St :=
  (if a1 < 0 then
  (some S)
  else (chk (okc S 3 a0)
  (chk (okc S 10 (S.2.1 a0 0))
  (if (Int32.ofNat (ln (S.2.1 a0 0))) ≤ a1 then
  (some S)
  else (chk (okc S 3 a0)
  (chk (inw S 10 (S.2.1 a0 0) a1) (vlt (upI S (S.2.1 a0 0) a1.toNatClampNeg a2) fun S_1 =>
  (some S_1))))))))
set_option maxRecDepth 100000 in
set_option maxHeartbeats 4000000 in
theorem c_X3_changeSetting (l : Launch) (g : GG) (S : St) (a0 : Nat) (a1 : Int32) (a2 : Int32) : Ct l yX3_changeSetting cX3_changeSetting 3 none rm_X3_changeSetting g aU pU [rv g a0, .int a1, .int a2] S (f_X3_changeSetting S a0 a1 a2) := by
  refine Ct.mk (cf := cw (0, 0)) (by decide +kernel) (cat_r (cat_i (cat_i cat_n))) (Nat.le_of_ble_eq_true rfl) rfl ?_
  intro X hXl hin C
  show J X g _ _ 0 [(0, rv g a0), (1, .int a1), (2, .int a2)] [] S (f_X3_changeSetting S a0 a1 a2)
  unfold f_X3_changeSetting
  refine J.iload_n (pc := 0) C dX3_changeSetting_0 rfl rfl ?_
  refine J.if_lt (pc := 1) C (tgt := 20) dX3_changeSetting_1 rfl ?_ ?_
  · exact J.vret (pc := 20) C rfl rfl ⟨Nat.le_refl _, Nat.le_refl _⟩ dX3_changeSetting_20
  · refine J.iload_n (pc := 4) C dX3_changeSetting_4 rfl rfl ?_
    refine J.aload_n (pc := 5) C (x := a0) dX3_changeSetting_5 rfl rfl ?_
    refine J.getR (pc := 6) C fl_RX3_9 rfl dX3_changeSetting_6 ?_
    refine J.alen (pc := 9) C 10 (by decide) dX3_changeSetting_9 ?_
    refine J.icmp_ge (pc := 10) C (tgt := 20) dX3_changeSetting_10 rfl ?_ ?_
    · exact J.vret (pc := 20) C rfl rfl ⟨Nat.le_refl _, Nat.le_refl _⟩ dX3_changeSetting_20
    · refine J.aload_n (pc := 13) C (x := a0) dX3_changeSetting_13 rfl rfl ?_
      refine J.getR (pc := 14) C fl_RX3_9 rfl dX3_changeSetting_14 ?_
      refine J.iload_n (pc := 17) C dX3_changeSetting_17 rfl rfl ?_
      refine J.iload_n (pc := 18) C dX3_changeSetting_18 rfl rfl ?_
      refine J.iasts (pc := 19) C dX3_changeSetting_19 (fun S_1 => ?_)
      exact J.vret (pc := 20) C rfl rfl ⟨Nat.le_refl _, Nat.le_refl _⟩ dX3_changeSetting_20
abbrev rm_X7_set : Room := { frames := 4, cells := 0, slots := 0, locals := 88 }
def f_X7_set_J55 (S : St) (x0 : Nat) (x1 : Int32) (x2 : Int32) : Option (Int32 × St) :=
  (chk (okc S 7 x0) (bnd (f_X7_recordState S x0) fun S_5 =>
  (chk (okc S_5 7 x0)
  (chk (okc S_5 3 (S_5.2.1 x0 0)) (bnd (f_X3_setting S_5 (S_5.2.1 x0 0) x1) fun r6 =>
  (chk (okc S_5 7 x0)
  (chk (okc S_5 3 (S_5.2.1 x0 0)) (bnd (f_X3_changeSetting S_5 (S_5.2.1 x0 0) x1 x2) fun S_7 =>
  (some (r6, S_7))))))))))
set_option maxRecDepth 100000 in
set_option maxHeartbeats 4000000 in
theorem w_X7_set_J55 {X : CT} {g : GG} (C : CX X g cX7_set RX7 (some .int) 4 rm_X7_set) (S : St) (x0 : Nat) (x1 : Int32) (x2 : Int32) : J X g (Qm X g aW pW) (cw (0, 0)) 55 [(0, rv g x0), (1, .int x1), (2, .int x2)] [] S (f_X7_set_J55 S x0 x1 x2) := by
  unfold f_X7_set_J55
  refine J.aload_n (pc := 55) C (x := x0) dX7_set_55 rfl rfl ?_
  refine J.vU (pc := 56) C mv_X7_recordState wm_RX7_75 (fun l => c_X7_recordState l g S x0) ⟨⟨Nat.zero_le _, Nat.zero_le _⟩, rfl, rfl⟩ rfl ⟨Nat.le_of_ble_eq_true rfl, Nat.le_of_ble_eq_true rfl⟩ rfl ct_n (Nat.le_of_ble_eq_true rfl) dX7_set_56 (fun S_5 => ?_)
  refine J.aload_n (pc := 59) C (x := x0) dX7_set_59 rfl rfl ?_
  refine J.getR (pc := 60) C fl_RX7_12 rfl dX7_set_60 ?_
  refine J.iload_n (pc := 63) C dX7_set_63 rfl rfl ?_
  refine J.vI (pc := 64) C mv_X3_setting wm_RX7_78 (fun l => c_X3_setting l g S_5 (S_5.2.1 x0 0) x1) ⟨⟨Nat.zero_le _, Nat.zero_le _⟩, rfl, rfl⟩ rfl ⟨Nat.le_of_ble_eq_true rfl, Nat.le_of_ble_eq_true rfl⟩ rfl ct_n (Nat.le_of_ble_eq_true rfl) dX7_set_64 (fun r6 => ?_)
  refine J.istore_n (pc := 67) C (lv' := [(0, rv g x0), (1, .int x1), (2, .int x2), (3, .int r6)]) dX7_set_67 rfl (Nat.le_of_ble_eq_true rfl) (lsf_r (lsf_i (lsf_i lsf_n))) rfl ?_
  refine J.aload_n (pc := 68) C (x := x0) dX7_set_68 rfl rfl ?_
  refine J.getR (pc := 69) C fl_RX7_12 rfl dX7_set_69 ?_
  refine J.iload_n (pc := 72) C dX7_set_72 rfl rfl ?_
  refine J.iload_n (pc := 73) C dX7_set_73 rfl rfl ?_
  refine J.vU (pc := 74) C mv_X3_changeSetting wm_RX7_82 (fun l => c_X3_changeSetting l g S_5 (S_5.2.1 x0 0) x1 x2) ⟨⟨Nat.zero_le _, Nat.zero_le _⟩, rfl, rfl⟩ rfl ⟨Nat.le_of_ble_eq_true rfl, Nat.le_of_ble_eq_true rfl⟩ rfl ct_n (Nat.le_of_ble_eq_true rfl) dX7_set_74 (fun S_7 => ?_)
  refine J.iload_n (pc := 77) C dX7_set_77 rfl rfl ?_
  exact J.iret (pc := 78) C rfl rfl ⟨Nat.le_refl _, Nat.le_refl _⟩ dX7_set_78
def f_X7_set (S : St) (a0 : Nat) (a1 : Int32) (a2 : Int32) : Option (Int32 × St) :=
  (bnd (f_X7_isWithin a1 0 7) fun r1 =>
  (if r1 = 0 then
  (some ((-10000001), S))
  else (bnd (f_X7_numberIn S 1 a1) fun r2 =>
  (bnd (f_X7_numberIn S 2 a1) fun r3 =>
  (bnd (f_X7_isWithin a2 r2 r3) fun r4 =>
  (if r4 = 0 then
  (some ((-10000001), S))
  else (if (2 : Int32) < a1 then
  (f_X7_set_J55 S a0 a1 a2)
  else (chk (okc S 7 a0)
  (chk (okc S 3 (S.2.1 a0 0))
  (if (S.1 (S.2.1 a0 0) 4) ≤ 0 then
  (f_X7_set_J55 S a0 a1 a2)
  else (some ((-10000002), S))))))))))))
set_option maxRecDepth 100000 in
set_option maxHeartbeats 4000000 in
theorem c_X7_set (l : Launch) (g : GG) (S : St) (a0 : Nat) (a1 : Int32) (a2 : Int32) : Ct l yX7_set cX7_set 4 (some .int) rm_X7_set g aW pW [rv g a0, .int a1, .int a2] S (f_X7_set S a0 a1 a2) := by
  refine Ct.mk (cf := cw (0, 0)) (by decide +kernel) (cat_r (cat_i (cat_i cat_n))) (Nat.le_of_ble_eq_true rfl) rfl ?_
  intro X hXl hin C
  show J X g _ _ 0 [(0, rv g a0), (1, .int a1), (2, .int a2)] [] S (f_X7_set S a0 a1 a2)
  unfold f_X7_set
  refine J.iload_n (pc := 0) C dX7_set_0 rfl rfl ?_
  refine J.iconst (pc := 1) C dX7_set_1 ki_0 ?_
  refine J.bipush (pc := 2) C dX7_set_2 kb_7 ?_
  refine J.sI (pc := 4) C ms_X7_isWithin wm_RX7_56 (fun l => c_X7_isWithin l g S a1 0 7) ⟨⟨Nat.zero_le _, Nat.zero_le _⟩, rfl, rfl⟩ rfl ⟨Nat.le_of_ble_eq_true rfl, Nat.le_of_ble_eq_true rfl⟩ rfl ct_n (Nat.le_of_ble_eq_true rfl) dX7_set_4 (fun r1 => ?_)
  refine J.if_ne (pc := 7) C (tgt := 13) dX7_set_7 rfl ?_ ?_
  · refine J.iload_n (pc := 13) C dX7_set_13 rfl rfl ?_
    refine J.gets (pc := 14) C 1 (by decide) ws_RX7_61 dX7_set_14 ?_
    refine J.iload_n (pc := 17) C dX7_set_17 rfl rfl ?_
    refine J.sI (pc := 18) C ms_X7_numberIn wm_RX7_64 (fun l => c_X7_numberIn l g S 1 a1) ⟨⟨Nat.zero_le _, Nat.zero_le _⟩, rfl, rfl⟩ rfl ⟨Nat.le_of_ble_eq_true rfl, Nat.le_of_ble_eq_true rfl⟩ rfl (ct_i ct_n) (Nat.le_of_ble_eq_true rfl) dX7_set_18 (fun r2 => ?_)
    refine J.gets (pc := 21) C 2 (by decide) ws_RX7_68 dX7_set_21 ?_
    refine J.iload_n (pc := 24) C dX7_set_24 rfl rfl ?_
    refine J.sI (pc := 25) C ms_X7_numberIn wm_RX7_64 (fun l => c_X7_numberIn l g S 2 a1) ⟨⟨Nat.zero_le _, Nat.zero_le _⟩, rfl, rfl⟩ rfl ⟨Nat.le_of_ble_eq_true rfl, Nat.le_of_ble_eq_true rfl⟩ rfl (ct_i (ct_i ct_n)) (Nat.le_of_ble_eq_true rfl) dX7_set_25 (fun r3 => ?_)
    refine J.sI (pc := 28) C ms_X7_isWithin wm_RX7_56 (fun l => c_X7_isWithin l g S a2 r2 r3) ⟨⟨Nat.zero_le _, Nat.zero_le _⟩, rfl, rfl⟩ rfl ⟨Nat.le_of_ble_eq_true rfl, Nat.le_of_ble_eq_true rfl⟩ rfl ct_n (Nat.le_of_ble_eq_true rfl) dX7_set_28 (fun r4 => ?_)
    refine J.if_ne (pc := 31) C (tgt := 37) dX7_set_31 rfl ?_ ?_
    · refine J.iload_n (pc := 37) C dX7_set_37 rfl rfl ?_
      refine J.iconst (pc := 38) C dX7_set_38 ki_2 ?_
      refine J.icmp_gt (pc := 39) C (tgt := 55) dX7_set_39 rfl ?_ ?_
      · exact (w_X7_set_J55 C _ _ _ _)
      · refine J.aload_n (pc := 42) C (x := a0) dX7_set_42 rfl rfl ?_
        refine J.getR (pc := 43) C fl_RX7_12 rfl dX7_set_43 ?_
        refine J.getI (pc := 46) C fl_RX7_71 rfl dX7_set_46 ?_
        refine J.if_le (pc := 49) C (tgt := 55) dX7_set_49 rfl ?_ ?_
        · exact (w_X7_set_J55 C _ _ _ _)
        · refine J.ldc (pc := 52) C wc_RX7_74 dX7_set_52 ?_
          exact J.iret (pc := 54) C rfl rfl ⟨Nat.le_refl _, Nat.le_refl _⟩ dX7_set_54
    · refine J.ldc (pc := 34) C wc_RX7_60 dX7_set_34 ?_
      exact J.iret (pc := 36) C rfl rfl ⟨Nat.le_refl _, Nat.le_refl _⟩ dX7_set_36
  · refine J.ldc (pc := 10) C wc_RX7_60 dX7_set_10 ?_
    exact J.iret (pc := 12) C rfl rfl ⟨Nat.le_refl _, Nat.le_refl _⟩ dX7_set_12
abbrev rm_X3_addThing : Room := { frames := 0, cells := 0, slots := 0, locals := 0 }
def f_X3_addThing (S : St) (a0 : Nat) (a1 : Int32) (a2 : Int32) (a3 : Int32) (a4 : Int32) (a5 : Int32) (a6 : Int32) : Option St :=
  (chk (okc S 3 a0)
  (if (S.1 a0 2) < 0 then
  (some S)
  else (chk (okc S 3 a0)
  (chk (okc S 3 a0)
  (chk (okc S 14 (S.2.1 a0 1))
  (if (S.1 a0 2) < (Int32.ofNat (ln (S.2.1 a0 1))) then
  (chk (okc S 3 a0)
  (chk (okc S 3 a0)
  (chk (ina S 14 (S.2.1 a0 1) (S.1 a0 2))
  (if (S.2.1 (S.2.1 a0 1) (S.1 a0 2).toNatClampNeg) = 0 then
  (some S)
  else (chk (okc S 5 (S.2.1 (S.2.1 a0 1) (S.1 a0 2).toNatClampNeg)) (vlt (upI S (S.2.1 (S.2.1 a0 1) (S.1 a0 2).toNatClampNeg) 0 a1) fun S_1 =>
  (chk (okc S_1 5 (S.2.1 (S.2.1 a0 1) (S.1 a0 2).toNatClampNeg)) (vlt (upI S_1 (S.2.1 (S.2.1 a0 1) (S.1 a0 2).toNatClampNeg) 1 a2) fun S_2 =>
  (chk (okc S_2 5 (S.2.1 (S.2.1 a0 1) (S.1 a0 2).toNatClampNeg)) (vlt (upI S_2 (S.2.1 (S.2.1 a0 1) (S.1 a0 2).toNatClampNeg) 2 a3) fun S_3 =>
  (chk (okc S_3 5 (S.2.1 (S.2.1 a0 1) (S.1 a0 2).toNatClampNeg)) (vlt (upI S_3 (S.2.1 (S.2.1 a0 1) (S.1 a0 2).toNatClampNeg) 3 a4) fun S_4 =>
  (chk (okc S_4 5 (S.2.1 (S.2.1 a0 1) (S.1 a0 2).toNatClampNeg)) (vlt (upI S_4 (S.2.1 (S.2.1 a0 1) (S.1 a0 2).toNatClampNeg) 4 a5) fun S_5 =>
  (chk (okc S_5 5 (S.2.1 (S.2.1 a0 1) (S.1 a0 2).toNatClampNeg)) (vlt (upI S_5 (S.2.1 (S.2.1 a0 1) (S.1 a0 2).toNatClampNeg) 5 a6) fun S_6 =>
  (chk (okc S_6 3 a0)
  (chk (okc S_6 3 a0) (vlt (upI S_6 a0 2 ((S_6.1 a0 2) + 1)) fun S_7 =>
  (some S_7))))))))))))))))))))
  else (some S)))))))
set_option maxRecDepth 100000 in
set_option maxHeartbeats 4000000 in
theorem c_X3_addThing (l : Launch) (g : GG) (S : St) (a0 : Nat) (a1 : Int32) (a2 : Int32) (a3 : Int32) (a4 : Int32) (a5 : Int32) (a6 : Int32) : Ct l yX3_addThing cX3_addThing 8 none rm_X3_addThing g aU pU [rv g a0, .int a1, .int a2, .int a3, .int a4, .int a5, .int a6] S (f_X3_addThing S a0 a1 a2 a3 a4 a5 a6) := by
  refine Ct.mk (cf := cw (0, 0)) (by decide +kernel) (cat_r (cat_i (cat_i (cat_i (cat_i (cat_i (cat_i cat_n))))))) (Nat.le_of_ble_eq_true rfl) rfl ?_
  intro X hXl hin C
  show J X g _ _ 0 [(0, rv g a0), (1, .int a1), (2, .int a2), (3, .int a3), (4, .int a4), (5, .int a5), (6, .int a6)] [] S (f_X3_addThing S a0 a1 a2 a3 a4 a5 a6)
  unfold f_X3_addThing
  refine J.aload_n (pc := 0) C (x := a0) dX3_addThing_0 rfl rfl ?_
  refine J.getI (pc := 1) C fl_RX3_56 rfl dX3_addThing_1 ?_
  refine J.if_lt (pc := 4) C (tgt := 19) dX3_addThing_4 rfl ?_ ?_
  · exact J.vret (pc := 19) C rfl rfl ⟨Nat.le_refl _, Nat.le_refl _⟩ dX3_addThing_19
  · refine J.aload_n (pc := 7) C (x := a0) dX3_addThing_7 rfl rfl ?_
    refine J.getI (pc := 8) C fl_RX3_56 rfl dX3_addThing_8 ?_
    refine J.aload_n (pc := 11) C (x := a0) dX3_addThing_11 rfl rfl ?_
    refine J.getR (pc := 12) C fl_RX3_17 rfl dX3_addThing_12 ?_
    refine J.alen (pc := 15) C 14 (by decide) dX3_addThing_15 ?_
    refine J.icmp_lt (pc := 16) C (tgt := 20) dX3_addThing_16 rfl ?_ ?_
    · refine J.aload_n (pc := 20) C (x := a0) dX3_addThing_20 rfl rfl ?_
      refine J.getR (pc := 21) C fl_RX3_17 rfl dX3_addThing_21 ?_
      refine J.aload_n (pc := 24) C (x := a0) dX3_addThing_24 rfl rfl ?_
      refine J.getI (pc := 25) C fl_RX3_56 rfl dX3_addThing_25 ?_
      refine J.aald (pc := 28) C 14 (by decide) (fun _ => rfl) rfl dX3_addThing_28 ?_
      refine J.astore (pc := 29) C (lv' := [(0, rv g a0), (1, .int a1), (2, .int a2), (3, .int a3), (4, .int a4), (5, .int a5), (6, .int a6), (7, rv g (S.2.1 (S.2.1 a0 1) (S.1 a0 2).toNatClampNeg))]) dX3_addThing_29 (Nat.le_of_ble_eq_true rfl) (lsf_r (lsf_i (lsf_i (lsf_i (lsf_i (lsf_i (lsf_i lsf_n))))))) rfl ?_
      refine J.aload (pc := 31) C (x := S.2.1 (S.2.1 a0 1) (S.1 a0 2).toNatClampNeg) dX3_addThing_31 rfl ?_
      refine J.ifnonnull (pc := 33) C (tgt := 37) dX3_addThing_33 rfl ?_ ?_
      · refine J.aload (pc := 37) C (x := S.2.1 (S.2.1 a0 1) (S.1 a0 2).toNatClampNeg) dX3_addThing_37 rfl ?_
        refine J.iload_n (pc := 39) C dX3_addThing_39 rfl rfl ?_
        refine J.putIs (pc := 40) C fl_RX3_80 rfl (fun r h => by cases h; rfl) rfl rfl dX3_addThing_40 (fun S_1 => ?_)
        refine J.aload (pc := 43) C (x := S.2.1 (S.2.1 a0 1) (S.1 a0 2).toNatClampNeg) dX3_addThing_43 rfl ?_
        refine J.iload_n (pc := 45) C dX3_addThing_45 rfl rfl ?_
        refine J.putIs (pc := 46) C fl_RX3_83 rfl (fun r h => by cases h; rfl) rfl rfl dX3_addThing_46 (fun S_2 => ?_)
        refine J.aload (pc := 49) C (x := S.2.1 (S.2.1 a0 1) (S.1 a0 2).toNatClampNeg) dX3_addThing_49 rfl ?_
        refine J.iload_n (pc := 51) C dX3_addThing_51 rfl rfl ?_
        refine J.putIs (pc := 52) C fl_RX3_86 rfl (fun r h => by cases h; rfl) rfl rfl dX3_addThing_52 (fun S_3 => ?_)
        refine J.aload (pc := 55) C (x := S.2.1 (S.2.1 a0 1) (S.1 a0 2).toNatClampNeg) dX3_addThing_55 rfl ?_
        refine J.iload (pc := 57) C dX3_addThing_57 rfl ?_
        refine J.putIs (pc := 59) C fl_RX3_89 rfl (fun r h => by cases h; rfl) rfl rfl dX3_addThing_59 (fun S_4 => ?_)
        refine J.aload (pc := 62) C (x := S.2.1 (S.2.1 a0 1) (S.1 a0 2).toNatClampNeg) dX3_addThing_62 rfl ?_
        refine J.iload (pc := 64) C dX3_addThing_64 rfl ?_
        refine J.putIs (pc := 66) C fl_RX3_92 rfl (fun r h => by cases h; rfl) rfl rfl dX3_addThing_66 (fun S_5 => ?_)
        refine J.aload (pc := 69) C (x := S.2.1 (S.2.1 a0 1) (S.1 a0 2).toNatClampNeg) dX3_addThing_69 rfl ?_
        refine J.iload (pc := 71) C dX3_addThing_71 rfl ?_
        refine J.putIs (pc := 73) C fl_RX3_95 rfl (fun r h => by cases h; rfl) rfl rfl dX3_addThing_73 (fun S_6 => ?_)
        refine J.aload_n (pc := 76) C (x := a0) dX3_addThing_76 rfl rfl ?_
        refine J.dup (pc := 77) C dX3_addThing_77 (rv_cat g _) ?_
        refine J.getI (pc := 78) C fl_RX3_56 rfl dX3_addThing_78 ?_
        refine J.iconst (pc := 81) C dX3_addThing_81 ki_1 ?_
        refine J.iadd (pc := 82) C dX3_addThing_82 ?_
        refine J.putIs (pc := 83) C fl_RX3_56 rfl (fun r h => by cases h; rfl) rfl rfl dX3_addThing_83 (fun S_7 => ?_)
        exact J.vret (pc := 86) C rfl rfl ⟨Nat.le_refl _, Nat.le_refl _⟩ dX3_addThing_86
      · exact J.vret (pc := 36) C rfl rfl ⟨Nat.le_refl _, Nat.le_refl _⟩ dX3_addThing_36
    · exact J.vret (pc := 19) C rfl rfl ⟨Nat.le_refl _, Nat.le_refl _⟩ dX3_addThing_19
abbrev rm_X7_wrongOfThing : Room := { frames := 1, cells := 0, slots := 0, locals := 22 }
def f_X7_wrongOfThing (a0 : Int32) (a1 : Int32) (a2 : Int32) (a3 : Int32) (a4 : Int32) (a5 : Int32) : Option Int32 :=
  (bnd (f_X7_isWithin a0 0 9) fun r1 =>
  (if r1 = 0 then
  (some 0)
  else (bnd (f_X7_isWithin a1 a0 9) fun r2 =>
  (if r2 = 0 then
  (some 1)
  else (bnd (f_X7_isWithin a2 (-20000) 20000) fun r3 =>
  (if r3 = 0 then
  (some 2)
  else (bnd (f_X7_isWithin a3 (-200) 200) fun r4 =>
  (if r4 = 0 then
  (some 3)
  else (bnd (f_X7_isWithin a4 50 1600) fun r5 =>
  (if r5 = 0 then
  (some 4)
  else (bnd (f_X7_isWithin a5 0 255) fun r6 =>
  (if r6 = 0 then
  (some 5)
  else (some (-1))))))))))))))
set_option maxRecDepth 100000 in
set_option maxHeartbeats 4000000 in
theorem c_X7_wrongOfThing (l : Launch) (g : GG) (S : St) (a0 : Int32) (a1 : Int32) (a2 : Int32) (a3 : Int32) (a4 : Int32) (a5 : Int32) : Ct l yX7_wrongOfThing cX7_wrongOfThing 6 (some .int) rm_X7_wrongOfThing g aI (pK S) [.int a0, .int a1, .int a2, .int a3, .int a4, .int a5] S (f_X7_wrongOfThing a0 a1 a2 a3 a4 a5) := by
  refine Ct.mk (cf := cw (0, 0)) (by decide +kernel) (cat_i (cat_i (cat_i (cat_i (cat_i (cat_i cat_n)))))) (Nat.le_of_ble_eq_true rfl) rfl ?_
  intro X hXl hin C
  show J X g _ _ 0 [(0, .int a0), (1, .int a1), (2, .int a2), (3, .int a3), (4, .int a4), (5, .int a5)] [] S (f_X7_wrongOfThing a0 a1 a2 a3 a4 a5)
  unfold f_X7_wrongOfThing
  refine J.iload_n (pc := 0) C dX7_wrongOfThing_0 rfl rfl ?_
  refine J.iconst (pc := 1) C dX7_wrongOfThing_1 ki_0 ?_
  refine J.bipush (pc := 2) C dX7_wrongOfThing_2 kb_9 ?_
  refine J.sI (pc := 4) C ms_X7_isWithin wm_RX7_56 (fun l => c_X7_isWithin l g S a0 0 9) ⟨⟨Nat.zero_le _, Nat.zero_le _⟩, rfl, rfl⟩ rfl ⟨Nat.le_of_ble_eq_true rfl, Nat.le_of_ble_eq_true rfl⟩ rfl ct_n (Nat.le_of_ble_eq_true rfl) dX7_wrongOfThing_4 (fun r1 => ?_)
  refine J.if_ne (pc := 7) C (tgt := 12) dX7_wrongOfThing_7 rfl ?_ ?_
  · refine J.iload_n (pc := 12) C dX7_wrongOfThing_12 rfl rfl ?_
    refine J.iload_n (pc := 13) C dX7_wrongOfThing_13 rfl rfl ?_
    refine J.bipush (pc := 14) C dX7_wrongOfThing_14 kb_9 ?_
    refine J.sI (pc := 16) C ms_X7_isWithin wm_RX7_56 (fun l => c_X7_isWithin l g S a1 a0 9) ⟨⟨Nat.zero_le _, Nat.zero_le _⟩, rfl, rfl⟩ rfl ⟨Nat.le_of_ble_eq_true rfl, Nat.le_of_ble_eq_true rfl⟩ rfl ct_n (Nat.le_of_ble_eq_true rfl) dX7_wrongOfThing_16 (fun r2 => ?_)
    refine J.if_ne (pc := 19) C (tgt := 24) dX7_wrongOfThing_19 rfl ?_ ?_
    · refine J.iload_n (pc := 24) C dX7_wrongOfThing_24 rfl rfl ?_
      refine J.sipush (pc := 25) C dX7_wrongOfThing_25 ks_m20000 ?_
      refine J.sipush (pc := 28) C dX7_wrongOfThing_28 ks_20000 ?_
      refine J.sI (pc := 31) C ms_X7_isWithin wm_RX7_56 (fun l => c_X7_isWithin l g S a2 (-20000) 20000) ⟨⟨Nat.zero_le _, Nat.zero_le _⟩, rfl, rfl⟩ rfl ⟨Nat.le_of_ble_eq_true rfl, Nat.le_of_ble_eq_true rfl⟩ rfl ct_n (Nat.le_of_ble_eq_true rfl) dX7_wrongOfThing_31 (fun r3 => ?_)
      refine J.if_ne (pc := 34) C (tgt := 39) dX7_wrongOfThing_34 rfl ?_ ?_
      · refine J.iload_n (pc := 39) C dX7_wrongOfThing_39 rfl rfl ?_
        refine J.sipush (pc := 40) C dX7_wrongOfThing_40 ks_m200 ?_
        refine J.sipush (pc := 43) C dX7_wrongOfThing_43 ks_200 ?_
        refine J.sI (pc := 46) C ms_X7_isWithin wm_RX7_56 (fun l => c_X7_isWithin l g S a3 (-200) 200) ⟨⟨Nat.zero_le _, Nat.zero_le _⟩, rfl, rfl⟩ rfl ⟨Nat.le_of_ble_eq_true rfl, Nat.le_of_ble_eq_true rfl⟩ rfl ct_n (Nat.le_of_ble_eq_true rfl) dX7_wrongOfThing_46 (fun r4 => ?_)
        refine J.if_ne (pc := 49) C (tgt := 54) dX7_wrongOfThing_49 rfl ?_ ?_
        · refine J.iload (pc := 54) C dX7_wrongOfThing_54 rfl ?_
          refine J.bipush (pc := 56) C dX7_wrongOfThing_56 kb_50 ?_
          refine J.sipush (pc := 58) C dX7_wrongOfThing_58 ks_1600 ?_
          refine J.sI (pc := 61) C ms_X7_isWithin wm_RX7_56 (fun l => c_X7_isWithin l g S a4 50 1600) ⟨⟨Nat.zero_le _, Nat.zero_le _⟩, rfl, rfl⟩ rfl ⟨Nat.le_of_ble_eq_true rfl, Nat.le_of_ble_eq_true rfl⟩ rfl ct_n (Nat.le_of_ble_eq_true rfl) dX7_wrongOfThing_61 (fun r5 => ?_)
          refine J.if_ne (pc := 64) C (tgt := 69) dX7_wrongOfThing_64 rfl ?_ ?_
          · refine J.iload (pc := 69) C dX7_wrongOfThing_69 rfl ?_
            refine J.iconst (pc := 71) C dX7_wrongOfThing_71 ki_0 ?_
            refine J.sipush (pc := 72) C dX7_wrongOfThing_72 ks_255 ?_
            refine J.sI (pc := 75) C ms_X7_isWithin wm_RX7_56 (fun l => c_X7_isWithin l g S a5 0 255) ⟨⟨Nat.zero_le _, Nat.zero_le _⟩, rfl, rfl⟩ rfl ⟨Nat.le_of_ble_eq_true rfl, Nat.le_of_ble_eq_true rfl⟩ rfl ct_n (Nat.le_of_ble_eq_true rfl) dX7_wrongOfThing_75 (fun r6 => ?_)
            refine J.if_eq (pc := 78) C (tgt := 85) dX7_wrongOfThing_78 rfl ?_ ?_
            · refine J.iconst (pc := 85) C dX7_wrongOfThing_85 ki_5 ?_
              exact J.iret (pc := 86) C rfl rfl ⟨Nat.le_refl _, Nat.le_refl _⟩ dX7_wrongOfThing_86
            · refine J.iconst (pc := 81) C dX7_wrongOfThing_81 ki_m1 ?_
              refine J.goto (pc := 82) C (tgt := 86) dX7_wrongOfThing_82 rfl ?_
              exact J.iret (pc := 86) C rfl rfl ⟨Nat.le_refl _, Nat.le_refl _⟩ dX7_wrongOfThing_86
          · refine J.iconst (pc := 67) C dX7_wrongOfThing_67 ki_4 ?_
            exact J.iret (pc := 68) C rfl rfl ⟨Nat.le_refl _, Nat.le_refl _⟩ dX7_wrongOfThing_68
        · refine J.iconst (pc := 52) C dX7_wrongOfThing_52 ki_3 ?_
          exact J.iret (pc := 53) C rfl rfl ⟨Nat.le_refl _, Nat.le_refl _⟩ dX7_wrongOfThing_53
      · refine J.iconst (pc := 37) C dX7_wrongOfThing_37 ki_2 ?_
        exact J.iret (pc := 38) C rfl rfl ⟨Nat.le_refl _, Nat.le_refl _⟩ dX7_wrongOfThing_38
    · refine J.iconst (pc := 22) C dX7_wrongOfThing_22 ki_1 ?_
      exact J.iret (pc := 23) C rfl rfl ⟨Nat.le_refl _, Nat.le_refl _⟩ dX7_wrongOfThing_23
  · refine J.iconst (pc := 10) C dX7_wrongOfThing_10 ki_0 ?_
    exact J.iret (pc := 11) C rfl rfl ⟨Nat.le_refl _, Nat.le_refl _⟩ dX7_wrongOfThing_11
abbrev rm_X7_thing : Room := { frames := 4, cells := 0, slots := 0, locals := 88 }
def f_X7_thing (S : St) (a0 : Nat) (a1 : Int32) (a2 : Int32) (a3 : Int32) (a4 : Int32) (a5 : Int32) (a6 : Int32) : Option (Int32 × St) :=
  (bnd (f_X7_wrongOfThing a1 a2 a3 a4 a5 a6) fun r1 =>
  (if r1 < 0 then
  (chk (okc S 7 a0)
  (chk (okc S 3 (S.2.1 a0 0))
  (if (S.1 (S.2.1 a0 0) 2) < 4 then
  (chk (okc S 7 a0) (bnd (f_X7_recordState S a0) fun S_2 =>
  (chk (okc S_2 7 a0)
  (chk (okc S_2 3 (S_2.2.1 a0 0)) (bnd (f_X3_addThing S_2 (S_2.2.1 a0 0) a1 a2 a3 a4 a5 a6) fun S_3 =>
  (chk (okc S_3 7 a0)
  (chk (okc S_3 3 (S_3.2.1 a0 0))
  (some ((S_3.1 (S_3.2.1 a0 0) 2) - 1, S_3)))))))))
  else (some ((-10000003), S)))))
  else (some ((-10000001), S))))
set_option maxRecDepth 100000 in
set_option maxHeartbeats 4000000 in
theorem c_X7_thing (l : Launch) (g : GG) (S : St) (a0 : Nat) (a1 : Int32) (a2 : Int32) (a3 : Int32) (a4 : Int32) (a5 : Int32) (a6 : Int32) : Ct l yX7_thing cX7_thing 7 (some .int) rm_X7_thing g aW pW [rv g a0, .int a1, .int a2, .int a3, .int a4, .int a5, .int a6] S (f_X7_thing S a0 a1 a2 a3 a4 a5 a6) := by
  refine Ct.mk (cf := cw (0, 0)) (by decide +kernel) (cat_r (cat_i (cat_i (cat_i (cat_i (cat_i (cat_i cat_n))))))) (Nat.le_of_ble_eq_true rfl) rfl ?_
  intro X hXl hin C
  show J X g _ _ 0 [(0, rv g a0), (1, .int a1), (2, .int a2), (3, .int a3), (4, .int a4), (5, .int a5), (6, .int a6)] [] S (f_X7_thing S a0 a1 a2 a3 a4 a5 a6)
  unfold f_X7_thing
  refine J.iload_n (pc := 0) C dX7_thing_0 rfl rfl ?_
  refine J.iload_n (pc := 1) C dX7_thing_1 rfl rfl ?_
  refine J.iload_n (pc := 2) C dX7_thing_2 rfl rfl ?_
  refine J.iload (pc := 3) C dX7_thing_3 rfl ?_
  refine J.iload (pc := 5) C dX7_thing_5 rfl ?_
  refine J.iload (pc := 7) C dX7_thing_7 rfl ?_
  refine J.sI (pc := 9) C ms_X7_wrongOfThing wm_RX7_86 (fun l => c_X7_wrongOfThing l g S a1 a2 a3 a4 a5 a6) ⟨⟨Nat.zero_le _, Nat.zero_le _⟩, rfl, rfl⟩ rfl ⟨Nat.le_of_ble_eq_true rfl, Nat.le_of_ble_eq_true rfl⟩ rfl ct_n (Nat.le_of_ble_eq_true rfl) dX7_thing_9 (fun r1 => ?_)
  refine J.if_lt (pc := 12) C (tgt := 18) dX7_thing_12 rfl ?_ ?_
  · refine J.aload_n (pc := 18) C (x := a0) dX7_thing_18 rfl rfl ?_
    refine J.getR (pc := 19) C fl_RX7_12 rfl dX7_thing_19 ?_
    refine J.getI (pc := 22) C fl_RX7_90 rfl dX7_thing_22 ?_
    refine J.iconst (pc := 25) C dX7_thing_25 ki_4 ?_
    refine J.icmp_lt (pc := 26) C (tgt := 32) dX7_thing_26 rfl ?_ ?_
    · refine J.aload_n (pc := 32) C (x := a0) dX7_thing_32 rfl rfl ?_
      refine J.vU (pc := 33) C mv_X7_recordState wm_RX7_75 (fun l => c_X7_recordState l g S a0) ⟨⟨Nat.zero_le _, Nat.zero_le _⟩, rfl, rfl⟩ rfl ⟨Nat.le_of_ble_eq_true rfl, Nat.le_of_ble_eq_true rfl⟩ rfl ct_n (Nat.le_of_ble_eq_true rfl) dX7_thing_33 (fun S_2 => ?_)
      refine J.aload_n (pc := 36) C (x := a0) dX7_thing_36 rfl rfl ?_
      refine J.getR (pc := 37) C fl_RX7_12 rfl dX7_thing_37 ?_
      refine J.iload_n (pc := 40) C dX7_thing_40 rfl rfl ?_
      refine J.iload_n (pc := 41) C dX7_thing_41 rfl rfl ?_
      refine J.iload_n (pc := 42) C dX7_thing_42 rfl rfl ?_
      refine J.iload (pc := 43) C dX7_thing_43 rfl ?_
      refine J.iload (pc := 45) C dX7_thing_45 rfl ?_
      refine J.iload (pc := 47) C dX7_thing_47 rfl ?_
      refine J.vU (pc := 49) C mv_X3_addThing wm_RX7_94 (fun l => c_X3_addThing l g S_2 (S_2.2.1 a0 0) a1 a2 a3 a4 a5 a6) ⟨⟨Nat.zero_le _, Nat.zero_le _⟩, rfl, rfl⟩ rfl ⟨Nat.le_of_ble_eq_true rfl, Nat.le_of_ble_eq_true rfl⟩ rfl ct_n (Nat.le_of_ble_eq_true rfl) dX7_thing_49 (fun S_3 => ?_)
      refine J.aload_n (pc := 52) C (x := a0) dX7_thing_52 rfl rfl ?_
      refine J.getR (pc := 53) C fl_RX7_12 rfl dX7_thing_53 ?_
      refine J.getI (pc := 56) C fl_RX7_90 rfl dX7_thing_56 ?_
      refine J.iconst (pc := 59) C dX7_thing_59 ki_1 ?_
      refine J.isub (pc := 60) C dX7_thing_60 ?_
      exact J.iret (pc := 61) C rfl rfl ⟨Nat.le_refl _, Nat.le_refl _⟩ dX7_thing_61
    · refine J.ldc (pc := 29) C wc_RX7_93 dX7_thing_29 ?_
      exact J.iret (pc := 31) C rfl rfl ⟨Nat.le_refl _, Nat.le_refl _⟩ dX7_thing_31
  · refine J.ldc (pc := 15) C wc_RX7_60 dX7_thing_15 ?_
    exact J.iret (pc := 17) C rfl rfl ⟨Nat.le_refl _, Nat.le_refl _⟩ dX7_thing_17
