def f_L_law_B381 (g : GG) (a1 : Nat) (a3 : Int32) (a4 : Int32) (kx381 : St → Int32 → Option Int32) (k381 : St → Int32 → Int32 → Option Int32) (S : St) (x2 : Int32) (x7 : Int32) : Option Int32 :=
  (chk (okc S 7 a1) (bnd (f_X7_count S a1 1) fun r8 =>
  (if r8 ≤ x7 then
  (kx381 S x2)
  else (if x2 = 0 then
  (kx381 S x2)
  else (bnd2 (f_L_frameHolds S a1 x7) fun r9 S_10 =>
  (k381 S_10 r9 (x7 + 1)))))))
set_option maxRecDepth 100000 in
set_option maxHeartbeats 4000000 in
theorem w_L_law_B381 {X : CT} {g : GG} (hX : SX X g) (C : CX X g code RL ret 11 room_1) (a1 : Nat) (a3 : Int32) (a4 : Int32) (kx381 : St → Int32 → Option Int32) (hkx381 : ∀ (S : St) (x2 : Int32), J X g (Ql X) (cw (120, 4965)) 408 [(0, sv g), (1, rv g a1), (2, .int x2), (3, .int a3), (4, .int a4)] [] S (kx381 S x2)) : ∀ (n : Nat) (S : St) (x2 : Int32) (x7 : Int32), J X g (Ql X) (cw (120, 4965)) 381 [(0, sv g), (1, rv g a1), (2, .int x2), (3, .int a3), (4, .int a4), (7, .int x7)] [] S (wl3 (f_L_law_B381 g a1 a3 a4 kx381) n S x2 x7) := by
  refine J.loop3 (lvf := fun (S : St) (x2 : Int32) (x7 : Int32) => [(0, sv g), (1, rv g a1), (2, .int x2), (3, .int a3), (4, .int a4), (7, .int x7)]) (Sf := fun (S : St) (x2 : Int32) (x7 : Int32) => S) ?_
  intro k381 hk381 S x2 x7
  show J X g _ _ 381 [(0, sv g), (1, rv g a1), (2, .int x2), (3, .int a3), (4, .int a4), (7, .int x7)] [] S (f_L_law_B381 g a1 a3 a4 kx381 k381 S x2 x7)
  unfold f_L_law_B381
  refine J.iload (pc := 381) C dL_law_381 rfl ?_
  refine J.aload_n (pc := 383) C (x := a1) dL_law_383 rfl rfl ?_
  refine J.iconst (pc := 384) C dL_law_384 ki_1 ?_
  refine J.vI (pc := 385) C mv_X7_count wm_RL_29 (fun l => c_X7_count l g S a1 1) ⟨⟨Nat.le_of_ble_eq_true rfl, Nat.le_of_ble_eq_true rfl⟩, rfl, rfl⟩ rfl ⟨Nat.le_of_ble_eq_true rfl, Nat.le_of_ble_eq_true rfl⟩ rfl (ct_i ct_n) (Nat.le_of_ble_eq_true rfl) dL_law_385 (fun r8 => ?_)
  refine J.icmp_ge (pc := 388) C (tgt := 408) dL_law_388 rfl ?_ ?_
  · exact J.pick [0, 1, 2, 3, 4] rfl (hkx381 _ _)
  · refine J.iload_n (pc := 391) C dL_law_391 rfl rfl ?_
    refine J.if_eq (pc := 392) C (tgt := 408) dL_law_392 rfl ?_ ?_
    · exact J.pick [0, 1, 2, 3, 4] rfl (hkx381 _ _)
    · refine J.aload_n (pc := 395) C (x := a1) dL_law_395 rfl rfl ?_
      refine J.iload (pc := 396) C dL_law_396 rfl ?_
      refine J.sW (pc := 398) C ms_L_frameHolds wm_RL_65 (fun l => c_L_frameHolds l g S a1 x7) ⟨⟨Nat.le_of_ble_eq_true rfl, Nat.le_of_ble_eq_true rfl⟩, rfl, rfl⟩ rfl ⟨Nat.le_of_ble_eq_true rfl, Nat.le_of_ble_eq_true rfl⟩ rfl ct_n (Nat.le_of_ble_eq_true rfl) dL_law_398 (fun r9 S_10 => ?_)
      refine J.istore_n (pc := 401) C (lv' := [(0, sv g), (1, rv g a1), (2, .int r9), (3, .int a3), (4, .int a4), (7, .int x7)]) dL_law_401 rfl (Nat.le_of_ble_eq_true rfl) (lsf_s (lsf_r (lsf_i (lsf_i (lsf_i (lsf_i lsf_n)))))) rfl ?_
      refine J.iinc (pc := 402) C (lv' := [(0, sv g), (1, rv g a1), (2, .int r9), (3, .int a3), (4, .int a4), (7, .int (x7 + 1))]) dL_law_402 rfl (Nat.le_of_ble_eq_true rfl) (lsf_s (lsf_r (lsf_i (lsf_i (lsf_i (lsf_i lsf_n)))))) ki_1 rfl ?_
      refine J.goto (pc := 405) C (tgt := 381) dL_law_405 rfl ?_
      exact (hk381 _ _ _)
def f_L_law_J378 (g : GG) (S : St) (a1 : Nat) (kx43 : St → Int32 → Option Int32) (k43 : St → Int32 → Int32 → Int32 → Option Int32) (x2 : Int32) (x3 : Int32) (x4 : Int32) : Option Int32 :=
  (wl3 (f_L_law_B381 g a1 x3 x4 (fun (S_12 : St) (y2_11 : Int32) => (k43 S_12 y2_11 x3 (x4 + 1)))) FU S x2 0)
set_option maxRecDepth 100000 in
set_option maxHeartbeats 4000000 in
theorem w_L_law_J378 {X : CT} {g : GG} (hX : SX X g) (C : CX X g code RL ret 11 room_1) (S : St) (a1 : Nat) (kx43 : St → Int32 → Option Int32) (k43 : St → Int32 → Int32 → Int32 → Option Int32) (x2 : Int32) (x3 : Int32) (x4 : Int32) (hkx43 : ∀ (S : St) (x2 : Int32), J X g (Ql X) (cw (120, 4965)) 414 [(1, rv g a1), (2, .int x2)] [] S (kx43 S x2)) (hk43 : ∀ (S : St) (x2 : Int32) (x3 : Int32) (x4 : Int32), J X g (Ql X) (cw (120, 4965)) 43 [(0, sv g), (1, rv g a1), (2, .int x2), (3, .int x3), (4, .int x4)] [] S (k43 S x2 x3 x4)) : J X g (Ql X) (cw (120, 4965)) 378 [(0, sv g), (1, rv g a1), (2, .int x2), (3, .int x3), (4, .int x4)] [] S (f_L_law_J378 g S a1 kx43 k43 x2 x3 x4) := by
  unfold f_L_law_J378
  refine J.iconst (pc := 378) C dL_law_378 ki_0 ?_
  refine J.istore (pc := 379) C (lv' := [(0, sv g), (1, rv g a1), (2, .int x2), (3, .int x3), (4, .int x4), (7, .int 0)]) dL_law_379 (Nat.le_of_ble_eq_true rfl) (lsf_s (lsf_r (lsf_i (lsf_i (lsf_i lsf_n))))) rfl ?_
  refine w_L_law_B381 hX C _ _ _ _ (fun S_12 y2_11 => ?_) FU _ _ _
  refine J.iinc (pc := 408) C (lv' := [(0, sv g), (1, rv g a1), (2, .int y2_11), (3, .int x3), (4, .int (x4 + 1))]) dL_law_408 rfl (Nat.le_of_ble_eq_true rfl) (lsf_s (lsf_r (lsf_i (lsf_i (lsf_i lsf_n))))) ki_1 rfl ?_
  refine J.goto (pc := 411) C (tgt := 43) dL_law_411 rfl ?_
  exact (hk43 _ _ _ _)
def f_L_law_J270 (g : GG) (S : St) (a1 : Nat) (kx43 : St → Int32 → Option Int32) (k43 : St → Int32 → Int32 → Int32 → Option Int32) (x3 : Int32) (x4 : Int32) (t0 : Int32) : Option Int32 :=
  (f_L_law_J378 g S a1 kx43 k43 t0 x3 x4)
set_option maxRecDepth 100000 in
set_option maxHeartbeats 4000000 in
theorem w_L_law_J270 {X : CT} {g : GG} (hX : SX X g) (C : CX X g code RL ret 11 room_1) (S : St) (a1 : Nat) (kx43 : St → Int32 → Option Int32) (k43 : St → Int32 → Int32 → Int32 → Option Int32) (x3 : Int32) (x4 : Int32) (t0 : Int32) (hkx43 : ∀ (S : St) (x2 : Int32), J X g (Ql X) (cw (120, 4965)) 414 [(1, rv g a1), (2, .int x2)] [] S (kx43 S x2)) (hk43 : ∀ (S : St) (x2 : Int32) (x3 : Int32) (x4 : Int32), J X g (Ql X) (cw (120, 4965)) 43 [(0, sv g), (1, rv g a1), (2, .int x2), (3, .int x3), (4, .int x4)] [] S (k43 S x2 x3 x4)) : J X g (Ql X) (cw (120, 4965)) 270 [(0, sv g), (1, rv g a1), (3, .int x3), (4, .int x4)] [.int t0] S (f_L_law_J270 g S a1 kx43 k43 x3 x4 t0) := by
  unfold f_L_law_J270
  refine J.istore_n (pc := 270) C (lv' := [(0, sv g), (1, rv g a1), (2, .int t0), (3, .int x3), (4, .int x4)]) dL_law_270 rfl (Nat.le_of_ble_eq_true rfl) (lsf_s (lsf_r (lsf_i (lsf_i lsf_n)))) rfl ?_
  refine J.goto (pc := 271) C (tgt := 378) dL_law_271 rfl ?_
  exact (w_L_law_J378 hX C _ _ _ _ _ _ _ hkx43 hk43)
def f_L_law_J269 (g : GG) (S : St) (a1 : Nat) (kx43 : St → Int32 → Option Int32) (k43 : St → Int32 → Int32 → Int32 → Option Int32) (x3 : Int32) (x4 : Int32) : Option Int32 :=
  (f_L_law_J270 g S a1 kx43 k43 x3 x4 0)
set_option maxRecDepth 100000 in
set_option maxHeartbeats 4000000 in
theorem w_L_law_J269 {X : CT} {g : GG} (hX : SX X g) (C : CX X g code RL ret 11 room_1) (S : St) (a1 : Nat) (kx43 : St → Int32 → Option Int32) (k43 : St → Int32 → Int32 → Int32 → Option Int32) (x3 : Int32) (x4 : Int32) (hkx43 : ∀ (S : St) (x2 : Int32), J X g (Ql X) (cw (120, 4965)) 414 [(1, rv g a1), (2, .int x2)] [] S (kx43 S x2)) (hk43 : ∀ (S : St) (x2 : Int32) (x3 : Int32) (x4 : Int32), J X g (Ql X) (cw (120, 4965)) 43 [(0, sv g), (1, rv g a1), (2, .int x2), (3, .int x3), (4, .int x4)] [] S (k43 S x2 x3 x4)) : J X g (Ql X) (cw (120, 4965)) 269 [(0, sv g), (1, rv g a1), (3, .int x3), (4, .int x4)] [] S (f_L_law_J269 g S a1 kx43 k43 x3 x4) := by
  unfold f_L_law_J269
  refine J.iconst (pc := 269) C dL_law_269 ki_0 ?_
  exact (w_L_law_J270 hX C _ _ _ _ _ _ _ hkx43 hk43)
def f_L_law_J295 (g : GG) (S : St) (a1 : Nat) (kx43 : St → Int32 → Option Int32) (k43 : St → Int32 → Int32 → Int32 → Option Int32) (x3 : Int32) (x4 : Int32) (t0 : Int32) : Option Int32 :=
  (f_L_law_J378 g S a1 kx43 k43 t0 (x3 + 1) x4)
set_option maxRecDepth 100000 in
set_option maxHeartbeats 4000000 in
theorem w_L_law_J295 {X : CT} {g : GG} (hX : SX X g) (C : CX X g code RL ret 11 room_1) (S : St) (a1 : Nat) (kx43 : St → Int32 → Option Int32) (k43 : St → Int32 → Int32 → Int32 → Option Int32) (x3 : Int32) (x4 : Int32) (t0 : Int32) (hkx43 : ∀ (S : St) (x2 : Int32), J X g (Ql X) (cw (120, 4965)) 414 [(1, rv g a1), (2, .int x2)] [] S (kx43 S x2)) (hk43 : ∀ (S : St) (x2 : Int32) (x3 : Int32) (x4 : Int32), J X g (Ql X) (cw (120, 4965)) 43 [(0, sv g), (1, rv g a1), (2, .int x2), (3, .int x3), (4, .int x4)] [] S (k43 S x2 x3 x4)) : J X g (Ql X) (cw (120, 4965)) 295 [(0, sv g), (1, rv g a1), (3, .int x3), (4, .int x4)] [.int t0] S (f_L_law_J295 g S a1 kx43 k43 x3 x4 t0) := by
  unfold f_L_law_J295
  refine J.istore_n (pc := 295) C (lv' := [(0, sv g), (1, rv g a1), (2, .int t0), (3, .int x3), (4, .int x4)]) dL_law_295 rfl (Nat.le_of_ble_eq_true rfl) (lsf_s (lsf_r (lsf_i (lsf_i lsf_n)))) rfl ?_
  refine J.iinc (pc := 296) C (lv' := [(0, sv g), (1, rv g a1), (2, .int t0), (3, .int (x3 + 1)), (4, .int x4)]) dL_law_296 rfl (Nat.le_of_ble_eq_true rfl) (lsf_s (lsf_r (lsf_i (lsf_i (lsf_i lsf_n))))) ki_1 rfl ?_
  refine J.goto (pc := 299) C (tgt := 378) dL_law_299 rfl ?_
  exact (w_L_law_J378 hX C _ _ _ _ _ _ _ hkx43 hk43)
def f_L_law_J290 (g : GG) (S : St) (a1 : Nat) (kx43 : St → Int32 → Option Int32) (k43 : St → Int32 → Int32 → Int32 → Option Int32) (x3 : Int32) (x4 : Int32) : Option Int32 :=
  (f_L_law_J295 g S a1 kx43 k43 x3 x4 1)
set_option maxRecDepth 100000 in
set_option maxHeartbeats 4000000 in
theorem w_L_law_J290 {X : CT} {g : GG} (hX : SX X g) (C : CX X g code RL ret 11 room_1) (S : St) (a1 : Nat) (kx43 : St → Int32 → Option Int32) (k43 : St → Int32 → Int32 → Int32 → Option Int32) (x3 : Int32) (x4 : Int32) (hkx43 : ∀ (S : St) (x2 : Int32), J X g (Ql X) (cw (120, 4965)) 414 [(1, rv g a1), (2, .int x2)] [] S (kx43 S x2)) (hk43 : ∀ (S : St) (x2 : Int32) (x3 : Int32) (x4 : Int32), J X g (Ql X) (cw (120, 4965)) 43 [(0, sv g), (1, rv g a1), (2, .int x2), (3, .int x3), (4, .int x4)] [] S (k43 S x2 x3 x4)) : J X g (Ql X) (cw (120, 4965)) 290 [(0, sv g), (1, rv g a1), (3, .int x3), (4, .int x4)] [] S (f_L_law_J290 g S a1 kx43 k43 x3 x4) := by
  unfold f_L_law_J290
  refine J.iconst (pc := 290) C dL_law_290 ki_1 ?_
  refine J.goto (pc := 291) C (tgt := 295) dL_law_291 rfl ?_
  exact (w_L_law_J295 hX C _ _ _ _ _ _ _ hkx43 hk43)
def f_L_law_J329 (g : GG) (S : St) (a1 : Nat) (kx43 : St → Int32 → Option Int32) (k43 : St → Int32 → Int32 → Int32 → Option Int32) (x3 : Int32) (x4 : Int32) (t0 : Int32) : Option Int32 :=
  (f_L_law_J378 g S a1 kx43 k43 t0 x3 x4)
set_option maxRecDepth 100000 in
set_option maxHeartbeats 4000000 in
theorem w_L_law_J329 {X : CT} {g : GG} (hX : SX X g) (C : CX X g code RL ret 11 room_1) (S : St) (a1 : Nat) (kx43 : St → Int32 → Option Int32) (k43 : St → Int32 → Int32 → Int32 → Option Int32) (x3 : Int32) (x4 : Int32) (t0 : Int32) (hkx43 : ∀ (S : St) (x2 : Int32), J X g (Ql X) (cw (120, 4965)) 414 [(1, rv g a1), (2, .int x2)] [] S (kx43 S x2)) (hk43 : ∀ (S : St) (x2 : Int32) (x3 : Int32) (x4 : Int32), J X g (Ql X) (cw (120, 4965)) 43 [(0, sv g), (1, rv g a1), (2, .int x2), (3, .int x3), (4, .int x4)] [] S (k43 S x2 x3 x4)) : J X g (Ql X) (cw (120, 4965)) 329 [(0, sv g), (1, rv g a1), (3, .int x3), (4, .int x4)] [.int t0] S (f_L_law_J329 g S a1 kx43 k43 x3 x4 t0) := by
  unfold f_L_law_J329
  refine J.istore_n (pc := 329) C (lv' := [(0, sv g), (1, rv g a1), (2, .int t0), (3, .int x3), (4, .int x4)]) dL_law_329 rfl (Nat.le_of_ble_eq_true rfl) (lsf_s (lsf_r (lsf_i (lsf_i lsf_n)))) rfl ?_
  refine J.goto (pc := 330) C (tgt := 378) dL_law_330 rfl ?_
  exact (w_L_law_J378 hX C _ _ _ _ _ _ _ hkx43 hk43)
def f_L_law_J324 (g : GG) (S : St) (a1 : Nat) (kx43 : St → Int32 → Option Int32) (k43 : St → Int32 → Int32 → Int32 → Option Int32) (x3 : Int32) (x4 : Int32) : Option Int32 :=
  (f_L_law_J329 g S a1 kx43 k43 x3 x4 1)
set_option maxRecDepth 100000 in
set_option maxHeartbeats 4000000 in
theorem w_L_law_J324 {X : CT} {g : GG} (hX : SX X g) (C : CX X g code RL ret 11 room_1) (S : St) (a1 : Nat) (kx43 : St → Int32 → Option Int32) (k43 : St → Int32 → Int32 → Int32 → Option Int32) (x3 : Int32) (x4 : Int32) (hkx43 : ∀ (S : St) (x2 : Int32), J X g (Ql X) (cw (120, 4965)) 414 [(1, rv g a1), (2, .int x2)] [] S (kx43 S x2)) (hk43 : ∀ (S : St) (x2 : Int32) (x3 : Int32) (x4 : Int32), J X g (Ql X) (cw (120, 4965)) 43 [(0, sv g), (1, rv g a1), (2, .int x2), (3, .int x3), (4, .int x4)] [] S (k43 S x2 x3 x4)) : J X g (Ql X) (cw (120, 4965)) 324 [(0, sv g), (1, rv g a1), (3, .int x3), (4, .int x4)] [] S (f_L_law_J324 g S a1 kx43 k43 x3 x4) := by
  unfold f_L_law_J324
  refine J.iconst (pc := 324) C dL_law_324 ki_1 ?_
  refine J.goto (pc := 325) C (tgt := 329) dL_law_325 rfl ?_
  exact (w_L_law_J329 hX C _ _ _ _ _ _ _ hkx43 hk43)
def f_L_law_J369 (g : GG) (S : St) (a1 : Nat) (kx43 : St → Int32 → Option Int32) (k43 : St → Int32 → Int32 → Int32 → Option Int32) (x3 : Int32) (x4 : Int32) (t0 : Int32) : Option Int32 :=
  (f_L_law_J378 g S a1 kx43 k43 t0 x3 x4)
set_option maxRecDepth 100000 in
set_option maxHeartbeats 4000000 in
theorem w_L_law_J369 {X : CT} {g : GG} (hX : SX X g) (C : CX X g code RL ret 11 room_1) (S : St) (a1 : Nat) (kx43 : St → Int32 → Option Int32) (k43 : St → Int32 → Int32 → Int32 → Option Int32) (x3 : Int32) (x4 : Int32) (t0 : Int32) (hkx43 : ∀ (S : St) (x2 : Int32), J X g (Ql X) (cw (120, 4965)) 414 [(1, rv g a1), (2, .int x2)] [] S (kx43 S x2)) (hk43 : ∀ (S : St) (x2 : Int32) (x3 : Int32) (x4 : Int32), J X g (Ql X) (cw (120, 4965)) 43 [(0, sv g), (1, rv g a1), (2, .int x2), (3, .int x3), (4, .int x4)] [] S (k43 S x2 x3 x4)) : J X g (Ql X) (cw (120, 4965)) 369 [(0, sv g), (1, rv g a1), (3, .int x3), (4, .int x4)] [.int t0] S (f_L_law_J369 g S a1 kx43 k43 x3 x4 t0) := by
  unfold f_L_law_J369
  refine J.istore_n (pc := 369) C (lv' := [(0, sv g), (1, rv g a1), (2, .int t0), (3, .int x3), (4, .int x4)]) dL_law_369 rfl (Nat.le_of_ble_eq_true rfl) (lsf_s (lsf_r (lsf_i (lsf_i lsf_n)))) rfl ?_
  refine J.goto (pc := 370) C (tgt := 378) dL_law_370 rfl ?_
  exact (w_L_law_J378 hX C _ _ _ _ _ _ _ hkx43 hk43)
def f_L_law_J333 (g : GG) (S : St) (a1 : Nat) (kx43 : St → Int32 → Option Int32) (k43 : St → Int32 → Int32 → Int32 → Option Int32) (x3 : Int32) (x4 : Int32) (x6 : Int32) : Option Int32 :=
  (chk (okc S 7 a1) (bnd (f_X7_count S a1 2) fun r29 =>
  (chk (¬ (60 : Int32) = 0)
  (chk (okc S 7 a1) (bnd2 (f_X7_pass S a1 (1 + (x6 - x6 / 60 * 60))) fun r30 S_31 =>
  (chk (¬ (60 : Int32) = 0)
  (if r30 = ((r29 + 1) + (x6 - x6 / 60 * 60)) then
  (f_L_law_J369 g S_31 a1 kx43 k43 x3 x4 1)
  else (f_L_law_J369 g S_31 a1 kx43 k43 x3 x4 0))))))))
set_option maxRecDepth 100000 in
set_option maxHeartbeats 4000000 in
theorem w_L_law_J333 {X : CT} {g : GG} (hX : SX X g) (C : CX X g code RL ret 11 room_1) (S : St) (a1 : Nat) (kx43 : St → Int32 → Option Int32) (k43 : St → Int32 → Int32 → Int32 → Option Int32) (x3 : Int32) (x4 : Int32) (x6 : Int32) (hkx43 : ∀ (S : St) (x2 : Int32), J X g (Ql X) (cw (120, 4965)) 414 [(1, rv g a1), (2, .int x2)] [] S (kx43 S x2)) (hk43 : ∀ (S : St) (x2 : Int32) (x3 : Int32) (x4 : Int32), J X g (Ql X) (cw (120, 4965)) 43 [(0, sv g), (1, rv g a1), (2, .int x2), (3, .int x3), (4, .int x4)] [] S (k43 S x2 x3 x4)) : J X g (Ql X) (cw (120, 4965)) 333 [(0, sv g), (1, rv g a1), (3, .int x3), (4, .int x4), (6, .int x6)] [] S (f_L_law_J333 g S a1 kx43 k43 x3 x4 x6) := by
  unfold f_L_law_J333
  refine J.aload_n (pc := 333) C (x := a1) dL_law_333 rfl rfl ?_
  refine J.iconst (pc := 334) C dL_law_334 ki_2 ?_
  refine J.vI (pc := 335) C mv_X7_count wm_RL_29 (fun l => c_X7_count l g S a1 2) ⟨⟨Nat.le_of_ble_eq_true rfl, Nat.le_of_ble_eq_true rfl⟩, rfl, rfl⟩ rfl ⟨Nat.le_of_ble_eq_true rfl, Nat.le_of_ble_eq_true rfl⟩ rfl ct_n (Nat.le_of_ble_eq_true rfl) dL_law_335 (fun r29 => ?_)
  refine J.istore (pc := 338) C (lv' := [(0, sv g), (1, rv g a1), (3, .int x3), (4, .int x4), (6, .int x6), (10, .int r29)]) dL_law_338 (Nat.le_of_ble_eq_true rfl) (lsf_s (lsf_r (lsf_i (lsf_i (lsf_i lsf_n))))) rfl ?_
  refine J.aload_n (pc := 340) C (x := a1) dL_law_340 rfl rfl ?_
  refine J.iconst (pc := 341) C dL_law_341 ki_1 ?_
  refine J.iload (pc := 342) C dL_law_342 rfl ?_
  refine J.bipush (pc := 344) C dL_law_344 kb_60 ?_
  refine J.irem (pc := 346) C dL_law_346 ?_
  refine J.iadd (pc := 347) C dL_law_347 ?_
  refine J.vW (pc := 348) C mv_X7_pass wm_RL_118 (fun l => c_X7_pass l g S a1 (1 + (x6 - x6 / 60 * 60))) ⟨⟨Nat.le_of_ble_eq_true rfl, Nat.le_of_ble_eq_true rfl⟩, rfl, rfl⟩ rfl ⟨Nat.le_of_ble_eq_true rfl, Nat.le_of_ble_eq_true rfl⟩ rfl ct_n (Nat.le_of_ble_eq_true rfl) dL_law_348 (fun r30 S_31 => ?_)
  refine J.iload (pc := 351) C dL_law_351 rfl ?_
  refine J.iconst (pc := 353) C dL_law_353 ki_1 ?_
  refine J.iadd (pc := 354) C dL_law_354 ?_
  refine J.iload (pc := 355) C dL_law_355 rfl ?_
  refine J.bipush (pc := 357) C dL_law_357 kb_60 ?_
  refine J.irem (pc := 359) C dL_law_359 ?_
  refine J.iadd (pc := 360) C dL_law_360 ?_
  refine J.icmp_ne (pc := 361) C (tgt := 368) dL_law_361 rfl ?_ ?_
  · refine J.iconst (pc := 368) C dL_law_368 ki_0 ?_
    exact J.pick [0, 1, 2, 3] rfl (w_L_law_J369 hX C _ _ _ _ _ _ _ hkx43 hk43)
  · refine J.iconst (pc := 364) C dL_law_364 ki_1 ?_
    refine J.goto (pc := 365) C (tgt := 369) dL_law_365 rfl ?_
    exact J.pick [0, 1, 2, 3] rfl (w_L_law_J369 hX C _ _ _ _ _ _ _ hkx43 hk43)
def f_L_law_B43 (g : GG) (a1 : Nat) (kx43 : St → Int32 → Option Int32) (k43 : St → Int32 → Int32 → Int32 → Option Int32) (S : St) (x2 : Int32) (x3 : Int32) (x4 : Int32) : Option Int32 :=
  (if (26 : Int32) ≤ x4 then
  (kx43 S x2)
  else (if x2 = 0 then
  (kx43 S x2)
  else (bnd (f_L_cell g S (7 + x4)) fun r5 =>
  (chk (¬ (16 : Int32) = 0)
  (chk (¬ (16 : Int32) = 0)
  (if (r5 - r5 / 16 * 16) = 0 then
  (chk (¬ (3 : Int32) = 0)
  (chk (¬ (4 : Int32) = 0)
  (chk (¬ (401 : Int32) = 0)
  (bnd2 (f_L_turns S a1 ((r5 / 16) - (r5 / 16) / 3 * 3) ((((r5 / 16) / 4) - ((r5 / 16) / 4) / 401 * 401) - 200)) fun r6 S_7 =>
  (f_L_law_J378 g S_7 a1 kx43 k43 r6 x3 x4)))))
  else (if (r5 - r5 / 16 * 16) = 1 then
  (chk (¬ (3 : Int32) = 0)
  (chk (¬ (4 : Int32) = 0)
  (chk (¬ (21 : Int32) = 0)
  (bnd2 (f_L_turns S a1 ((r5 / 16) - (r5 / 16) / 3 * 3) (10 * ((((r5 / 16) / 4) - ((r5 / 16) / 4) / 21 * 21) - 10))) fun r13 S_14 =>
  (f_L_law_J378 g S_14 a1 kx43 k43 r13 x3 x4)))))
  else (if (r5 - r5 / 16 * 16) = 2 then
  (chk (¬ (10 : Int32) = 0)
  (bnd2 (f_L_blinds S a1 ((r5 / 16) - (r5 / 16) / 10 * 10)) fun r15 S_16 =>
  (f_L_law_J378 g S_16 a1 kx43 k43 r15 x3 x4)))
  else (if (r5 - r5 / 16 * 16) = 3 then
  (chk (¬ (6 : Int32) = 0)
  (bnd2 (f_L_forgets S a1 ((r5 / 16) - (r5 / 16) / 6 * 6)) fun r17 S_18 =>
  (f_L_law_J378 g S_18 a1 kx43 k43 r17 x3 x4)))
  else (if (r5 - r5 / 16 * 16) = 4 then
  (chk (¬ (5 : Int32) = 0)
  (chk (¬ (8 : Int32) = 0)
  (chk (¬ (20 : Int32) = 0)
  (vlt (1 + (((r5 / 16) / 8) - ((r5 / 16) / 8) / 20 * 20)) fun v19 =>
  (chk (okc S 7 a1) (bnd (f_X7_count S a1 (10 + (3 + ((r5 / 16) - (r5 / 16) / 5 * 5)))) fun r20 =>
  (chk (okc S 7 a1) (bnd2 (f_X7_set S a1 (3 + ((r5 / 16) - (r5 / 16) / 5 * 5)) v19) fun r21 S_22 =>
  (if r21 = r20 then
  (chk (okc S_22 7 a1) (bnd (f_X7_count S_22 a1 (10 + (3 + ((r5 / 16) - (r5 / 16) / 5 * 5)))) fun r23 =>
  (if r23 = v19 then
  (f_L_law_J270 g S_22 a1 kx43 k43 x3 x4 1)
  else (f_L_law_J269 g S_22 a1 kx43 k43 x3 x4))))
  else (f_L_law_J269 g S_22 a1 kx43 k43 x3 x4))))))))))
  else (if (r5 - r5 / 16 * 16) = 5 then
  (if (1 : Int32) < x3 then
  (f_L_law_J290 g S a1 kx43 k43 x3 x4)
  else (chk (¬ (3 : Int32) = 0)
  (bnd2 (f_L_fits S a1 ((r5 / 16) - (r5 / 16) / 3 * 3)) fun r24 S_25 =>
  (if r24 = 0 then
  (f_L_law_J295 g S_25 a1 kx43 k43 x3 x4 0)
  else (f_L_law_J290 g S_25 a1 kx43 k43 x3 x4)))))
  else (if (r5 - r5 / 16 * 16) = 6 then
  (chk (okc S 7 a1) (bnd (f_X7_count S a1 1) fun r26 =>
  (if r26 = 0 then
  (f_L_law_J324 g S a1 kx43 k43 x3 x4)
  else (chk (¬ (3 : Int32) = 0)
  (chk (okc S 7 a1) (bnd2 (f_X7_set S a1 ((r5 / 16) - (r5 / 16) / 3 * 3) 4) fun r27 S_28 =>
  (if r27 = (-10000002) then
  (f_L_law_J324 g S_28 a1 kx43 k43 x3 x4)
  else (f_L_law_J329 g S_28 a1 kx43 k43 x3 x4 0))))))))
  else (if (r5 - r5 / 16 * 16) = 7 then
  (f_L_law_J333 g S a1 kx43 k43 x3 x4 (r5 / 16))
  else (if (r5 - r5 / 16 * 16) = 8 then
  (f_L_law_J333 g S a1 kx43 k43 x3 x4 (r5 / 16))
  else (if (r5 - r5 / 16 * 16) = 9 then
  (f_L_law_J333 g S a1 kx43 k43 x3 x4 (r5 / 16))
  else (bnd2 (f_L_shoots S a1) fun r32 S_33 =>
  (f_L_law_J378 g S_33 a1 kx43 k43 r32 x3 x4)))))))))))))))))
set_option maxRecDepth 100000 in
set_option maxHeartbeats 4000000 in
theorem w_L_law_B43 {X : CT} {g : GG} (hX : SX X g) (C : CX X g code RL ret 11 room_1) (a1 : Nat) (kx43 : St → Int32 → Option Int32) (hkx43 : ∀ (S : St) (x2 : Int32), J X g (Ql X) (cw (120, 4965)) 414 [(1, rv g a1), (2, .int x2)] [] S (kx43 S x2)) : ∀ (n : Nat) (S : St) (x2 : Int32) (x3 : Int32) (x4 : Int32), J X g (Ql X) (cw (120, 4965)) 43 [(0, sv g), (1, rv g a1), (2, .int x2), (3, .int x3), (4, .int x4)] [] S (wl4 (f_L_law_B43 g a1 kx43) n S x2 x3 x4) := by
  refine J.loop4 (lvf := fun (S : St) (x2 : Int32) (x3 : Int32) (x4 : Int32) => [(0, sv g), (1, rv g a1), (2, .int x2), (3, .int x3), (4, .int x4)]) (Sf := fun (S : St) (x2 : Int32) (x3 : Int32) (x4 : Int32) => S) ?_
  intro k43 hk43 S x2 x3 x4
  show J X g _ _ 43 [(0, sv g), (1, rv g a1), (2, .int x2), (3, .int x3), (4, .int x4)] [] S (f_L_law_B43 g a1 kx43 k43 S x2 x3 x4)
  unfold f_L_law_B43
  refine J.iload (pc := 43) C dL_law_43 rfl ?_
  refine J.bipush (pc := 45) C dL_law_45 kb_26 ?_
  refine J.icmp_ge (pc := 47) C (tgt := 414) dL_law_47 rfl ?_ ?_
  · exact J.pick [1, 2] rfl (hkx43 _ _)
  · refine J.iload_n (pc := 50) C dL_law_50 rfl rfl ?_
    refine J.if_eq (pc := 51) C (tgt := 414) dL_law_51 rfl ?_ ?_
    · exact J.pick [1, 2] rfl (hkx43 _ _)
    · refine J.sload_n (pc := 54) C dL_law_54 rfl rfl ?_
      refine J.bipush (pc := 55) C dL_law_55 kb_7 ?_
      refine J.iload (pc := 57) C dL_law_57 rfl ?_
      refine J.iadd (pc := 59) C dL_law_59 ?_
      refine J.sI (pc := 60) C ms_L_cell wm_RL_14 (fun l => c_L_cell l g S (7 + x4)) ⟨⟨Nat.le_of_ble_eq_true rfl, Nat.le_of_ble_eq_true rfl⟩, rfl, rfl⟩ rfl ⟨Nat.le_of_ble_eq_true rfl, Nat.le_of_ble_eq_true rfl⟩ rfl ct_n (Nat.le_of_ble_eq_true rfl) dL_law_60 (fun r5 => ?_)
      refine J.istore (pc := 63) C (lv' := [(0, sv g), (1, rv g a1), (2, .int x2), (3, .int x3), (4, .int x4), (5, .int r5)]) dL_law_63 (Nat.le_of_ble_eq_true rfl) (lsf_s (lsf_r (lsf_i (lsf_i (lsf_i lsf_n))))) rfl ?_
      refine J.iload (pc := 65) C dL_law_65 rfl ?_
      refine J.bipush (pc := 67) C dL_law_67 kb_16 ?_
      refine J.idiv (pc := 69) C dL_law_69 ?_
      refine J.istore (pc := 70) C (lv' := [(0, sv g), (1, rv g a1), (2, .int x2), (3, .int x3), (4, .int x4), (5, .int r5), (6, .int (r5 / 16))]) dL_law_70 (Nat.le_of_ble_eq_true rfl) (lsf_s (lsf_r (lsf_i (lsf_i (lsf_i (lsf_i lsf_n)))))) rfl ?_
      refine J.iload (pc := 72) C dL_law_72 rfl ?_
      refine J.bipush (pc := 74) C dL_law_74 kb_16 ?_
      refine J.irem (pc := 76) C dL_law_76 ?_
      refine J.ite (fun h0 => ?_) (fun h0 => ?_)
      · refine J.tswIn (pc := 77) C (tgt := 132) 0 dL_law_77 h0 (by decide) (by decide) rfl rfl ?_
        refine J.aload_n (pc := 132) C (x := a1) dL_law_132 rfl rfl ?_
        refine J.iload (pc := 133) C dL_law_133 rfl ?_
        refine J.iconst (pc := 135) C dL_law_135 ki_3 ?_
        refine J.irem (pc := 136) C dL_law_136 ?_
        refine J.iload (pc := 137) C dL_law_137 rfl ?_
        refine J.iconst (pc := 139) C dL_law_139 ki_4 ?_
        refine J.idiv (pc := 140) C dL_law_140 ?_
        refine J.sipush (pc := 141) C dL_law_141 ks_401 ?_
        refine J.irem (pc := 144) C dL_law_144 ?_
        refine J.sipush (pc := 145) C dL_law_145 ks_200 ?_
        refine J.isub (pc := 148) C dL_law_148 ?_
        refine J.sW (pc := 149) C ms_L_turns wm_RL_105 (fun l => c_L_turns l g S a1 ((r5 / 16) - (r5 / 16) / 3 * 3) ((((r5 / 16) / 4) - ((r5 / 16) / 4) / 401 * 401) - 200)) ⟨⟨Nat.le_of_ble_eq_true rfl, Nat.le_of_ble_eq_true rfl⟩, rfl, rfl⟩ rfl ⟨Nat.le_of_ble_eq_true rfl, Nat.le_of_ble_eq_true rfl⟩ rfl ct_n (Nat.le_of_ble_eq_true rfl) dL_law_149 (fun r6 S_7 => ?_)
        refine J.istore_n (pc := 152) C (lv' := [(0, sv g), (1, rv g a1), (2, .int r6), (3, .int x3), (4, .int x4), (5, .int r5), (6, .int (r5 / 16))]) dL_law_152 rfl (Nat.le_of_ble_eq_true rfl) (lsf_s (lsf_r (lsf_i (lsf_i (lsf_i (lsf_i (lsf_i lsf_n))))))) rfl ?_
        refine J.goto (pc := 153) C (tgt := 378) dL_law_153 rfl ?_
        exact J.pick [0, 1, 2, 3, 4] rfl (w_L_law_J378 hX C _ _ _ _ _ _ _ hkx43 hk43)
      · refine J.ite (fun h1 => ?_) (fun h1 => ?_)
        · refine J.tswIn (pc := 77) C (tgt := 156) 1 dL_law_77 h1 (by decide) (by decide) rfl rfl ?_
          refine J.aload_n (pc := 156) C (x := a1) dL_law_156 rfl rfl ?_
          refine J.iload (pc := 157) C dL_law_157 rfl ?_
          refine J.iconst (pc := 159) C dL_law_159 ki_3 ?_
          refine J.irem (pc := 160) C dL_law_160 ?_
          refine J.bipush (pc := 161) C dL_law_161 kb_10 ?_
          refine J.iload (pc := 163) C dL_law_163 rfl ?_
          refine J.iconst (pc := 165) C dL_law_165 ki_4 ?_
          refine J.idiv (pc := 166) C dL_law_166 ?_
          refine J.bipush (pc := 167) C dL_law_167 kb_21 ?_
          refine J.irem (pc := 169) C dL_law_169 ?_
          refine J.bipush (pc := 170) C dL_law_170 kb_10 ?_
          refine J.isub (pc := 172) C dL_law_172 ?_
          refine J.imul (pc := 173) C dL_law_173 ?_
          refine J.sW (pc := 174) C ms_L_turns wm_RL_105 (fun l => c_L_turns l g S a1 ((r5 / 16) - (r5 / 16) / 3 * 3) (10 * ((((r5 / 16) / 4) - ((r5 / 16) / 4) / 21 * 21) - 10))) ⟨⟨Nat.le_of_ble_eq_true rfl, Nat.le_of_ble_eq_true rfl⟩, rfl, rfl⟩ rfl ⟨Nat.le_of_ble_eq_true rfl, Nat.le_of_ble_eq_true rfl⟩ rfl ct_n (Nat.le_of_ble_eq_true rfl) dL_law_174 (fun r13 S_14 => ?_)
          refine J.istore_n (pc := 177) C (lv' := [(0, sv g), (1, rv g a1), (2, .int r13), (3, .int x3), (4, .int x4), (5, .int r5), (6, .int (r5 / 16))]) dL_law_177 rfl (Nat.le_of_ble_eq_true rfl) (lsf_s (lsf_r (lsf_i (lsf_i (lsf_i (lsf_i (lsf_i lsf_n))))))) rfl ?_
          refine J.goto (pc := 178) C (tgt := 378) dL_law_178 rfl ?_
          exact J.pick [0, 1, 2, 3, 4] rfl (w_L_law_J378 hX C _ _ _ _ _ _ _ hkx43 hk43)
        · refine J.ite (fun h2 => ?_) (fun h2 => ?_)
          · refine J.tswIn (pc := 77) C (tgt := 181) 2 dL_law_77 h2 (by decide) (by decide) rfl rfl ?_
            refine J.aload_n (pc := 181) C (x := a1) dL_law_181 rfl rfl ?_
            refine J.iload (pc := 182) C dL_law_182 rfl ?_
            refine J.bipush (pc := 184) C dL_law_184 kb_10 ?_
            refine J.irem (pc := 186) C dL_law_186 ?_
            refine J.sW (pc := 187) C ms_L_blinds wm_RL_109 (fun l => c_L_blinds l g S a1 ((r5 / 16) - (r5 / 16) / 10 * 10)) ⟨⟨Nat.le_of_ble_eq_true rfl, Nat.le_of_ble_eq_true rfl⟩, rfl, rfl⟩ rfl ⟨Nat.le_of_ble_eq_true rfl, Nat.le_of_ble_eq_true rfl⟩ rfl ct_n (Nat.le_of_ble_eq_true rfl) dL_law_187 (fun r15 S_16 => ?_)
            refine J.istore_n (pc := 190) C (lv' := [(0, sv g), (1, rv g a1), (2, .int r15), (3, .int x3), (4, .int x4), (5, .int r5), (6, .int (r5 / 16))]) dL_law_190 rfl (Nat.le_of_ble_eq_true rfl) (lsf_s (lsf_r (lsf_i (lsf_i (lsf_i (lsf_i (lsf_i lsf_n))))))) rfl ?_
            refine J.goto (pc := 191) C (tgt := 378) dL_law_191 rfl ?_
            exact J.pick [0, 1, 2, 3, 4] rfl (w_L_law_J378 hX C _ _ _ _ _ _ _ hkx43 hk43)
          · refine J.ite (fun h3 => ?_) (fun h3 => ?_)
            · refine J.tswIn (pc := 77) C (tgt := 194) 3 dL_law_77 h3 (by decide) (by decide) rfl rfl ?_
              refine J.aload_n (pc := 194) C (x := a1) dL_law_194 rfl rfl ?_
              refine J.iload (pc := 195) C dL_law_195 rfl ?_
              refine J.bipush (pc := 197) C dL_law_197 kb_6 ?_
              refine J.irem (pc := 199) C dL_law_199 ?_
              refine J.sW (pc := 200) C ms_L_forgets wm_RL_112 (fun l => c_L_forgets l g S a1 ((r5 / 16) - (r5 / 16) / 6 * 6)) ⟨⟨Nat.le_of_ble_eq_true rfl, Nat.le_of_ble_eq_true rfl⟩, rfl, rfl⟩ rfl ⟨Nat.le_of_ble_eq_true rfl, Nat.le_of_ble_eq_true rfl⟩ rfl ct_n (Nat.le_of_ble_eq_true rfl) dL_law_200 (fun r17 S_18 => ?_)
              refine J.istore_n (pc := 203) C (lv' := [(0, sv g), (1, rv g a1), (2, .int r17), (3, .int x3), (4, .int x4), (5, .int r5), (6, .int (r5 / 16))]) dL_law_203 rfl (Nat.le_of_ble_eq_true rfl) (lsf_s (lsf_r (lsf_i (lsf_i (lsf_i (lsf_i (lsf_i lsf_n))))))) rfl ?_
              refine J.goto (pc := 204) C (tgt := 378) dL_law_204 rfl ?_
              exact J.pick [0, 1, 2, 3, 4] rfl (w_L_law_J378 hX C _ _ _ _ _ _ _ hkx43 hk43)
            · refine J.ite (fun h4 => ?_) (fun h4 => ?_)
              · refine J.tswIn (pc := 77) C (tgt := 207) 4 dL_law_77 h4 (by decide) (by decide) rfl rfl ?_
                refine J.iconst (pc := 207) C dL_law_207 ki_3 ?_
                refine J.iload (pc := 208) C dL_law_208 rfl ?_
                refine J.iconst (pc := 210) C dL_law_210 ki_5 ?_
                refine J.irem (pc := 211) C dL_law_211 ?_
                refine J.iadd (pc := 212) C dL_law_212 ?_
                refine J.istore (pc := 213) C (lv' := [(0, sv g), (1, rv g a1), (2, .int x2), (3, .int x3), (4, .int x4), (5, .int r5), (6, .int (r5 / 16)), (7, .int (3 + ((r5 / 16) - (r5 / 16) / 5 * 5)))]) dL_law_213 (Nat.le_of_ble_eq_true rfl) (lsf_s (lsf_r (lsf_i (lsf_i (lsf_i (lsf_i (lsf_i lsf_n))))))) rfl ?_
                refine J.iconst (pc := 215) C dL_law_215 ki_1 ?_
                refine J.iload (pc := 216) C dL_law_216 rfl ?_
                refine J.bipush (pc := 218) C dL_law_218 kb_8 ?_
                refine J.idiv (pc := 220) C dL_law_220 ?_
                refine J.bipush (pc := 221) C dL_law_221 kb_20 ?_
                refine J.irem (pc := 223) C dL_law_223 ?_
                refine J.iadd (pc := 224) C dL_law_224 ?_
                refine J.topi (fun v19 => ?_)
                refine J.istore (pc := 225) C (lv' := [(0, sv g), (1, rv g a1), (2, .int x2), (3, .int x3), (4, .int x4), (5, .int r5), (6, .int (r5 / 16)), (7, .int (3 + ((r5 / 16) - (r5 / 16) / 5 * 5))), (8, .int v19)]) dL_law_225 (Nat.le_of_ble_eq_true rfl) (lsf_s (lsf_r (lsf_i (lsf_i (lsf_i (lsf_i (lsf_i (lsf_i lsf_n)))))))) rfl ?_
                refine J.aload_n (pc := 227) C (x := a1) dL_law_227 rfl rfl ?_
                refine J.bipush (pc := 228) C dL_law_228 kb_10 ?_
                refine J.iload (pc := 230) C dL_law_230 rfl ?_
                refine J.iadd (pc := 232) C dL_law_232 ?_
                refine J.vI (pc := 233) C mv_X7_count wm_RL_29 (fun l => c_X7_count l g S a1 (10 + (3 + ((r5 / 16) - (r5 / 16) / 5 * 5)))) ⟨⟨Nat.le_of_ble_eq_true rfl, Nat.le_of_ble_eq_true rfl⟩, rfl, rfl⟩ rfl ⟨Nat.le_of_ble_eq_true rfl, Nat.le_of_ble_eq_true rfl⟩ rfl ct_n (Nat.le_of_ble_eq_true rfl) dL_law_233 (fun r20 => ?_)
                refine J.istore (pc := 236) C (lv' := [(0, sv g), (1, rv g a1), (2, .int x2), (3, .int x3), (4, .int x4), (5, .int r5), (6, .int (r5 / 16)), (7, .int (3 + ((r5 / 16) - (r5 / 16) / 5 * 5))), (8, .int v19), (9, .int r20)]) dL_law_236 (Nat.le_of_ble_eq_true rfl) (lsf_s (lsf_r (lsf_i (lsf_i (lsf_i (lsf_i (lsf_i (lsf_i (lsf_i lsf_n))))))))) rfl ?_
                refine J.aload_n (pc := 238) C (x := a1) dL_law_238 rfl rfl ?_
                refine J.iload (pc := 239) C dL_law_239 rfl ?_
                refine J.iload (pc := 241) C dL_law_241 rfl ?_
                refine J.vW (pc := 243) C mv_X7_set wm_RL_20 (fun l => c_X7_set l g S a1 (3 + ((r5 / 16) - (r5 / 16) / 5 * 5)) v19) ⟨⟨Nat.le_of_ble_eq_true rfl, Nat.le_of_ble_eq_true rfl⟩, rfl, rfl⟩ rfl ⟨Nat.le_of_ble_eq_true rfl, Nat.le_of_ble_eq_true rfl⟩ rfl ct_n (Nat.le_of_ble_eq_true rfl) dL_law_243 (fun r21 S_22 => ?_)
                refine J.iload (pc := 246) C dL_law_246 rfl ?_
                refine J.icmp_ne (pc := 248) C (tgt := 269) dL_law_248 rfl ?_ ?_
                · exact J.pick [0, 1, 3, 4] rfl (w_L_law_J269 hX C _ _ _ _ _ _ hkx43 hk43)
                · refine J.aload_n (pc := 251) C (x := a1) dL_law_251 rfl rfl ?_
                  refine J.bipush (pc := 252) C dL_law_252 kb_10 ?_
                  refine J.iload (pc := 254) C dL_law_254 rfl ?_
                  refine J.iadd (pc := 256) C dL_law_256 ?_
                  refine J.vI (pc := 257) C mv_X7_count wm_RL_29 (fun l => c_X7_count l g S_22 a1 (10 + (3 + ((r5 / 16) - (r5 / 16) / 5 * 5)))) ⟨⟨Nat.le_of_ble_eq_true rfl, Nat.le_of_ble_eq_true rfl⟩, rfl, rfl⟩ rfl ⟨Nat.le_of_ble_eq_true rfl, Nat.le_of_ble_eq_true rfl⟩ rfl ct_n (Nat.le_of_ble_eq_true rfl) dL_law_257 (fun r23 => ?_)
                  refine J.iload (pc := 260) C dL_law_260 rfl ?_
                  refine J.icmp_ne (pc := 262) C (tgt := 269) dL_law_262 rfl ?_ ?_
                  · exact J.pick [0, 1, 3, 4] rfl (w_L_law_J269 hX C _ _ _ _ _ _ hkx43 hk43)
                  · refine J.iconst (pc := 265) C dL_law_265 ki_1 ?_
                    refine J.goto (pc := 266) C (tgt := 270) dL_law_266 rfl ?_
                    exact J.pick [0, 1, 3, 4] rfl (w_L_law_J270 hX C _ _ _ _ _ _ _ hkx43 hk43)
              · refine J.ite (fun h5 => ?_) (fun h5 => ?_)
                · refine J.tswIn (pc := 77) C (tgt := 274) 5 dL_law_77 h5 (by decide) (by decide) rfl rfl ?_
                  refine J.iload_n (pc := 274) C dL_law_274 rfl rfl ?_
                  refine J.iconst (pc := 275) C dL_law_275 ki_1 ?_
                  refine J.icmp_gt (pc := 276) C (tgt := 290) dL_law_276 rfl ?_ ?_
                  · exact J.pick [0, 1, 3, 4] rfl (w_L_law_J290 hX C _ _ _ _ _ _ hkx43 hk43)
                  · refine J.aload_n (pc := 279) C (x := a1) dL_law_279 rfl rfl ?_
                    refine J.iload (pc := 280) C dL_law_280 rfl ?_
                    refine J.iconst (pc := 282) C dL_law_282 ki_3 ?_
                    refine J.irem (pc := 283) C dL_law_283 ?_
                    refine J.sW (pc := 284) C ms_L_fits wm_RL_115 (fun l => c_L_fits l g S a1 ((r5 / 16) - (r5 / 16) / 3 * 3)) ⟨⟨Nat.le_of_ble_eq_true rfl, Nat.le_of_ble_eq_true rfl⟩, rfl, rfl⟩ rfl ⟨Nat.le_of_ble_eq_true rfl, Nat.le_of_ble_eq_true rfl⟩ rfl ct_n (Nat.le_of_ble_eq_true rfl) dL_law_284 (fun r24 S_25 => ?_)
                    refine J.if_eq (pc := 287) C (tgt := 294) dL_law_287 rfl ?_ ?_
                    · refine J.iconst (pc := 294) C dL_law_294 ki_0 ?_
                      exact J.pick [0, 1, 3, 4] rfl (w_L_law_J295 hX C _ _ _ _ _ _ _ hkx43 hk43)
                    · exact J.pick [0, 1, 3, 4] rfl (w_L_law_J290 hX C _ _ _ _ _ _ hkx43 hk43)
                · refine J.ite (fun h6 => ?_) (fun h6 => ?_)
                  · refine J.tswIn (pc := 77) C (tgt := 302) 6 dL_law_77 h6 (by decide) (by decide) rfl rfl ?_
                    refine J.aload_n (pc := 302) C (x := a1) dL_law_302 rfl rfl ?_
                    refine J.iconst (pc := 303) C dL_law_303 ki_1 ?_
                    refine J.vI (pc := 304) C mv_X7_count wm_RL_29 (fun l => c_X7_count l g S a1 1) ⟨⟨Nat.le_of_ble_eq_true rfl, Nat.le_of_ble_eq_true rfl⟩, rfl, rfl⟩ rfl ⟨Nat.le_of_ble_eq_true rfl, Nat.le_of_ble_eq_true rfl⟩ rfl ct_n (Nat.le_of_ble_eq_true rfl) dL_law_304 (fun r26 => ?_)
                    refine J.if_eq (pc := 307) C (tgt := 324) dL_law_307 rfl ?_ ?_
                    · exact J.pick [0, 1, 3, 4] rfl (w_L_law_J324 hX C _ _ _ _ _ _ hkx43 hk43)
                    · refine J.aload_n (pc := 310) C (x := a1) dL_law_310 rfl rfl ?_
                      refine J.iload (pc := 311) C dL_law_311 rfl ?_
                      refine J.iconst (pc := 313) C dL_law_313 ki_3 ?_
                      refine J.irem (pc := 314) C dL_law_314 ?_
                      refine J.iconst (pc := 315) C dL_law_315 ki_4 ?_
                      refine J.vW (pc := 316) C mv_X7_set wm_RL_20 (fun l => c_X7_set l g S a1 ((r5 / 16) - (r5 / 16) / 3 * 3) 4) ⟨⟨Nat.le_of_ble_eq_true rfl, Nat.le_of_ble_eq_true rfl⟩, rfl, rfl⟩ rfl ⟨Nat.le_of_ble_eq_true rfl, Nat.le_of_ble_eq_true rfl⟩ rfl ct_n (Nat.le_of_ble_eq_true rfl) dL_law_316 (fun r27 S_28 => ?_)
                      refine J.ldc (pc := 319) C wc_RL_93 dL_law_319 ?_
                      refine J.icmp_ne (pc := 321) C (tgt := 328) dL_law_321 rfl ?_ ?_
                      · refine J.iconst (pc := 328) C dL_law_328 ki_0 ?_
                        exact J.pick [0, 1, 3, 4] rfl (w_L_law_J329 hX C _ _ _ _ _ _ _ hkx43 hk43)
                      · exact J.pick [0, 1, 3, 4] rfl (w_L_law_J324 hX C _ _ _ _ _ _ hkx43 hk43)
                  · refine J.ite (fun h7 => ?_) (fun h7 => ?_)
                    · refine J.tswIn (pc := 77) C (tgt := 333) 7 dL_law_77 h7 (by decide) (by decide) rfl rfl ?_
                      exact J.pick [0, 1, 3, 4, 6] rfl (w_L_law_J333 hX C _ _ _ _ _ _ _ hkx43 hk43)
                    · refine J.ite (fun h8 => ?_) (fun h8 => ?_)
                      · refine J.tswIn (pc := 77) C (tgt := 333) 8 dL_law_77 h8 (by decide) (by decide) rfl rfl ?_
                        exact J.pick [0, 1, 3, 4, 6] rfl (w_L_law_J333 hX C _ _ _ _ _ _ _ hkx43 hk43)
                      · refine J.ite (fun h9 => ?_) (fun h9 => ?_)
                        · refine J.tswIn (pc := 77) C (tgt := 333) 9 dL_law_77 h9 (by decide) (by decide) rfl rfl ?_
                          exact J.pick [0, 1, 3, 4, 6] rfl (w_L_law_J333 hX C _ _ _ _ _ _ _ hkx43 hk43)
                        · refine J.tswOut (pc := 77) C (tgt := 373) dL_law_77 (by have e0 := lv_neT h0 (a := 0) rfl; have e1 := lv_neT h1 (a := 1) rfl; have e2 := lv_neT h2 (a := 2) rfl; have e3 := lv_neT h3 (a := 3) rfl; have e4 := lv_neT h4 (a := 4) rfl; have e5 := lv_neT h5 (a := 5) rfl; have e6 := lv_neT h6 (a := 6) rfl; have e7 := lv_neT h7 (a := 7) rfl; have e8 := lv_neT h8 (a := 8) rfl; have e9 := lv_neT h9 (a := 9) rfl; omega) rfl ?_
                          refine J.aload_n (pc := 373) C (x := a1) dL_law_373 rfl rfl ?_
                          refine J.sW (pc := 374) C ms_L_shoots wm_RL_121 (fun l => c_L_shoots l g S a1) ⟨⟨Nat.le_of_ble_eq_true rfl, Nat.le_of_ble_eq_true rfl⟩, rfl, rfl⟩ rfl ⟨Nat.le_of_ble_eq_true rfl, Nat.le_of_ble_eq_true rfl⟩ rfl ct_n (Nat.le_of_ble_eq_true rfl) dL_law_374 (fun r32 S_33 => ?_)
                          refine J.istore_n (pc := 377) C (lv' := [(0, sv g), (1, rv g a1), (2, .int r32), (3, .int x3), (4, .int x4), (5, .int r5), (6, .int (r5 / 16))]) dL_law_377 rfl (Nat.le_of_ble_eq_true rfl) (lsf_s (lsf_r (lsf_i (lsf_i (lsf_i (lsf_i (lsf_i lsf_n))))))) rfl ?_
                          exact J.pick [0, 1, 2, 3, 4] rfl (w_L_law_J378 hX C _ _ _ _ _ _ _ hkx43 hk43)
def f_L_law_J414 (g : GG) (S : St) (x1 : Nat) (x2 : Int32) : Option Int32 :=
  (chk (okc S 7 x1) (bnd (f_X7_count S x1 6) fun r36 =>
  (if x2 = 0 then
  (some 0)
  else (chk (okc S 7 x1) (bnd2 (f_X7_undo S x1) fun r37 S_38 =>
  (if r37 = (r36 - 1) then
  (chk (okc S_38 7 x1) (bnd2 (f_X7_set S_38 x1 8 0) fun r39 S_40 =>
  (if r39 = (-10000001) then
  (chk (okc S_40 7 x1) (bnd2 (f_X7_turn S_40 x1 3 0) fun r41 S_42 =>
  (if r41 = (-10000001) then
  (chk (okc S_42 7 x1) (bnd2 (f_X7_blind S_42 x1 10 1) fun r43 S_44 =>
  (if r43 = (-10000001) then
  (chk (okc S_44 7 x1) (bnd (f_X7_frameOf S_44 x1 5 0) fun r45 =>
  (if r45 = (-10000001) then
  (chk (okc S_44 7 x1) (bnd2 (f_X7_shows S_44 x1 0 0 20001) fun r46 S_47 =>
  (if r46 = (-10000001) then
  (chk (okc S_47 7 x1) (bnd (f_X7_count S_47 x1 6) fun r48 =>
  (if r48 = (r36 - 1) then
  (some 1)
  else (some 0))))
  else (some 0))))
  else (some 0))))
  else (some 0))))
  else (some 0))))
  else (some 0))))
  else (some 0)))))))
set_option maxRecDepth 100000 in
set_option maxHeartbeats 4000000 in
theorem w_L_law_J414 {X : CT} {g : GG} (hX : SX X g) (C : CX X g code RL ret 11 room_1) (S : St) (x1 : Nat) (x2 : Int32) : J X g (Ql X) (cw (120, 4965)) 414 [(1, rv g x1), (2, .int x2)] [] S (f_L_law_J414 g S x1 x2) := by
  unfold f_L_law_J414
  refine J.aload_n (pc := 414) C (x := x1) dL_law_414 rfl rfl ?_
  refine J.bipush (pc := 415) C dL_law_415 kb_6 ?_
  refine J.vI (pc := 417) C mv_X7_count wm_RL_29 (fun l => c_X7_count l g S x1 6) ⟨⟨Nat.le_of_ble_eq_true rfl, Nat.le_of_ble_eq_true rfl⟩, rfl, rfl⟩ rfl ⟨Nat.le_of_ble_eq_true rfl, Nat.le_of_ble_eq_true rfl⟩ rfl ct_n (Nat.le_of_ble_eq_true rfl) dL_law_417 (fun r36 => ?_)
  refine J.istore (pc := 420) C (lv' := [(1, rv g x1), (2, .int x2), (4, .int r36)]) dL_law_420 (Nat.le_of_ble_eq_true rfl) (lsf_r (lsf_i lsf_n)) rfl ?_
  refine J.iload_n (pc := 422) C dL_law_422 rfl rfl ?_
  refine J.if_eq (pc := 423) C (tgt := 514) dL_law_423 rfl ?_ ?_
  · refine J.iconst (pc := 514) C dL_law_514 ki_0 ?_
    exact J.lret0
  · refine J.aload_n (pc := 426) C (x := x1) dL_law_426 rfl rfl ?_
    refine J.vW (pc := 427) C mv_X7_undo wm_RL_81 (fun l => c_X7_undo l g S x1) ⟨⟨Nat.le_of_ble_eq_true rfl, Nat.le_of_ble_eq_true rfl⟩, rfl, rfl⟩ rfl ⟨Nat.le_of_ble_eq_true rfl, Nat.le_of_ble_eq_true rfl⟩ rfl ct_n (Nat.le_of_ble_eq_true rfl) dL_law_427 (fun r37 S_38 => ?_)
    refine J.iload (pc := 430) C dL_law_430 rfl ?_
    refine J.iconst (pc := 432) C dL_law_432 ki_1 ?_
    refine J.isub (pc := 433) C dL_law_433 ?_
    refine J.icmp_ne (pc := 434) C (tgt := 514) dL_law_434 rfl ?_ ?_
    · refine J.iconst (pc := 514) C dL_law_514 ki_0 ?_
      exact J.lret0
    · refine J.aload_n (pc := 437) C (x := x1) dL_law_437 rfl rfl ?_
      refine J.bipush (pc := 438) C dL_law_438 kb_8 ?_
      refine J.iconst (pc := 440) C dL_law_440 ki_0 ?_
      refine J.vW (pc := 441) C mv_X7_set wm_RL_20 (fun l => c_X7_set l g S_38 x1 8 0) ⟨⟨Nat.le_of_ble_eq_true rfl, Nat.le_of_ble_eq_true rfl⟩, rfl, rfl⟩ rfl ⟨Nat.le_of_ble_eq_true rfl, Nat.le_of_ble_eq_true rfl⟩ rfl ct_n (Nat.le_of_ble_eq_true rfl) dL_law_441 (fun r39 S_40 => ?_)
      refine J.ldc (pc := 444) C wc_RL_76 dL_law_444 ?_
      refine J.icmp_ne (pc := 446) C (tgt := 514) dL_law_446 rfl ?_ ?_
      · refine J.iconst (pc := 514) C dL_law_514 ki_0 ?_
        exact J.lret0
      · refine J.aload_n (pc := 449) C (x := x1) dL_law_449 rfl rfl ?_
        refine J.iconst (pc := 450) C dL_law_450 ki_3 ?_
        refine J.iconst (pc := 451) C dL_law_451 ki_0 ?_
        refine J.vW (pc := 452) C mv_X7_turn wm_RL_87 (fun l => c_X7_turn l g S_40 x1 3 0) ⟨⟨Nat.le_of_ble_eq_true rfl, Nat.le_of_ble_eq_true rfl⟩, rfl, rfl⟩ rfl ⟨Nat.le_of_ble_eq_true rfl, Nat.le_of_ble_eq_true rfl⟩ rfl ct_n (Nat.le_of_ble_eq_true rfl) dL_law_452 (fun r41 S_42 => ?_)
        refine J.ldc (pc := 455) C wc_RL_76 dL_law_455 ?_
        refine J.icmp_ne (pc := 457) C (tgt := 514) dL_law_457 rfl ?_ ?_
        · refine J.iconst (pc := 514) C dL_law_514 ki_0 ?_
          exact J.lret0
        · refine J.aload_n (pc := 460) C (x := x1) dL_law_460 rfl rfl ?_
          refine J.bipush (pc := 461) C dL_law_461 kb_10 ?_
          refine J.iconst (pc := 463) C dL_law_463 ki_1 ?_
          refine J.vW (pc := 464) C mv_X7_blind wm_RL_90 (fun l => c_X7_blind l g S_42 x1 10 1) ⟨⟨Nat.le_of_ble_eq_true rfl, Nat.le_of_ble_eq_true rfl⟩, rfl, rfl⟩ rfl ⟨Nat.le_of_ble_eq_true rfl, Nat.le_of_ble_eq_true rfl⟩ rfl ct_n (Nat.le_of_ble_eq_true rfl) dL_law_464 (fun r43 S_44 => ?_)
          refine J.ldc (pc := 467) C wc_RL_76 dL_law_467 ?_
          refine J.icmp_ne (pc := 469) C (tgt := 514) dL_law_469 rfl ?_ ?_
          · refine J.iconst (pc := 514) C dL_law_514 ki_0 ?_
            exact J.lret0
          · refine J.aload_n (pc := 472) C (x := x1) dL_law_472 rfl rfl ?_
            refine J.iconst (pc := 473) C dL_law_473 ki_5 ?_
            refine J.iconst (pc := 474) C dL_law_474 ki_0 ?_
            refine J.vI (pc := 475) C mv_X7_frameOf wm_RL_33 (fun l => c_X7_frameOf l g S_44 x1 5 0) ⟨⟨Nat.le_of_ble_eq_true rfl, Nat.le_of_ble_eq_true rfl⟩, rfl, rfl⟩ rfl ⟨Nat.le_of_ble_eq_true rfl, Nat.le_of_ble_eq_true rfl⟩ rfl ct_n (Nat.le_of_ble_eq_true rfl) dL_law_475 (fun r45 => ?_)
            refine J.ldc (pc := 478) C wc_RL_76 dL_law_478 ?_
            refine J.icmp_ne (pc := 480) C (tgt := 514) dL_law_480 rfl ?_ ?_
            · refine J.iconst (pc := 514) C dL_law_514 ki_0 ?_
              exact J.lret0
            · refine J.aload_n (pc := 483) C (x := x1) dL_law_483 rfl rfl ?_
              refine J.iconst (pc := 484) C dL_law_484 ki_0 ?_
              refine J.iconst (pc := 485) C dL_law_485 ki_0 ?_
              refine J.sipush (pc := 486) C dL_law_486 ks_20001 ?_
              refine J.vW (pc := 489) C mv_X7_shows wm_RL_62 (fun l => c_X7_shows l g S_44 x1 0 0 20001) ⟨⟨Nat.le_of_ble_eq_true rfl, Nat.le_of_ble_eq_true rfl⟩, rfl, rfl⟩ rfl ⟨Nat.le_of_ble_eq_true rfl, Nat.le_of_ble_eq_true rfl⟩ rfl ct_n (Nat.le_of_ble_eq_true rfl) dL_law_489 (fun r46 S_47 => ?_)
              refine J.ldc (pc := 492) C wc_RL_76 dL_law_492 ?_
              refine J.icmp_ne (pc := 494) C (tgt := 514) dL_law_494 rfl ?_ ?_
              · refine J.iconst (pc := 514) C dL_law_514 ki_0 ?_
                exact J.lret0
              · refine J.aload_n (pc := 497) C (x := x1) dL_law_497 rfl rfl ?_
                refine J.bipush (pc := 498) C dL_law_498 kb_6 ?_
                refine J.vI (pc := 500) C mv_X7_count wm_RL_29 (fun l => c_X7_count l g S_47 x1 6) ⟨⟨Nat.le_of_ble_eq_true rfl, Nat.le_of_ble_eq_true rfl⟩, rfl, rfl⟩ rfl ⟨Nat.le_of_ble_eq_true rfl, Nat.le_of_ble_eq_true rfl⟩ rfl ct_n (Nat.le_of_ble_eq_true rfl) dL_law_500 (fun r48 => ?_)
                refine J.iload (pc := 503) C dL_law_503 rfl ?_
                refine J.iconst (pc := 505) C dL_law_505 ki_1 ?_
                refine J.isub (pc := 506) C dL_law_506 ?_
                refine J.icmp_ne (pc := 507) C (tgt := 514) dL_law_507 rfl ?_ ?_
                · refine J.iconst (pc := 514) C dL_law_514 ki_0 ?_
                  exact J.lret0
                · refine J.iconst (pc := 510) C dL_law_510 ki_1 ?_
                  refine J.goto (pc := 511) C (tgt := 515) dL_law_511 rfl ?_
                  exact J.lret1 (pc := 515) C hX ⟨Nat.le_of_ble_eq_true rfl, Nat.le_of_ble_eq_true rfl⟩ dL_law_515
def f_L_law_J37 (g : GG) (S : St) (x1 : Nat) (t0 : Int32) : Option Int32 :=
  (wl4 (f_L_law_B43 g x1 (fun (S_35 : St) (y2_34 : Int32) => (f_L_law_J414 g S_35 x1 y2_34))) FU S t0 0 0)
set_option maxRecDepth 100000 in
set_option maxHeartbeats 4000000 in
theorem w_L_law_J37 {X : CT} {g : GG} (hX : SX X g) (C : CX X g code RL ret 11 room_1) (S : St) (x1 : Nat) (t0 : Int32) : J X g (Ql X) (cw (120, 4965)) 37 [(0, sv g), (1, rv g x1)] [.int t0] S (f_L_law_J37 g S x1 t0) := by
  unfold f_L_law_J37
  refine J.istore_n (pc := 37) C (lv' := [(0, sv g), (1, rv g x1), (2, .int t0)]) dL_law_37 rfl (Nat.le_of_ble_eq_true rfl) (lsf_s (lsf_r lsf_n)) rfl ?_
  refine J.iconst (pc := 38) C dL_law_38 ki_0 ?_
  refine J.istore_n (pc := 39) C (lv' := [(0, sv g), (1, rv g x1), (2, .int t0), (3, .int 0)]) dL_law_39 rfl (Nat.le_of_ble_eq_true rfl) (lsf_s (lsf_r (lsf_i lsf_n))) rfl ?_
  refine J.iconst (pc := 40) C dL_law_40 ki_0 ?_
  refine J.istore (pc := 41) C (lv' := [(0, sv g), (1, rv g x1), (2, .int t0), (3, .int 0), (4, .int 0)]) dL_law_41 (Nat.le_of_ble_eq_true rfl) (lsf_s (lsf_r (lsf_i (lsf_i lsf_n)))) rfl ?_
  refine w_L_law_B43 hX C _ _ (fun S_35 y2_34 => ?_) FU _ _ _ _
  exact (w_L_law_J414 hX C _ _ _)
def f_L_law_J36 (g : GG) (S : St) (x1 : Nat) : Option Int32 :=
  (f_L_law_J37 g S x1 0)
set_option maxRecDepth 100000 in
set_option maxHeartbeats 4000000 in
theorem w_L_law_J36 {X : CT} {g : GG} (hX : SX X g) (C : CX X g code RL ret 11 room_1) (S : St) (x1 : Nat) : J X g (Ql X) (cw (120, 4965)) 36 [(0, sv g), (1, rv g x1)] [] S (f_L_law_J36 g S x1) := by
  unfold f_L_law_J36
  refine J.iconst (pc := 36) C dL_law_36 ki_0 ?_
  exact (w_L_law_J37 hX C _ _ _)
def f_L_law (g : GG) (S : St) : Option Int32 :=
  (chk (kd S.2.2 = 7 ∧ nok 4 600000 7302249 S.2.2 8) (vlt (newS S) fun S_1 =>
  (chk (okc S_1 7 S.2.2) (chk (rok2 4 600000 7302249 119 4957 S_1.2.2) (bnd (f_X7_init S_1 S.2.2) fun S_2 =>
  (chk (S_2.2.2 = S_1.2.2 + 119 ∧ slT S_2.2.2 = slT S_1.2.2 + 4957)
  (chk (S_2.2.2 = 124) (bnd (f_L_camera g S_2 S.2.2) fun S_3 =>
  (chk (okc S_3 7 S.2.2) (bnd (f_X7_count S_3 S.2.2 0) fun r4 =>
  (if r4 = 3 then
  (chk (okc S_3 7 S.2.2) (bnd (f_X7_count S_3 S.2.2 6) fun r49 =>
  (if r49 = 4 then
  (f_L_law_J37 g S_3 S.2.2 1)
  else (f_L_law_J36 g S_3 S.2.2))))
  else (f_L_law_J36 g S_3 S.2.2))))))))))))
set_option maxRecDepth 100000 in
set_option maxHeartbeats 4000000 in
theorem c_L_law {X : CT} {g : GG} (hX : SX X g) (C : CX X g code RL ret 11 room_1) (S : St) : J X g (Ql X) (cfC 4) 0 [(0, sv g)] [] S (f_L_law g S) := by
  unfold f_L_law
  refine J.new (ci := 7) (N := 8) C rfl rfl wl_RL_9 wi_X7 wz_RX7 dL_law_0 (fun S_1 _ => ?_)
  refine J.dup (pc := 3) C dL_law_3 (rv_cat g _) ?_
  refine J.ctor (pc := 4) C mi_X7_init wm_RL_100 (fun l => c_X7_init l g S_1 S.2.2) ⟨Nat.le_of_ble_eq_true rfl, Nat.le_of_ble_eq_true rfl⟩ rfl rfl (ct_r ct_n) (Nat.le_of_ble_eq_true rfl) dL_law_4 (fun S_2 => ?_)
  refine J.toCw (w := (120, 4965)) 124 (by decide +kernel) ?_
  refine J.astore_n (pc := 7) C (lv' := [(0, sv g), (1, rv g S.2.2)]) dL_law_7 rfl (Nat.le_of_ble_eq_true rfl) (lsf_s lsf_n) rfl ?_
  refine J.aload_n (pc := 8) C (x := S.2.2) dL_law_8 rfl rfl ?_
  refine J.sload_n (pc := 9) C dL_law_9 rfl rfl ?_
  refine J.sU (pc := 10) C ms_L_camera wm_RL_101 (fun l => c_L_camera l g S_2 S.2.2) ⟨⟨Nat.le_of_ble_eq_true rfl, Nat.le_of_ble_eq_true rfl⟩, rfl, rfl⟩ rfl ⟨Nat.le_of_ble_eq_true rfl, Nat.le_of_ble_eq_true rfl⟩ rfl ct_n (Nat.le_of_ble_eq_true rfl) dL_law_10 (fun S_3 => ?_)
  refine J.aload_n (pc := 13) C (x := S.2.2) dL_law_13 rfl rfl ?_
  refine J.iconst (pc := 14) C dL_law_14 ki_0 ?_
  refine J.vI (pc := 15) C mv_X7_count wm_RL_29 (fun l => c_X7_count l g S_3 S.2.2 0) ⟨⟨Nat.le_of_ble_eq_true rfl, Nat.le_of_ble_eq_true rfl⟩, rfl, rfl⟩ rfl ⟨Nat.le_of_ble_eq_true rfl, Nat.le_of_ble_eq_true rfl⟩ rfl ct_n (Nat.le_of_ble_eq_true rfl) dL_law_15 (fun r4 => ?_)
  refine J.iconst (pc := 18) C dL_law_18 ki_3 ?_
  refine J.icmp_ne (pc := 19) C (tgt := 36) dL_law_19 rfl ?_ ?_
  · exact (w_L_law_J36 hX C _ _)
  · refine J.aload_n (pc := 22) C (x := S.2.2) dL_law_22 rfl rfl ?_
    refine J.bipush (pc := 23) C dL_law_23 kb_6 ?_
    refine J.vI (pc := 25) C mv_X7_count wm_RL_29 (fun l => c_X7_count l g S_3 S.2.2 6) ⟨⟨Nat.le_of_ble_eq_true rfl, Nat.le_of_ble_eq_true rfl⟩, rfl, rfl⟩ rfl ⟨Nat.le_of_ble_eq_true rfl, Nat.le_of_ble_eq_true rfl⟩ rfl ct_n (Nat.le_of_ble_eq_true rfl) dL_law_25 (fun r49 => ?_)
    refine J.iconst (pc := 28) C dL_law_28 ki_4 ?_
    refine J.icmp_ne (pc := 29) C (tgt := 36) dL_law_29 rfl ?_ ?_
    · exact (w_L_law_J36 hX C _ _)
    · refine J.iconst (pc := 32) C dL_law_32 ki_1 ?_
      refine J.goto (pc := 33) C (tgt := 37) dL_law_33 rfl ?_
      exact (w_L_law_J37 hX C _ _ _)
