section JR4
variable {β : Type} {X : CT} {g : GG} {Q : β → State → Prop} {cf : Nat → Nat × Nat} {pc : Nat} {lv : List (Nat × Value)} {st : List Value} {S : St} {o o1 o2 : Option β} {cc : ByteArray} {own : String} {ret : Option FieldType} {nL : Nat} {R0 : Room}
theorem vw_def {ci : Nat} {r : vw_C} (h : vwCl[ci]? = some r) : ∀ k, k < r.2.2 → defaultValue (tyF ci k) = if rf ci k = true then .null else .int 0 := by
  have hc := vw_get8 h
  have hk : ci = 0 ∨ ci = 1 ∨ ci = 2 ∨ ci = 3 ∨ ci = 4 ∨ ci = 5 ∨ ci = 6 ∨ ci = 7 := by omega
  rcases hk with rfl | rfl | rfl | rfl | rfl | rfl | rfl | rfl <;> cases h <;> decide +kernel
theorem HP.grow {U : State} {H H1 : Heap} {S' : St} (h : HP g U S H) (hn : S'.2.2 = S.2.2 + 1) (hz : H1.size = H.size + 1) (hq : ∀ q : Nat, q < H.size → H1[q]? = H[q]?) (hf : ∀ b, b ≠ S.2.2 → fv g S' b = fv g S b) (hs : CK g U S' H1 S.2.2) : HP g U S' H1 := by
  obtain ⟨h1, h2, h3, h4⟩ := h
  refine ⟨by omega, by omega, h3, fun k k1 k2 => ?_⟩
  by_cases hk : k = S.2.2
  · rw [hk]; exact hs
  · have hlt : k < S.2.2 := by omega
    have hc := h4 k k1 hlt
    have had : ad g k < H.size := by
      rcases Nat.lt_or_ge k 4 with q | q
      · rw [ad_lo q]; have := h3 k q; omega
      · rw [ad_hi q]; omega
    refine ⟨fun q => ?_, fun q => ?_⟩
    · obtain ⟨r, e1, e2⟩ := hc.1 q
      refine ⟨r, e1, ?_⟩
      rw [hf k hk]
      exact e2.kept (hq _ had)
    · obtain ⟨cell, e1, e2⟩ := hc.2 q
      unfold AK
      rw [hf k hk]
      exact ⟨cell, by rw [hq _ had]; exact e1, e2⟩
theorem fv_newS {b : Nat} (h : b ≠ S.2.2) : fv g (newS S) b = fv g S b := by
  funext i
  simp [fv, newS, h]
theorem fv_newS_self (j : Nat) : fv g (newS S) S.2.2 j = if rf (kd S.2.2) j = true then .null else .int 0 := by
  simp [fv, newS, rv]
theorem HP.nxt {U : State} {H : Heap} (h : HP g U S H) : ad g S.2.2 = H.size := by
  rw [ad_hi h.1, h.2.1]
def slT (n : Nat) : Nat := (lnL.take n).sum
/-- a constructor's room: what has been made since the start of it -/
def cfC (n0 : Nat) : Nat → Nat × Nat := fun n => (n - n0, slT n - slT n0)
abbrev nok (n0 dn ds n sz : Nat) : Prop := n0 ≤ n ∧ n + 1 ≤ n0 + dn ∧ slT n0 ≤ slT n ∧ slT n + sz = slT (n + 1) ∧ slT (n + 1) ≤ slT n0 + ds
theorem J.new {idx ci n0 N : Nat} {r : vw_C} {k : St → Option β} (C : CX X g cc own ret nL R0) (hr : vwCl[ci]? = some r) (hN : r.2.2 = N) (hcl : Cond.classLink own idx r.1 ∈ lw_tbl) (hinst : Cond.instantiable r.1 N ∈ lw_tbl) (hini : Cond.initialized r.1 ∈ lw_tbl) (hdg : decode cc pc = .ok (.new idx, 3)) (kk : ∀ S1 : St, S1.2.2 = S.2.2 + 1 → J X g Q (cfC n0) (pc + 3) lv (rv g S.2.2 :: st) S1 (k S1)) : J X g Q (cfC n0) pc lv st S (chk (kd S.2.2 = ci ∧ nok n0 R0.cells R0.slots S.2.2 N) (vlt (newS S) k)) := by
  refine J.ck (fun hok => ?_)
  have kk := kk (newS S) rfl
  obtain ⟨p, l, e, R, s, m, args, below, meth, c⟩ := X
  obtain ⟨hx, hb, hml, hown, hr', hlk, hK, hRe, hg⟩ := C
  subst hRe
  obtain ⟨hk, o1, o2, o3, o4, o5⟩ := hok
  intro b hb0 H locs ls hP hS hl
  have hci := vw_get hr
  have hKn := hK.1.1 ci r hr
  have k1 := fun H1 locs => kk b hb0 H1 locs ls
  rw [rv_ref (show S.2.2 ≠ 0 by have := hP.1; omega), hP.nxt] at k1
  refine W.newcK hx hb hown (hK.2.1 _ hcl rfl args) (hK.2.1 _ hinst rfl args) (hK.2.1 _ hini rfl args) rfl hdg (by show S.2.2 - n0 + 1 ≤ R.cells; omega) (by show slT S.2.2 - slT n0 + N ≤ R.slots; omega) hKn.2.1 rfl fun H1 kC hkC e1 z1 o1' => ?_
  refine W.widen (k := ((cfC n0) (newS S).2.2).1) (n := ((cfC n0) (newS S).2.2).2) (by show S.2.2 - n0 + 1 ≤ S.2.2 + 1 - n0; omega) (by show slT S.2.2 - slT n0 + N ≤ slT (S.2.2 + 1) - slT n0; omega) ?_
  refine k1 H1 locs (hP.grow rfl z1 o1' (fun _ h => fv_newS h) ⟨fun _ => ⟨r, by rw [hk]; exact hr, ?_⟩, fun q => by omega⟩) ⟨by rw [z1]; exact Nat.le_trans hS.1 (Nat.le_succ _), fun q q1 q2 => (o1' q (Nat.lt_of_lt_of_le q1 hS.1)).trans (hS.2.1 q q1 q2), hS.2.2⟩ hl
  rw [hk, hP.nxt]
  refine (u_born (tyF ci) (hK.lay hr) (fun _ h => h) hKn hkC e1 (vw_ty hr)).to (fun j hj => ?_)
  rw [fv_newS_self, hk]
  exact vw_def hr j hj
theorem J.newa {n0 N c : Nat} {n : Int32} {atype : ArrayType} {ty : FieldType} {k : St → Option β} (C : CX X g cc own ret nL R0) (hty : newarray.typeOf atype = ty) (hc : 9 < c ∧ c ≠ 99 ∧ tyA c = ty ∧ (∀ j, rf c j = false) ∧ (∀ D : String, ty ≠ .object D) ∧ defaultValue ty = .int 0) (harr : Cond.arrayClass ty ∈ lw_tbl) (hn : ¬ n < 0) (hN : n.toNatClampNeg = N) (hbytes : N * componentBytes ty ≤ 536870912) (hdg : decode cc pc = .ok (.newarray atype, 2)) (kk : ∀ S1 : St, S1.2.2 = S.2.2 + 1 → J X g Q (cfC n0) (pc + 2) lv (rv g S.2.2 :: st) S1 (k S1)) : J X g Q (cfC n0) pc lv (.int n :: st) S (chk ((kd S.2.2 = c ∧ ln S.2.2 = N) ∧ nok n0 R0.cells R0.slots S.2.2 N) (vlt (newS S) k)) := by
  refine J.ck (fun hok => ?_)
  have kk := kk (newS S) rfl
  obtain ⟨p, l, e, R, s, m, args, below, meth, c'⟩ := X
  obtain ⟨hx, hb, hml, hown, hr', hlk, hK, hRe, hg⟩ := C
  subst hRe
  subst hty
  obtain ⟨⟨hk, hkn⟩, o1, o2, o3, o4, o5⟩ := hok
  obtain ⟨c1, c2, c3, c4, c5, c6⟩ := hc
  intro b hb0 H locs ls hP hS hl
  have k1 := fun H1 locs => kk b hb0 H1 locs ls
  rw [rv_ref (show S.2.2 ≠ 0 by have := hP.1; omega), hP.nxt] at k1
  refine va_newaK hx hb (hK.2.1 _ harr rfl args) rfl hdg rfl hn hN hbytes (by show S.2.2 - n0 + 1 ≤ R.cells; omega) (by show slT S.2.2 - slT n0 + N ≤ R.slots; omega) rfl fun H1 cA e1 z1 o1' hAr _ => ?_
  refine W.widen (k := ((cfC n0) (newS S).2.2).1) (n := ((cfC n0) (newS S).2.2).2) (by show S.2.2 - n0 + 1 ≤ S.2.2 + 1 - n0; omega) (by show slT S.2.2 - slT n0 + N ≤ slT (S.2.2 + 1) - slT n0; omega) ?_
  refine k1 H1 locs (hP.grow rfl z1 o1' (fun _ h => fv_newS h) ⟨fun q => by omega, fun _ => ?_⟩) ⟨by rw [z1]; exact Nat.le_trans hS.1 (Nat.le_succ _), fun q q1 q2 => (o1' q (Nat.lt_of_lt_of_le q1 hS.1)).trans (hS.2.1 q q1 q2), hS.2.2⟩ hl
  rw [hk, c3, hkn, hP.nxt]
  refine ⟨_, e1, hAr _ _, (fun h => by cases h), Nat.le_of_eq (arrV_size _ _ _).symm, by rw [arrV_size], fun j hj => ?_, fun D hD => absurd hD (c5 D)⟩
  rw [arrV_read _ _ hj, fv_newS_self, hk, c4 j, c6]
  rfl
theorem J.newr {n0 N c idx ce : Nat} {n : Int32} {r : vw_C} {k : St → Option β} (C : CX X g cc own ret nL R0) (hce : vwCl[ce]? = some r) (hc : 9 < c ∧ c ≠ 99 ∧ tyA c = .object r.1 ∧ ∀ j, rf c j = true) (hcl : Cond.classLink own idx r.1 ∈ lw_tbl) (hao : ∀ U, KU g U → va_AO r.1 U) (hn : ¬ n < 0) (hN : n.toNatClampNeg = N) (hbytes : N * 4 ≤ 536870912) (hdg : decode cc pc = .ok (.anewarray idx, 3)) (kk : ∀ S1 : St, S1.2.2 = S.2.2 + 1 → J X g Q (cfC n0) (pc + 3) lv (rv g S.2.2 :: st) S1 (k S1)) : J X g Q (cfC n0) pc lv (.int n :: st) S (chk ((kd S.2.2 = c ∧ ln S.2.2 = N) ∧ nok n0 R0.cells R0.slots S.2.2 N) (vlt (newS S) k)) := by
  refine J.ck (fun hok => ?_)
  have kk := kk (newS S) rfl
  obtain ⟨p, l, e, R, s, m, args, below, meth, c'⟩ := X
  obtain ⟨hx, hb, hml, hown, hr', hlk, hK, hRe, hg⟩ := C
  subst hRe
  subst hN
  obtain ⟨⟨hk, hkn⟩, o1, o2, o3, o4, o5⟩ := hok
  obtain ⟨c1, c2, c3, c4⟩ := hc
  intro b hb0 H locs ls hP hS hl
  have k1 := fun H1 locs => kk b hb0 H1 locs ls
  rw [rv_ref (show S.2.2 ≠ 0 by have := hP.1; omega), hP.nxt] at k1
  refine W.anew hx hb hown (hK.2.1 _ hcl rfl args) (va_AO.use (hao s hK)) rfl hdg rfl hn hbytes (by show S.2.2 - n0 + 1 ≤ R.cells; omega) (by show slT S.2.2 - slT n0 + n.toNatClampNeg ≤ R.slots; omega) fun cA kA comp f1 f2 f3 f4 => ?_
  generalize hH1 : H.push ({ cls := cA, slots := Array.replicate n.toNatClampNeg .null, vm := .none } : Cell) = H1
  have z1 : H1.size = H.size + 1 := by rw [← hH1, Array.size_push]
  have e1 : H1[H.size]? = some (arrV cA n.toNatClampNeg (fun _ => .null)) := by rw [← hH1, Array.getElem?_push_size, ← arrV_new]
  have o1' : ∀ q : Nat, q < H.size → H1[q]? = H[q]? := fun q hq => by rw [← hH1, Array.getElem?_push, if_neg (Nat.ne_of_lt hq)]
  refine W.widen (k := ((cfC n0) (newS S).2.2).1) (n := ((cfC n0) (newS S).2.2).2) (by show S.2.2 - n0 + 1 ≤ S.2.2 + 1 - n0; omega) (by show slT S.2.2 - slT n0 + n.toNatClampNeg ≤ slT (S.2.2 + 1) - slT n0; omega) ?_
  refine k1 H1 locs (hP.grow rfl z1 o1' (fun _ h => fv_newS h) ⟨fun q => by omega, fun _ => ?_⟩) ⟨by rw [z1]; exact Nat.le_trans hS.1 (Nat.le_succ _), fun q q1 q2 => (o1' q (Nat.lt_of_lt_of_le q1 hS.1)).trans (hS.2.1 q q1 q2), hS.2.2⟩ hl
  rw [hk, c3, hkn, hP.nxt]
  refine ⟨_, e1, ⟨(fun k h => by cases h), kA, f2, comp, f3⟩, (fun h => by cases h), Nat.le_of_eq (arrV_size _ _ _).symm, by rw [arrV_size], fun j hj => ?_, fun D hD => ?_⟩
  · rw [arrV_read _ _ hj, fv_newS_self, hk, c4 j]
    rfl
  · cases hD
    exact ⟨kA, comp, f2, f3, f4⟩
/-! small things for the printed walks -/
def bnd2 {α β : Type} (o : Option (α × St)) (k : α → St → Option β) : Option β := bnd o (fun q => k q.1 q.2)
theorem J.vl {α : Type} {x : α} {k : α → Option β} (kk : J X g Q cf pc lv st S (k x)) : J X g Q cf pc lv st S (vlt x k) := kk
theorem J.topi {x : Int32} {k : Int32 → Option β} (kk : ∀ y : Int32, J X g Q cf pc lv (.int y :: st) S (k y)) : J X g Q cf pc lv (.int x :: st) S (vlt x k) := kk x
theorem J.pick {lv' : List (Nat × Value)} (ks : List Nat) (h : lv_pick lv ks = lv') (kk : J X g Q cf pc lv' st S o) : J X g Q cf pc lv st S o := by
  refine J.sub (fun q hq => ?_) kk
  rw [← h] at hq
  obtain ⟨k, -, hk⟩ := List.mem_filterMap.mp hq
  exact List.mem_of_getElem? hk
theorem J.putIs {ci j idx a : Nat} {x : Int32} {k : St → Option β} (C : CX X g cc own ret nL R0) (hf : FL own idx ci j) (hrf : rf ci j = false) (hfin : ∀ r : vw_C, vwCl[ci]? = some r → (r.2.1 j).2.2.2 = false) (hnr : narrow (tyF ci j) (.int x) = .int x) (hfit : fits (tyF ci j) (.int x) = true) (hdg : decode cc pc = .ok (.putfield idx, 3)) (kk : ∀ S1 : St, J X g Q cf (pc + 3) lv st S1 (k S1)) : J X g Q cf pc lv (.int x :: rv g a :: st) S (chk (okc S ci a) (vlt (upI S a j x) k)) :=
  J.putI C hf hrf hfin hnr hfit hdg (kk _)
theorem J.putRs {ci j idx a x : Nat} {k : St → Option β} (C : CX X g cc own ret nL R0) (hf : FL own idx ci j) (hrf : rf ci j = true) (hfin : (∀ r : vw_C, vwCl[ci]? = some r → (r.2.1 j).2.2.2 = true ∧ (r.2.1 j).1 = own)) (hin : X.2.2.2.2.2.2.2.2.1.name = "<init>") (hnr : narrow (tyF ci j) (rv g x) = rv g x) (hfit : fits (tyF ci j) (rv g x) = true) (hdg : decode cc pc = .ok (.putfield idx, 3)) (kk : ∀ S1 : St, J X g Q cf (pc + 3) lv st S1 (k S1)) : J X g Q cf pc lv (rv g x :: rv g a :: st) S (chk (okc S ci a) (vlt (upR S a j x) k)) :=
  J.putR C hf hrf hfin hin hnr hfit hdg (kk _)
theorem J.iasts {a : Nat} {i x : Int32} {k : St → Option β} (C : CX X g cc own ret nL R0) (hdg : decode cc pc = .ok (.iastore, 1)) (kk : ∀ S1 : St, J X g Q cf (pc + 1) lv st S1 (k S1)) : J X g Q cf pc lv (.int x :: .int i :: rv g a :: st) S (chk (inw S 10 a i) (vlt (upI S a i.toNatClampNeg x) k)) :=
  J.iast C hdg (kk _)
theorem J.casts {a : Nat} {i x : Int32} {k : St → Option β} (C : CX X g cc own ret nL R0) (hx0 : narrow .char (.int x) = .int x) (hdg : decode cc pc = .ok (.castore, 1)) (kk : ∀ S1 : St, J X g Q cf (pc + 1) lv st S1 (k S1)) : J X g Q cf pc lv (.int x :: .int i :: rv g a :: st) S (chk (inw S 11 a i) (vlt (upI S a i.toNatClampNeg x) k)) :=
  J.cast C hx0 hdg (kk _)
theorem J.aasts {a v : Nat} {i : Int32} {k : St → Option β} {r : vw_C} (C : CX X g cc own ret nL R0) (c ce : Nat) (hc : 9 < c ∧ c ≠ 99) (hrf : ∀ j, rf c j = true) (hce : vwCl[ce]? = some r) (hty : tyA c = .object r.1) (hdg : decode cc pc = .ok (.aastore, 1)) (kk : ∀ S1 : St, J X g Q cf (pc + 1) lv st S1 (k S1)) : J X g Q cf pc lv (rv g v :: .int i :: rv g a :: st) S (chk (inw S c a i ∧ okc S ce v) (vlt (upR S a i.toNatClampNeg v) k)) :=
  J.aast C c ce hc hrf hce hty hdg (kk _)
theorem nar_z {v : Int32} (h : v = 0 ∨ v = 1) : narrow .boolean (.int v) = .int v := by
  rcases h with rfl | rfl <;> rfl
theorem fit_z {v : Int32} (h : v = 0 ∨ v = 1) : fits .boolean (.int v) = true := by
  rcases h with rfl | rfl <;> rfl
abbrev isC (v : Int32) : Prop := v.toUInt32.toUInt16.toUInt32.toInt32 = v
theorem nar_c {v : Int32} (h : isC v) : narrow .char (.int v) = .int v := by
  have e : narrow .char (.int v) = .int v.toUInt32.toUInt16.toUInt32.toInt32 := rfl
  rw [e, h]
theorem fit_c {v : Int32} (h : isC v) : fits .char (.int v) = true := by
  have h1 := fits_narrow_char v
  rw [nar_c h] at h1
  exact h1
theorem nar_r {n : String} {x : Nat} : narrow (.object n) (rv g x) = rv g x := by unfold rv; split <;> rfl
theorem fit_r {n : String} {x : Nat} : fits (.object n) (rv g x) = true := by unfold rv; split <;> rfl
theorem nar_ra {t : FieldType} {x : Nat} : narrow (.array t) (rv g x) = rv g x := by unfold rv; split <;> rfl
theorem fit_ra {t : FieldType} {x : Nat} : fits (.array t) (rv g x) = true := by unfold rv; split <;> rfl
/-- the room of a method that makes nothing -/
def cw (w : Nat × Nat) : Nat → Nat × Nat := fun _ => w
def aI : Int32 → Option Value := fun x => some (.int x)
def aR (g : GG) : Nat → Option Value := fun x => some (rv g x)
def aU : St → Option Value := fun _ => Option.none
def aW : Int32 × St → Option Value := fun q => some (.int q.1)
def pK {α : Type} (S : St) : α → St := fun _ => S
def pU : St → St := fun S => S
def pW : Int32 × St → St := fun q => q.2
def lva : Nat → List Value → List (Nat × Value)
  | _, [] => []
  | n, v :: t => (n, v) :: lva (n + 1) t
theorem lva_eq : ∀ {vs : List Value} (n : Nat), cats vs → lv_args n vs = lva n vs
  | [], _, _ => rfl
  | v :: t, n, h => by
    have h1 := h v List.mem_cons_self
    have h2 := lva_eq (vs := t) (n + 1) (fun w hw => h w (List.mem_cons_of_mem _ hw))
    unfold lv_args lva
    rw [if_neg (by rw [h1]; decide), h2]
theorem lg_len : ∀ {vs : List Value}, cats vs → (lg_sl vs).length = vs.length
  | [], _ => rfl
  | v :: t, h => by
    have h1 := h v List.mem_cons_self
    have h2 := lg_len (vs := t) (fun w hw => h w (List.mem_cons_of_mem _ hw))
    have e : lg_sl (v :: t) = [Slot.val v] ++ lg_sl t := by
      unfold lg_sl
      rw [List.flatMap_cons, if_neg (by rw [h1]; decide)]
    rw [e, List.length_append, h2]
    simp
    omega
theorem lva_cat : ∀ {vs : List Value} (n : Nat), cats vs → ∀ q ∈ lva n vs, q.2.category = 1
  | [], _, _, q, hq => by cases hq
  | v :: t, n, h, q, hq => by
    unfold lva at hq
    rcases List.mem_cons.mp hq with e | e
    · rw [e]; exact h v List.mem_cons_self
    · exact lva_cat (vs := t) (n + 1) (fun w hw => h w (List.mem_cons_of_mem _ hw)) q e
theorem Ct.mk {γ : Type} {l : Launch} {y : MethodName} {cc : ByteArray} {nL : Nat} {ret : Option FieldType} {rm : Room} {g : GG} {an : γ → Option Value} {ps : γ → St} {as : List Value} {S : St} {o : Option γ} {cf : Nat → Nat × Nat} (hy : plainFor y = true) (hcat : cats as) (hlen : as.length ≤ nL) (hcf : cf S.2.2 = (0, 0))
    (body : ∀ X : CT, X.2.1 = l → X.2.2.2.2.2.2.2.2.1.name = y.name → CX X g cc y.cls ret nL rm → J X g (Qm X g an ps) cf 0 (lva 0 as) [] S o) : Ct l y cc nL ret rm g an ps as S o :=
  Ct.of hy (by rw [lg_len hcat]; exact hlen) (lva_eq 0 hcat) (lva_cat 0 hcat) hcf body
end JR4
section JR5
variable {β : Type} {X : CT} {g : GG} {Q : β → State → Prop} {w : Nat × Nat} {pc : Nat} {lv : List (Nat × Value)} {S : St} {cc : ByteArray} {own : String} {ret : Option FieldType} {nL : Nat} {R0 : Room} {stk rest : List Value} {rm : Room} {As : List Value} {y : MethodName} {cc' : ByteArray} {nL' idx n : Nat} {ret' : Option FieldType}
/-- what the tables say of a static method, of an object's method -/
def MSs (y : MethodName) (cc : ByteArray) (nL : Nat) (ret : Option FieldType) (n : Nat) : Prop := MS y cc nL ret n ∧ Cond.static y ∈ lw_tbl
def MSv (ci : Nat) (y : MethodName) (cc : ByteArray) (nL : Nat) (ret : Option FieldType) (n : Nat) : Prop := ∃ r : vw_C, vwCl[ci]? = some r ∧ y.cls = r.1 ∧ MS y cc nL ret n ∧ Cond.instanceMethod y ∈ lw_tbl ∧ Cond.selects r.1 y y ∈ lw_tbl
def MSi (ci : Nat) (y : MethodName) (cc : ByteArray) (nL : Nat) (n : Nat) : Prop := ∃ r : vw_C, vwCl[ci]? = some r ∧ MS y cc nL Option.none n ∧ Cond.instanceMethod y ∈ lw_tbl ∧ y.name = "<init>"
theorem J.sI {f : Option (Int32)} {k : Int32 → Option β} (C : CX X g cc own ret nL R0) (hM : MSs y cc' nL' ret' n) (hlk : Cond.methodLink own idx y ∈ lw_tbl) (hC : ∀ l, Ct l y cc' nL' ret' rm g aI (pK S) As S f) (hroom : (w.1 ≤ R0.cells ∧ w.2 ≤ R0.slots) ∧ rm.cells = 0 ∧ rm.slots = 0) (hn : As.length = n) (hR : rm.frames + 1 ≤ R0.frames ∧ 8 + (nL' + 11) + rm.locals ≤ R0.locals) (hstk : stk = As.reverse ++ rest) {cn : Nat} (hcat : catn rest cn) (hlen : cn ≤ 8) (hdg : decode cc pc = .ok (.invokestatic idx, 3)) (kk : ∀ r : Int32, J X g Q (cw w) (pc + 3) lv (.int r :: rest) S (k r)) : J X g Q (cw w) pc lv stk S (bnd f k) := J.callS C hM.1 hM.2 hlk hC hn hstk hcat hlen hR (show (cw w S.2.2).1 + rm.cells ≤ R0.cells ∧ (cw w S.2.2).2 + rm.slots ≤ R0.slots by rw [hroom.2.1, hroom.2.2]; exact hroom.1) (fun b _ => (show w.1 + rm.cells ≤ w.1 ∧ w.2 + rm.slots ≤ w.2 by rw [hroom.2.1, hroom.2.2]; exact ⟨Nat.le_refl _, Nat.le_refl _⟩)) hdg (fun b => kk b)
theorem J.snI {host : String} {f : Option (Int32)} {k : Int32 → Option β} (C : CX X g cc own ret nL R0) (hM : MSs y cc' nL' ret' n) (hlk : Cond.methodLinkNest own idx y host ∈ lw_tbl) (hC : ∀ l, Ct l y cc' nL' ret' rm g aI (pK S) As S f) (hroom : (w.1 ≤ R0.cells ∧ w.2 ≤ R0.slots) ∧ rm.cells = 0 ∧ rm.slots = 0) (hn : As.length = n) (hR : rm.frames + 1 ≤ R0.frames ∧ 8 + (nL' + 11) + rm.locals ≤ R0.locals) (hstk : stk = As.reverse ++ rest) {cn : Nat} (hcat : catn rest cn) (hlen : cn ≤ 8) (hdg : decode cc pc = .ok (.invokestatic idx, 3)) (kk : ∀ r : Int32, J X g Q (cw w) (pc + 3) lv (.int r :: rest) S (k r)) : J X g Q (cw w) pc lv stk S (bnd f k) := J.callSN C hM.1 hM.2 hlk hC hn hstk hcat hlen hR (show (cw w S.2.2).1 + rm.cells ≤ R0.cells ∧ (cw w S.2.2).2 + rm.slots ≤ R0.slots by rw [hroom.2.1, hroom.2.2]; exact hroom.1) (fun b _ => (show w.1 + rm.cells ≤ w.1 ∧ w.2 + rm.slots ≤ w.2 by rw [hroom.2.1, hroom.2.2]; exact ⟨Nat.le_refl _, Nat.le_refl _⟩)) hdg (fun b => kk b)
theorem J.vI {ci a : Nat} {f : Option (Int32)} {k : Int32 → Option β} (C : CX X g cc own ret nL R0) (hM : MSv ci y cc' nL' ret' n) (hlk : Cond.methodLink own idx y ∈ lw_tbl) (hC : ∀ l, Ct l y cc' nL' ret' rm g aI (pK S) (rv g a :: As) S f) (hroom : (w.1 ≤ R0.cells ∧ w.2 ≤ R0.slots) ∧ rm.cells = 0 ∧ rm.slots = 0) (hn : As.length = n) (hR : rm.frames + 1 ≤ R0.frames ∧ 8 + (nL' + 11) + rm.locals ≤ R0.locals) (hstk : stk = As.reverse ++ rv g a :: rest) {cn : Nat} (hcat : catn rest cn) (hlen : cn ≤ 8) (hdg : decode cc pc = .ok (.invokevirtual idx, 3)) (kk : ∀ r : Int32, J X g Q (cw w) (pc + 3) lv (.int r :: rest) S (k r)) : J X g Q (cw w) pc lv stk S (chk (okc S ci a) (bnd f k)) := by
  obtain ⟨r, m1, m2, m3, m4, m5⟩ := hM
  exact J.callV C m1 m2 m3 m4 m5 hlk hC hn hstk hcat hlen hR (show (cw w S.2.2).1 + rm.cells ≤ R0.cells ∧ (cw w S.2.2).2 + rm.slots ≤ R0.slots by rw [hroom.2.1, hroom.2.2]; exact hroom.1) (fun b _ => (show w.1 + rm.cells ≤ w.1 ∧ w.2 + rm.slots ≤ w.2 by rw [hroom.2.1, hroom.2.2]; exact ⟨Nat.le_refl _, Nat.le_refl _⟩)) hdg (fun b => kk b)
theorem J.sR {f : Option (Nat)} {k : Nat → Option β} (C : CX X g cc own ret nL R0) (hM : MSs y cc' nL' ret' n) (hlk : Cond.methodLink own idx y ∈ lw_tbl) (hC : ∀ l, Ct l y cc' nL' ret' rm g (aR g) (pK S) As S f) (hroom : (w.1 ≤ R0.cells ∧ w.2 ≤ R0.slots) ∧ rm.cells = 0 ∧ rm.slots = 0) (hn : As.length = n) (hR : rm.frames + 1 ≤ R0.frames ∧ 8 + (nL' + 11) + rm.locals ≤ R0.locals) (hstk : stk = As.reverse ++ rest) {cn : Nat} (hcat : catn rest cn) (hlen : cn ≤ 8) (hdg : decode cc pc = .ok (.invokestatic idx, 3)) (kk : ∀ r : Nat, J X g Q (cw w) (pc + 3) lv (rv g r :: rest) S (k r)) : J X g Q (cw w) pc lv stk S (bnd f k) := J.callS C hM.1 hM.2 hlk hC hn hstk hcat hlen hR (show (cw w S.2.2).1 + rm.cells ≤ R0.cells ∧ (cw w S.2.2).2 + rm.slots ≤ R0.slots by rw [hroom.2.1, hroom.2.2]; exact hroom.1) (fun b _ => (show w.1 + rm.cells ≤ w.1 ∧ w.2 + rm.slots ≤ w.2 by rw [hroom.2.1, hroom.2.2]; exact ⟨Nat.le_refl _, Nat.le_refl _⟩)) hdg (fun b => kk b)
theorem J.snR {host : String} {f : Option (Nat)} {k : Nat → Option β} (C : CX X g cc own ret nL R0) (hM : MSs y cc' nL' ret' n) (hlk : Cond.methodLinkNest own idx y host ∈ lw_tbl) (hC : ∀ l, Ct l y cc' nL' ret' rm g (aR g) (pK S) As S f) (hroom : (w.1 ≤ R0.cells ∧ w.2 ≤ R0.slots) ∧ rm.cells = 0 ∧ rm.slots = 0) (hn : As.length = n) (hR : rm.frames + 1 ≤ R0.frames ∧ 8 + (nL' + 11) + rm.locals ≤ R0.locals) (hstk : stk = As.reverse ++ rest) {cn : Nat} (hcat : catn rest cn) (hlen : cn ≤ 8) (hdg : decode cc pc = .ok (.invokestatic idx, 3)) (kk : ∀ r : Nat, J X g Q (cw w) (pc + 3) lv (rv g r :: rest) S (k r)) : J X g Q (cw w) pc lv stk S (bnd f k) := J.callSN C hM.1 hM.2 hlk hC hn hstk hcat hlen hR (show (cw w S.2.2).1 + rm.cells ≤ R0.cells ∧ (cw w S.2.2).2 + rm.slots ≤ R0.slots by rw [hroom.2.1, hroom.2.2]; exact hroom.1) (fun b _ => (show w.1 + rm.cells ≤ w.1 ∧ w.2 + rm.slots ≤ w.2 by rw [hroom.2.1, hroom.2.2]; exact ⟨Nat.le_refl _, Nat.le_refl _⟩)) hdg (fun b => kk b)
theorem J.vR {ci a : Nat} {f : Option (Nat)} {k : Nat → Option β} (C : CX X g cc own ret nL R0) (hM : MSv ci y cc' nL' ret' n) (hlk : Cond.methodLink own idx y ∈ lw_tbl) (hC : ∀ l, Ct l y cc' nL' ret' rm g (aR g) (pK S) (rv g a :: As) S f) (hroom : (w.1 ≤ R0.cells ∧ w.2 ≤ R0.slots) ∧ rm.cells = 0 ∧ rm.slots = 0) (hn : As.length = n) (hR : rm.frames + 1 ≤ R0.frames ∧ 8 + (nL' + 11) + rm.locals ≤ R0.locals) (hstk : stk = As.reverse ++ rv g a :: rest) {cn : Nat} (hcat : catn rest cn) (hlen : cn ≤ 8) (hdg : decode cc pc = .ok (.invokevirtual idx, 3)) (kk : ∀ r : Nat, J X g Q (cw w) (pc + 3) lv (rv g r :: rest) S (k r)) : J X g Q (cw w) pc lv stk S (chk (okc S ci a) (bnd f k)) := by
  obtain ⟨r, m1, m2, m3, m4, m5⟩ := hM
  exact J.callV C m1 m2 m3 m4 m5 hlk hC hn hstk hcat hlen hR (show (cw w S.2.2).1 + rm.cells ≤ R0.cells ∧ (cw w S.2.2).2 + rm.slots ≤ R0.slots by rw [hroom.2.1, hroom.2.2]; exact hroom.1) (fun b _ => (show w.1 + rm.cells ≤ w.1 ∧ w.2 + rm.slots ≤ w.2 by rw [hroom.2.1, hroom.2.2]; exact ⟨Nat.le_refl _, Nat.le_refl _⟩)) hdg (fun b => kk b)
theorem J.sU {f : Option (St)} {k : St → Option β} (C : CX X g cc own ret nL R0) (hM : MSs y cc' nL' ret' n) (hlk : Cond.methodLink own idx y ∈ lw_tbl) (hC : ∀ l, Ct l y cc' nL' ret' rm g aU pU As S f) (hroom : (w.1 ≤ R0.cells ∧ w.2 ≤ R0.slots) ∧ rm.cells = 0 ∧ rm.slots = 0) (hn : As.length = n) (hR : rm.frames + 1 ≤ R0.frames ∧ 8 + (nL' + 11) + rm.locals ≤ R0.locals) (hstk : stk = As.reverse ++ rest) {cn : Nat} (hcat : catn rest cn) (hlen : cn ≤ 8) (hdg : decode cc pc = .ok (.invokestatic idx, 3)) (kk : ∀ S1 : St, J X g Q (cw w) (pc + 3) lv rest S1 (k S1)) : J X g Q (cw w) pc lv stk S (bnd f k) := J.callS C hM.1 hM.2 hlk hC hn hstk hcat hlen hR (show (cw w S.2.2).1 + rm.cells ≤ R0.cells ∧ (cw w S.2.2).2 + rm.slots ≤ R0.slots by rw [hroom.2.1, hroom.2.2]; exact hroom.1) (fun b _ => (show w.1 + rm.cells ≤ w.1 ∧ w.2 + rm.slots ≤ w.2 by rw [hroom.2.1, hroom.2.2]; exact ⟨Nat.le_refl _, Nat.le_refl _⟩)) hdg (fun b => kk b)
theorem J.snU {host : String} {f : Option (St)} {k : St → Option β} (C : CX X g cc own ret nL R0) (hM : MSs y cc' nL' ret' n) (hlk : Cond.methodLinkNest own idx y host ∈ lw_tbl) (hC : ∀ l, Ct l y cc' nL' ret' rm g aU pU As S f) (hroom : (w.1 ≤ R0.cells ∧ w.2 ≤ R0.slots) ∧ rm.cells = 0 ∧ rm.slots = 0) (hn : As.length = n) (hR : rm.frames + 1 ≤ R0.frames ∧ 8 + (nL' + 11) + rm.locals ≤ R0.locals) (hstk : stk = As.reverse ++ rest) {cn : Nat} (hcat : catn rest cn) (hlen : cn ≤ 8) (hdg : decode cc pc = .ok (.invokestatic idx, 3)) (kk : ∀ S1 : St, J X g Q (cw w) (pc + 3) lv rest S1 (k S1)) : J X g Q (cw w) pc lv stk S (bnd f k) := J.callSN C hM.1 hM.2 hlk hC hn hstk hcat hlen hR (show (cw w S.2.2).1 + rm.cells ≤ R0.cells ∧ (cw w S.2.2).2 + rm.slots ≤ R0.slots by rw [hroom.2.1, hroom.2.2]; exact hroom.1) (fun b _ => (show w.1 + rm.cells ≤ w.1 ∧ w.2 + rm.slots ≤ w.2 by rw [hroom.2.1, hroom.2.2]; exact ⟨Nat.le_refl _, Nat.le_refl _⟩)) hdg (fun b => kk b)
theorem J.vU {ci a : Nat} {f : Option (St)} {k : St → Option β} (C : CX X g cc own ret nL R0) (hM : MSv ci y cc' nL' ret' n) (hlk : Cond.methodLink own idx y ∈ lw_tbl) (hC : ∀ l, Ct l y cc' nL' ret' rm g aU pU (rv g a :: As) S f) (hroom : (w.1 ≤ R0.cells ∧ w.2 ≤ R0.slots) ∧ rm.cells = 0 ∧ rm.slots = 0) (hn : As.length = n) (hR : rm.frames + 1 ≤ R0.frames ∧ 8 + (nL' + 11) + rm.locals ≤ R0.locals) (hstk : stk = As.reverse ++ rv g a :: rest) {cn : Nat} (hcat : catn rest cn) (hlen : cn ≤ 8) (hdg : decode cc pc = .ok (.invokevirtual idx, 3)) (kk : ∀ S1 : St, J X g Q (cw w) (pc + 3) lv rest S1 (k S1)) : J X g Q (cw w) pc lv stk S (chk (okc S ci a) (bnd f k)) := by
  obtain ⟨r, m1, m2, m3, m4, m5⟩ := hM
  exact J.callV C m1 m2 m3 m4 m5 hlk hC hn hstk hcat hlen hR (show (cw w S.2.2).1 + rm.cells ≤ R0.cells ∧ (cw w S.2.2).2 + rm.slots ≤ R0.slots by rw [hroom.2.1, hroom.2.2]; exact hroom.1) (fun b _ => (show w.1 + rm.cells ≤ w.1 ∧ w.2 + rm.slots ≤ w.2 by rw [hroom.2.1, hroom.2.2]; exact ⟨Nat.le_refl _, Nat.le_refl _⟩)) hdg (fun b => kk b)
theorem J.sW {f : Option (Int32 × St)} {k : Int32 → St → Option β} (C : CX X g cc own ret nL R0) (hM : MSs y cc' nL' ret' n) (hlk : Cond.methodLink own idx y ∈ lw_tbl) (hC : ∀ l, Ct l y cc' nL' ret' rm g aW pW As S f) (hroom : (w.1 ≤ R0.cells ∧ w.2 ≤ R0.slots) ∧ rm.cells = 0 ∧ rm.slots = 0) (hn : As.length = n) (hR : rm.frames + 1 ≤ R0.frames ∧ 8 + (nL' + 11) + rm.locals ≤ R0.locals) (hstk : stk = As.reverse ++ rest) {cn : Nat} (hcat : catn rest cn) (hlen : cn ≤ 8) (hdg : decode cc pc = .ok (.invokestatic idx, 3)) (kk : ∀ (r : Int32) (S1 : St), J X g Q (cw w) (pc + 3) lv (.int r :: rest) S1 (k r S1)) : J X g Q (cw w) pc lv stk S (bnd2 f k) := J.callS C hM.1 hM.2 hlk hC hn hstk hcat hlen hR (show (cw w S.2.2).1 + rm.cells ≤ R0.cells ∧ (cw w S.2.2).2 + rm.slots ≤ R0.slots by rw [hroom.2.1, hroom.2.2]; exact hroom.1) (fun b _ => (show w.1 + rm.cells ≤ w.1 ∧ w.2 + rm.slots ≤ w.2 by rw [hroom.2.1, hroom.2.2]; exact ⟨Nat.le_refl _, Nat.le_refl _⟩)) hdg (fun b => kk b.1 b.2)
theorem J.snW {host : String} {f : Option (Int32 × St)} {k : Int32 → St → Option β} (C : CX X g cc own ret nL R0) (hM : MSs y cc' nL' ret' n) (hlk : Cond.methodLinkNest own idx y host ∈ lw_tbl) (hC : ∀ l, Ct l y cc' nL' ret' rm g aW pW As S f) (hroom : (w.1 ≤ R0.cells ∧ w.2 ≤ R0.slots) ∧ rm.cells = 0 ∧ rm.slots = 0) (hn : As.length = n) (hR : rm.frames + 1 ≤ R0.frames ∧ 8 + (nL' + 11) + rm.locals ≤ R0.locals) (hstk : stk = As.reverse ++ rest) {cn : Nat} (hcat : catn rest cn) (hlen : cn ≤ 8) (hdg : decode cc pc = .ok (.invokestatic idx, 3)) (kk : ∀ (r : Int32) (S1 : St), J X g Q (cw w) (pc + 3) lv (.int r :: rest) S1 (k r S1)) : J X g Q (cw w) pc lv stk S (bnd2 f k) := J.callSN C hM.1 hM.2 hlk hC hn hstk hcat hlen hR (show (cw w S.2.2).1 + rm.cells ≤ R0.cells ∧ (cw w S.2.2).2 + rm.slots ≤ R0.slots by rw [hroom.2.1, hroom.2.2]; exact hroom.1) (fun b _ => (show w.1 + rm.cells ≤ w.1 ∧ w.2 + rm.slots ≤ w.2 by rw [hroom.2.1, hroom.2.2]; exact ⟨Nat.le_refl _, Nat.le_refl _⟩)) hdg (fun b => kk b.1 b.2)
theorem J.vW {ci a : Nat} {f : Option (Int32 × St)} {k : Int32 → St → Option β} (C : CX X g cc own ret nL R0) (hM : MSv ci y cc' nL' ret' n) (hlk : Cond.methodLink own idx y ∈ lw_tbl) (hC : ∀ l, Ct l y cc' nL' ret' rm g aW pW (rv g a :: As) S f) (hroom : (w.1 ≤ R0.cells ∧ w.2 ≤ R0.slots) ∧ rm.cells = 0 ∧ rm.slots = 0) (hn : As.length = n) (hR : rm.frames + 1 ≤ R0.frames ∧ 8 + (nL' + 11) + rm.locals ≤ R0.locals) (hstk : stk = As.reverse ++ rv g a :: rest) {cn : Nat} (hcat : catn rest cn) (hlen : cn ≤ 8) (hdg : decode cc pc = .ok (.invokevirtual idx, 3)) (kk : ∀ (r : Int32) (S1 : St), J X g Q (cw w) (pc + 3) lv (.int r :: rest) S1 (k r S1)) : J X g Q (cw w) pc lv stk S (chk (okc S ci a) (bnd2 f k)) := by
  obtain ⟨r, m1, m2, m3, m4, m5⟩ := hM
  exact J.callV C m1 m2 m3 m4 m5 hlk hC hn hstk hcat hlen hR (show (cw w S.2.2).1 + rm.cells ≤ R0.cells ∧ (cw w S.2.2).2 + rm.slots ≤ R0.slots by rw [hroom.2.1, hroom.2.2]; exact hroom.1) (fun b _ => (show w.1 + rm.cells ≤ w.1 ∧ w.2 + rm.slots ≤ w.2 by rw [hroom.2.1, hroom.2.2]; exact ⟨Nat.le_refl _, Nat.le_refl _⟩)) hdg (fun b => kk b.1 b.2)
end JR5
section JR6
variable {β : Type} {X : CT} {g : GG} {Q : β → State → Prop} {n0 : Nat} {pc : Nat} {lv : List (Nat × Value)} {S : St} {cc : ByteArray} {own : String} {ret : Option FieldType} {nL : Nat} {R0 : Room} {stk rest : List Value} {rm : Room} {As : List Value} {y : MethodName} {cc' : ByteArray} {nL' idx n : Nat} {ret' : Option FieldType}
abbrev rok (n0 dn ds n : Nat) : Prop := n0 ≤ n ∧ n ≤ n0 + dn ∧ slT n0 ≤ slT n ∧ slT n ≤ slT n0 + ds
abbrev rok2 (n0 dn ds dm sm n : Nat) : Prop := n0 ≤ n ∧ n + dm ≤ n0 + dn ∧ slT n0 ≤ slT n ∧ slT n + sm ≤ slT n0 + ds
theorem cfC_0 (n0 : Nat) : cfC n0 n0 = (0, 0) := by
  unfold cfC
  rw [Nat.sub_self, Nat.sub_self]
theorem rok_le {n0 dn ds n : Nat} (h : rok n0 dn ds n) : (cfC n0 n).1 ≤ dn ∧ (cfC n0 n).2 ≤ ds := by
  obtain ⟨h1, h2, h3, h4⟩ := h
  exact ⟨show n - n0 ≤ dn by omega, show slT n - slT n0 ≤ ds by omega⟩
theorem J.snIc {host : String} {f : Option Int32} {k : Int32 → Option β} (C : CX X g cc own ret nL R0) (hM : MSs y cc' nL' ret' n) (hlk : Cond.methodLinkNest own idx y host ∈ lw_tbl) (hC : ∀ l, Ct l y cc' nL' ret' rm g aI (pK S) As S f) (hR : rm.frames + 1 ≤ R0.frames ∧ 8 + (nL' + 11) + rm.locals ≤ R0.locals) (hn : As.length = n) (hstk : stk = As.reverse ++ rest) {cn : Nat} (hcat : catn rest cn) (hlen : cn ≤ 8) (hdg : decode cc pc = .ok (.invokestatic idx, 3)) (kk : ∀ r : Int32, J X g Q (cfC n0) (pc + 3) lv (.int r :: rest) S (k r)) (hrm : rm.cells = 0 ∧ rm.slots = 0 := by exact ⟨rfl, rfl⟩) : J X g Q (cfC n0) pc lv stk S (chk (rok n0 R0.cells R0.slots S.2.2) (bnd f k)) := by
  refine J.ck (fun hok => ?_)
  have h2 := rok_le hok
  exact J.callSN C hM.1 hM.2 hlk hC hn hstk hcat hlen hR (by rw [hrm.1, hrm.2]; exact h2) (fun b _ => by rw [hrm.1, hrm.2]; exact ⟨Nat.le_refl _, Nat.le_refl _⟩) hdg kk
theorem J.ctor {ci a : Nat} {f : Option St} {k : St → Option β} (C : CX X g cc own ret nL R0) (hM : MSi ci y cc' nL' n) (hlk : Cond.methodLink own idx y ∈ lw_tbl) (hC : ∀ l, Ct l y cc' nL' Option.none rm g aU pU (rv g a :: As) S f) (hR : rm.frames + 1 ≤ R0.frames ∧ 8 + (nL' + 11) + rm.locals ≤ R0.locals) (hn : As.length = n) (hstk : stk = As.reverse ++ rv g a :: rest) {cn : Nat} (hcat : catn rest cn) (hlen : cn ≤ 8) (hdg : decode cc pc = .ok (.invokespecial idx, 3)) (kk : ∀ S1 : St, J X g Q (cfC n0) (pc + 3) lv rest S1 (k S1)) : J X g Q (cfC n0) pc lv stk S (chk (okc S ci a) (chk (rok2 n0 R0.cells R0.slots rm.cells rm.slots S.2.2) (bnd f fun S1 => chk (S1.2.2 = S.2.2 + rm.cells ∧ slT S1.2.2 = slT S.2.2 + rm.slots) (k S1)))) := by
  obtain ⟨r, m1, m2, m3, m4⟩ := hM
  have key : rok2 n0 R0.cells R0.slots rm.cells rm.slots S.2.2 → J X g Q (cfC n0) pc lv stk S (chk (okc S ci a) (bnd (bnd f fun S1 => if S1.2.2 = S.2.2 + rm.cells ∧ slT S1.2.2 = slT S.2.2 + rm.slots then some S1 else Option.none) k)) := by
    rintro ⟨o1, o2, o3, o4⟩
    refine J.callI (an' := aU) (ps' := pU) C m1 m2 m3 m4 hlk (fun l b hb => ?_) hn hstk hcat hlen hR (by constructor <;> simp only [cfC] <;> omega) (fun b hb => ?_) hdg kk
    · obtain ⟨b1, h1, h2⟩ := bnd_some hb
      by_cases hc : b1.2.2 = S.2.2 + rm.cells ∧ slT b1.2.2 = slT S.2.2 + rm.slots
      · rw [if_pos hc] at h2
        cases h2
        exact hC l _ h1
      · rw [if_neg hc] at h2
        cases h2
    · obtain ⟨b1, h1, h2⟩ := bnd_some hb
      by_cases hc : b1.2.2 = S.2.2 + rm.cells ∧ slT b1.2.2 = slT S.2.2 + rm.slots
      · rw [if_pos hc] at h2
        cases h2
        show S.2.2 - n0 + rm.cells ≤ b.2.2 - n0 ∧ slT S.2.2 - slT n0 + rm.slots ≤ slT b.2.2 - slT n0
        omega
      · rw [if_neg hc] at h2
        cases h2
  by_cases h : rok2 n0 R0.cells R0.slots rm.cells rm.slots S.2.2
  · have e : (bnd (bnd f fun S1 => if S1.2.2 = S.2.2 + rm.cells ∧ slT S1.2.2 = slT S.2.2 + rm.slots then some S1 else Option.none) k) = chk (rok2 n0 R0.cells R0.slots rm.cells rm.slots S.2.2) (bnd f fun S1 => chk (S1.2.2 = S.2.2 + rm.cells ∧ slT S1.2.2 = slT S.2.2 + rm.slots) (k S1)) := by
      unfold chk
      rw [if_pos h]
      cases f with
      | none => rfl
      | some s1 =>
        show bnd (if _ then some s1 else Option.none) k = if _ then k s1 else Option.none
        by_cases hc : s1.2.2 = S.2.2 + rm.cells ∧ slT s1.2.2 = slT S.2.2 + rm.slots
        · rw [if_pos hc, if_pos hc]; rfl
        · rw [if_neg hc, if_neg hc]; rfl
    rw [← e]
    exact key h
  · refine J.ck (fun _ => ?_)
    exact J.ck (fun q => absurd q h)
theorem J.ctorN {host : String} {ci a : Nat} {f : Option St} {k : St → Option β} (C : CX X g cc own ret nL R0) (hM : MSi ci y cc' nL' n) (hlk : Cond.methodLinkNest own idx y host ∈ lw_tbl) (hC : ∀ l, Ct l y cc' nL' Option.none rm g aU pU (rv g a :: As) S f) (hR : rm.frames + 1 ≤ R0.frames ∧ 8 + (nL' + 11) + rm.locals ≤ R0.locals) (hn : As.length = n) (hstk : stk = As.reverse ++ rv g a :: rest) {cn : Nat} (hcat : catn rest cn) (hlen : cn ≤ 8) (hdg : decode cc pc = .ok (.invokespecial idx, 3)) (kk : ∀ S1 : St, J X g Q (cfC n0) (pc + 3) lv rest S1 (k S1)) : J X g Q (cfC n0) pc lv stk S (chk (okc S ci a) (chk (rok2 n0 R0.cells R0.slots rm.cells rm.slots S.2.2) (bnd f fun S1 => chk (S1.2.2 = S.2.2 + rm.cells ∧ slT S1.2.2 = slT S.2.2 + rm.slots) (k S1)))) := by
  obtain ⟨r, m1, m2, m3, m4⟩ := hM
  have key : rok2 n0 R0.cells R0.slots rm.cells rm.slots S.2.2 → J X g Q (cfC n0) pc lv stk S (chk (okc S ci a) (bnd (bnd f fun S1 => if S1.2.2 = S.2.2 + rm.cells ∧ slT S1.2.2 = slT S.2.2 + rm.slots then some S1 else Option.none) k)) := by
    rintro ⟨o1, o2, o3, o4⟩
    refine J.callIN (an' := aU) (ps' := pU) C m1 m2 m3 m4 hlk (fun l b hb => ?_) hn hstk hcat hlen hR (by constructor <;> simp only [cfC] <;> omega) (fun b hb => ?_) hdg kk
    · obtain ⟨b1, h1, h2⟩ := bnd_some hb
      by_cases hc : b1.2.2 = S.2.2 + rm.cells ∧ slT b1.2.2 = slT S.2.2 + rm.slots
      · rw [if_pos hc] at h2
        cases h2
        exact hC l _ h1
      · rw [if_neg hc] at h2
        cases h2
    · obtain ⟨b1, h1, h2⟩ := bnd_some hb
      by_cases hc : b1.2.2 = S.2.2 + rm.cells ∧ slT b1.2.2 = slT S.2.2 + rm.slots
      · rw [if_pos hc] at h2
        cases h2
        show S.2.2 - n0 + rm.cells ≤ b.2.2 - n0 ∧ slT S.2.2 - slT n0 + rm.slots ≤ slT b.2.2 - slT n0
        omega
      · rw [if_neg hc] at h2
        cases h2
  by_cases h : rok2 n0 R0.cells R0.slots rm.cells rm.slots S.2.2
  · have e : (bnd (bnd f fun S1 => if S1.2.2 = S.2.2 + rm.cells ∧ slT S1.2.2 = slT S.2.2 + rm.slots then some S1 else Option.none) k) = chk (rok2 n0 R0.cells R0.slots rm.cells rm.slots S.2.2) (bnd f fun S1 => chk (S1.2.2 = S.2.2 + rm.cells ∧ slT S1.2.2 = slT S.2.2 + rm.slots) (k S1)) := by
      unfold chk
      rw [if_pos h]
      cases f with
      | none => rfl
      | some s1 =>
        show bnd (if _ then some s1 else Option.none) k = if _ then k s1 else Option.none
        by_cases hc : s1.2.2 = S.2.2 + rm.cells ∧ slT s1.2.2 = slT S.2.2 + rm.slots
        · rw [if_pos hc, if_pos hc]; rfl
        · rw [if_neg hc, if_neg hc]; rfl
    rw [← e]
    exact key h
  · refine J.ck (fun _ => ?_)
    exact J.ck (fun q => absurd q h)
end JR6
section JR7
variable {β : Type} {X : CT} {g : GG} {Q : β → State → Prop} {cf : Nat → Nat × Nat} {w : Nat × Nat} {pc : Nat} {lv : List (Nat × Value)} {st : List Value} {S : St} {o o1 o2 : Option β} {cc : ByteArray} {own : String} {ret : Option FieldType} {nL : Nat} {R0 : Room} {stk rest : List Value} {rm : Room} {As : List Value} {y : MethodName} {cc' : ByteArray} {nL' idx n : Nat} {ret' : Option FieldType}
/-! longs -/
theorem J.ladd (C : CX X g cc own ret nL R0) {x y : Int64} (hdg : decode cc pc = .ok (.ladd, 1)) (kk : J X g Q cf (pc + 1) lv (.long (x + y) :: st) S o) : J X g Q cf pc lv (.long y :: .long x :: st) S o := by
  obtain ⟨p, l, e, R, s, m, args, below, meth, c⟩ := X
  obtain ⟨hx, hb, hml, hown, hr, hlk, hK, hR, hg⟩ := C
  intro b hb0 H locs ls hP hS hl
  exact lv_ladd hx hb hdg (kk b hb0 H locs ls hP hS hl)
theorem J.lmul (C : CX X g cc own ret nL R0) {x y : Int64} (hdg : decode cc pc = .ok (.lmul, 1)) (kk : J X g Q cf (pc + 1) lv (.long (x * y) :: st) S o) : J X g Q cf pc lv (.long y :: .long x :: st) S o := by
  obtain ⟨p, l, e, R, s, m, args, below, meth, c⟩ := X
  obtain ⟨hx, hb, hml, hown, hr, hlk, hK, hR, hg⟩ := C
  intro b hb0 H locs ls hP hS hl
  exact lv_lmul hx hb hdg (kk b hb0 H locs ls hP hS hl)
theorem J.lcmp (C : CX X g cc own ret nL R0) {x y : Int64} (hdg : decode cc pc = .ok (.lcmp, 1)) (kk : J X g Q cf (pc + 1) lv (.int (lg_cmp x y) :: st) S o) : J X g Q cf pc lv (.long y :: .long x :: st) S o := by
  obtain ⟨p, l, e, R, s, m, args, below, meth, c⟩ := X
  obtain ⟨hx, hb, hml, hown, hr, hlk, hK, hR, hg⟩ := C
  intro b hb0 H locs ls hP hS hl
  exact W.lcmp hx hb hdg (kk b hb0 H locs ls hP hS hl)
theorem J.i2l (C : CX X g cc own ret nL R0) {x : Int32} (hdg : decode cc pc = .ok (.i2l, 1)) (kk : J X g Q cf (pc + 1) lv (.long x.toInt64 :: st) S o) : J X g Q cf pc lv (.int x :: st) S o := by
  obtain ⟨p, l, e, R, s, m, args, below, meth, c⟩ := X
  obtain ⟨hx, hb, hml, hown, hr, hlk, hK, hR, hg⟩ := C
  intro b hb0 H locs ls hP hS hl
  exact lv_i2l hx hb hdg rfl (kk b hb0 H locs ls hP hS hl)
theorem J.ldc2_w (C : CX X g cc own ret nL R0) {idx : Nat} {v : Int64} (hw : Cond.constantLong own idx v ∈ lw_tbl) (hdg : decode cc pc = .ok (.ldc2_w idx, 3)) (kk : J X g Q cf (pc + 3) lv (.long v :: st) S o) : J X g Q cf pc lv st S o := by
  obtain ⟨p, l, e, R, s, m, args, below, meth, c⟩ := X
  obtain ⟨hx, hb, hml, hown, hr, hlk, hK, hR, hg⟩ := C
  intro b hb0 H locs ls hP hS hl
  exact lv_ldc2 hx hb hown (hK.2.1 _ hw rfl args) hdg (kk b hb0 H locs ls hP hS hl)
theorem J.lload_n (C : CX X g cc own ret nL R0) {k : Fin 4} {i : Nat} {x : Int64} (hdg : decode cc pc = .ok (.lload_n k, 1)) (hi : (k : Nat) = i) (h : lk lv i = some (.long x)) (kk : J X g Q cf (pc + 1) lv (.long x :: st) S o) : J X g Q cf pc lv st S o := by
  obtain ⟨p, l, e, R, s, m, args, below, meth, c⟩ := X
  obtain ⟨hx, hb, hml, hown, hr, hlk, hK, hR, hg⟩ := C
  intro b hb0 H locs ls hP hS hl
  exact lv_lload_n hx hb hdg hi (hl.at h) (kk b hb0 H locs ls hP hS hl)
theorem J.lload (C : CX X g cc own ret nL R0) {i : Nat} {x : Int64} (hdg : decode cc pc = .ok (.lload i, 2)) (h : lk lv i = some (.long x)) (kk : J X g Q cf (pc + 2) lv (.long x :: st) S o) : J X g Q cf pc lv st S o := by
  obtain ⟨p, l, e, R, s, m, args, below, meth, c⟩ := X
  obtain ⟨hx, hb, hml, hown, hr, hlk, hK, hR, hg⟩ := C
  intro b hb0 H locs ls hP hS hl
  exact lv_lload hx hb hdg (hl.at h) (kk b hb0 H locs ls hP hS hl)
theorem J.lstore_n (C : CX X g cc own ret nL R0) {k : Fin 4} {i : Nat} {x : Int64} (hdg : decode cc pc = .ok (.lstore_n k, 1)) (hi : (k : Nat) = i) {lv' : List (Nat × Value)} (hn : i + 1 < nL) (hf : lsf i lv) (hlv : lvset2 lv i (.long x) = lv') (kk : J X g Q cf (pc + 1) lv' st S o) : J X g Q cf pc lv ((.long x) :: st) S o := by
  obtain ⟨p, l, e, R, s, m, args, below, meth, c⟩ := X
  obtain ⟨hx, hb, hml, hown, hr, hlk, hK, hR, hg⟩ := C
  subst hlv
  intro b hb0 H locs ls hP hS hl
  have hn2 : i + 1 < c.maxLocals := by rw [hml]; exact hn
  exact lv_lstore_n hx hb hdg hi hl.1 hn2 rfl (fun ls1 h1 => kk b hb0 H locs ls1 hP hS (hl.set2 hf h1))
theorem J.lstore (C : CX X g cc own ret nL R0) {i : Nat} {x : Int64} (hdg : decode cc pc = .ok (.lstore i, 2)) {lv' : List (Nat × Value)} (hn : i + 1 < nL) (hf : lsf i lv) (hlv : lvset2 lv i (.long x) = lv') (kk : J X g Q cf (pc + 2) lv' st S o) : J X g Q cf pc lv ((.long x) :: st) S o := by
  obtain ⟨p, l, e, R, s, m, args, below, meth, c⟩ := X
  obtain ⟨hx, hb, hml, hown, hr, hlk, hK, hR, hg⟩ := C
  subst hlv
  intro b hb0 H locs ls hP hS hl
  have hn2 : i + 1 < c.maxLocals := by rw [hml]; exact hn
  exact lv_lstore hx hb hdg hl.1 hn2 rfl (fun ls1 h1 => kk b hb0 H locs ls1 hP hS (hl.set2 hf h1))
theorem J.lret {an : β → Option Value} {ps : β → St} {b : β} {v : Int64} (C : CX X g cc own (some .long) nL R0) (hv : an b = some (.long v)) (hs : ps b = S) (hc : (cf S.2.2).1 ≤ R0.cells ∧ (cf S.2.2).2 ≤ R0.slots) (hdg : decode cc pc = .ok (.lreturn, 1)) : J X g (Qm X g an ps) cf pc lv [.long v] S (some b) := by
  obtain ⟨p, l, e, R, s, m, args, below, meth, c'⟩ := X
  obtain ⟨hx, hb, hml, hown, hr, hlk, hK, hR, hg⟩ := C
  intro b' hb0 H locs ls hP hS hl
  cases hb0
  subst hR
  refine W.widen hc.1 hc.2 ?_
  exact W.lret hx hb hr (fun t ht hW => ⟨by rw [hv], by rw [hs, ht]; exact hP.moved hW.alike, hS.F ht⟩) hS.2.2 hdg hlk
def aL : Int64 → Option Value := fun x => some (.long x)
theorem J.sL {f : Option Int64} {k : Int64 → Option β} (C : CX X g cc own ret nL R0) (hM : MSs y cc' nL' ret' n) (hlk : Cond.methodLink own idx y ∈ lw_tbl) (hC : ∀ l, Ct l y cc' nL' ret' rm g aL (pK S) As S f) (hroom : (w.1 ≤ R0.cells ∧ w.2 ≤ R0.slots) ∧ rm.cells = 0 ∧ rm.slots = 0) (hn : As.length = n) (hR : rm.frames + 1 ≤ R0.frames ∧ 8 + (nL' + 11) + rm.locals ≤ R0.locals) (hstk : stk = As.reverse ++ rest) {cn : Nat} (hcat : catn rest cn) (hlen : cn ≤ 8) (hdg : decode cc pc = .ok (.invokestatic idx, 3)) (kk : ∀ r : Int64, J X g Q (cw w) (pc + 3) lv (.long r :: rest) S (k r)) : J X g Q (cw w) pc lv stk S (bnd f k) := J.callS C hM.1 hM.2 hlk hC hn hstk hcat hlen hR (show (cw w S.2.2).1 + rm.cells ≤ R0.cells ∧ (cw w S.2.2).2 + rm.slots ≤ R0.slots by rw [hroom.2.1, hroom.2.2]; exact hroom.1) (fun b _ => (show w.1 + rm.cells ≤ w.1 ∧ w.2 + rm.slots ≤ w.2 by rw [hroom.2.1, hroom.2.2]; exact ⟨Nat.le_refl _, Nat.le_refl _⟩)) hdg (fun b => kk b)
/-! the script -/
theorem J.sload_n (C : CX X g cc own ret nL R0) {k : Fin 4} {i : Nat} (hdg : decode cc pc = .ok (.aload_n k, 1)) (hi : (k : Nat) = i) (h : lk lv i = some (sv g)) (kk : J X g Q cf (pc + 1) lv (sv g :: st) S o) : J X g Q cf pc lv st S o := by
  obtain ⟨p, l, e, R, s, m, args, below, meth, c⟩ := X
  obtain ⟨hx, hb, hml, hown, hr, hlk, hK, hR, hg⟩ := C
  intro b hb0 H locs ls hP hS hl
  exact lv_aload_n hx hb hdg hi (hl.at h) (kk b hb0 H locs ls hP hS hl)
theorem J.sld (C : CX X g cc own ret nL R0) {i : Int32} (hdg : decode cc pc = .ok (.iaload, 1)) (kk : J X g Q cf (pc + 1) lv (.int (gx g i.toNatClampNeg) :: st) S o) : J X g Q cf pc lv (.int i :: sv g :: st) S (chk (0 ≤ i ∧ i.toNatClampNeg < gl g) o) := by
  obtain ⟨p, l, e, R, s, m, args, below, meth, c⟩ := X
  obtain ⟨hx, hb, hml, hown, hr, hlk, hK, hR, hg⟩ := C
  obtain ⟨-, -, -, -, -, -, -, x1, x2, x3⟩ := hK
  intro b hb0 H locs ls hP hS hl
  obtain ⟨⟨i0, i1⟩, hb1⟩ := chk_some hb0
  refine va_sld hx hb x1 (by omega) (by show ¬ g.1 ≤ _; omega) hS ?_ hdg (kk b hb1 H locs ls hP hS hl)
  exact ina_not i0 i1 (Nat.le_refl _)
theorem J.slen (C : CX X g cc own ret nL R0) (hdg : decode cc pc = .ok (.arraylength, 1)) (kk : J X g Q cf (pc + 1) lv (.int (Int32.ofNat (gl g)) :: st) S o) : J X g Q cf pc lv (sv g :: st) S o := by
  obtain ⟨p, l, e, R, s, m, args, below, meth, c⟩ := X
  obtain ⟨hx, hb, hml, hown, hr, hlk, hK, hR, hg⟩ := C
  obtain ⟨-, -, -, -, -, -, -, x1, x2, x3⟩ := hK
  intro b hb0 H locs ls hP hS hl
  exact va_slen hx hb x1 (by omega) (by show ¬ g.1 ≤ _; omega) hS hdg (kk b hb0 H locs ls hP hS hl)
end JR7
