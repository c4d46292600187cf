section JR3
variable {β : Type} {X : CT} {g : GG} {Q : β → State → Prop} {cf : Nat → Nat × Nat} {pc : Nat} {lv : List (Nat × Value)} {st : List Value} {S : St} {o o1 o2 : Option β} {cc : ByteArray} {own : String} {ret : Option FieldType} {nL : Nat} {R0 : Room}
def cats (st : List Value) : Prop := ∀ v ∈ st, v.category = 1
theorem cat_n : cats [] := fun _ h => by cases h
theorem cat_i {x : Int32} {st : List Value} (h : cats st) : cats (.int x :: st) := fun v hv => by
  rcases List.mem_cons.mp hv with e | e
  · rw [e]; rfl
  · exact h v e
theorem cat_r {g : GG} {x : Nat} {st : List Value} (h : cats st) : cats (rv g x :: st) := fun v hv => by
  rcases List.mem_cons.mp hv with e | e
  · rw [e]; exact rv_cat g x
  · exact h v e
theorem cats_sum : ∀ {st : List Value}, cats st → (st.map fun v => v.category).sum = st.length
  | [], _ => rfl
  | v :: t, h => by
    have h1 := h v List.mem_cons_self
    have h2 := cats_sum (st := t) (fun w hw => h w (List.mem_cons_of_mem _ hw))
    simp only [List.map_cons, List.sum_cons, List.length_cons, h1, h2]
    omega
theorem cat_s {g : GG} {st : List Value} (h : cats st) : cats (sv g :: st) := fun v hv => by
  rcases List.mem_cons.mp hv with e | e
  · rw [e]; rfl
  · exact h v e
/-- how many words the values of a stack take -/
def catn (st : List Value) (n : Nat) : Prop := (st.map fun v => v.category).sum = n
theorem ct_n : catn [] 0 := rfl
theorem ct_c {v : Value} {st : List Value} {n : Nat} (hv : v.category = 1) (h : catn st n) : catn (v :: st) (n + 1) := by
  unfold catn at *
  rw [List.map_cons, List.sum_cons, h, hv, Nat.add_comm]
theorem ct_i {x : Int32} {st : List Value} {n : Nat} (h : catn st n) : catn (.int x :: st) (n + 1) := ct_c rfl h
theorem ct_r {g : GG} {x : Nat} {st : List Value} {n : Nat} (h : catn st n) : catn (rv g x :: st) (n + 1) := ct_c (rv_cat g x) h
theorem ct_s {g : GG} {st : List Value} {n : Nat} (h : catn st n) : catn (sv g :: st) (n + 1) := ct_c rfl h
theorem ct_l {x : Int64} {st : List Value} {n : Nat} (h : catn st n) : catn (.long x :: st) (n + 2) := by
  unfold catn at *
  rw [List.map_cons, List.sum_cons, h, show (Value.long x).category = 2 from rfl, Nat.add_comm]
def lcats (lv : List (Nat × Value)) : Prop := ∀ q ∈ lv, q.2.category = 1
theorem lcat_n : lcats [] := fun _ h => by cases h
theorem lcat_i {i : Nat} {x : Int32} {lv : List (Nat × Value)} (h : lcats lv) : lcats ((i, .int x) :: lv) := fun v hv => by
  rcases List.mem_cons.mp hv with e | e
  · rw [e]; rfl
  · exact h v e
theorem lcat_r {g : GG} {i x : Nat} {lv : List (Nat × Value)} (h : lcats lv) : lcats ((i, rv g x) :: lv) := fun v hv => by
  rcases List.mem_cons.mp hv with e | e
  · rw [e]; exact rv_cat g x
  · exact h v e
theorem J.run {γ : Type} {an' : γ → Option Value} {ps' : γ → St} {f : Option γ} {k : γ → Option β} {stk rest : List Value} {rm : Room} {aa : Array Value} (hcs : ∀ b, f = some b → (cf S.2.2).1 + rm.cells ≤ (cf (ps' b).2.2).1 ∧ (cf S.2.2).2 + rm.slots ≤ (cf (ps' b).2.2).2)
    (hrun : match X with
      | (p, l, e, R, s, m, args, below, meth, c) => ∀ b, f = some b → ∀ (H : Heap) (locs : List Loc) (ls : Array Slot), HP g s S H → va_S (Ag g) s.heap H locs → lh ls c.maxLocals lv → va_Run p l e R s m args below meth c H locs (cf S.2.2).1 (cf S.2.2).2 rm.cells rm.slots (F0 m pc ls stk) rest (Qz g an' ps' b aa) (Ag g))
    (kk : ∀ b, f = some b → J X g Q cf (pc + 3) lv ((an' b).toList ++ rest) (ps' b) (k b)) : J X g Q cf pc lv stk S (bnd f k) := by
  obtain ⟨p, l, e, R, s, m, args, below, meth, c⟩ := X
  intro b hb0 H locs ls hP hS hl
  obtain ⟨b1, hb1, hb2⟩ := bnd_some hb0
  have hr := hrun b1 hb1 H locs ls hP hS hl
  intro T hT Xs
  obtain ⟨v, st₀, t, T', L, h0, X', hL, e1, e2, ⟨hv, hp, hz, hk⟩, stp⟩ := hr T hT Xs
  have hv2 : v = an' b1 := Outcome.returned.inj hv
  subst hv2
  rw [h0] at hz hk
  have hW : t.vm.Alike s.vm := by rw [← e2]; exact X'.warmed.alike.symm
  have hP1 : HP g s (ps' b1) T'.heap := by rw [e1]; exact hp.moved hW
  obtain ⟨t2, a1, b2⟩ := W.widen (hcs b1 hb1).1 (hcs b1 hb1).2 (kk b1 hb1 b hb2 T'.heap (locs ++ L) ls hP1 ⟨Nat.le_trans hS.1 (by rw [e1]; exact hz), fun q q1 q2 => by rw [e1, hk q (Nat.lt_of_lt_of_le q1 hS.1) q2]; exact hS.2.1 q q1 q2, fun q hq => by
      rcases List.mem_append.mp hq with h | h
      · exact hS.2.2 q h
      · exact hL q h⟩ hl) T' rfl X'
  exact ⟨t2, stp t2 a1, b2⟩
/-- what the tables say of a method -/
def MS (y : MethodName) (cc : ByteArray) (nL : Nat) (ret : Option FieldType) (n : Nat) : Prop := (Cond.code y cc nL ret ∈ lw_tbl ∧ Cond.initialized y.cls ∈ lw_tbl) ∧ y.cls ≠ "java/lang/invoke/MethodHandle" ∧ y.cls ≠ "java/lang/invoke/VarHandle" ∧ (parseMethodDescriptor y.desc).map (fun d => d.parameters.length) = some n
theorem pre_blind {g : GG} {S : St} {as : List Value} : FrameBlind (va_Pc as (fun U => HP g U S U.heap ∧ KU g U)) := fun a U gf mk q =>
  ⟨q.1, HP.moved (u := U) (U := U.calling gf mk a) (Vm.Alike.refl U.vm) q.2.1, KU.moved (s := U) (U := U.calling gf mk a) (State.WarmedH.refl U) (fun _ _ _ => rfl) q.2.2.2.2.2.2.2.2.2.2.2 q.2.2⟩
theorem pre_at {g : GG} {s : State} {S : St} {H : Heap} {locs : List Loc} (hK : KU g s) (hP : HP g s S H) (hS : va_S (Ag g) s.heap H locs) {as : List Value} (U : State) (hU : U.heap = H) (hW : s.WarmedH U.vm) : va_Pc as (fun U => HP g U S U.heap ∧ KU g U) as.toArray U :=
  ⟨rfl, by rw [hU]; exact hP.moved hW.alike, hK.moved hW (fun a h1 h2 => by rw [hU]; exact hS.2.1 a h1 h2) (by rw [hU]; exact hP.free)⟩
theorem call_b {s : State} {args : Array Value} {g : GG} (hK : KU g s) {R rm : Room} {own : String} {idx n nL' : Nat} {y : MethodName} {cc' : ByteArray} {ret' : Option FieldType} (hM : MS y cc' nL' ret' n) (hl : (Cond.methodLink own idx y).before args s = true) (hR : rm.frames + 1 ≤ R.frames ∧ 8 + (nL' + 11) + rm.locals ≤ R.locals) : CallB R s args own idx y cc' nL' ret' [.code y cc' nL' ret'] rm rm.cells rm.slots n := by
  obtain ⟨⟨h1, h2⟩, h3, h4, h5⟩ := hM
  have hcode := hK.2.1 _ h1 rfl args
  refine ⟨rfl, rfl, hR.1, hR.2, fun w hw a' U hW => ?_, List.mem_cons_self, hcode, hK.2.1 _ h2 rfl args, ⟨h3, h4⟩, fun sig h => ?_, hl⟩
  · rcases List.mem_cons.mp hw with e | e
    · rw [e]; exact word_at hW (Or.inl rfl) hcode
    · cases e
  · rw [h] at h5
    exact (Option.some.inj h5).symm
theorem call_n {s : State} {args : Array Value} {g : GG} (hK : KU g s) {R rm : Room} {own host : String} {idx n nL' : Nat} {y : MethodName} {cc' : ByteArray} {ret' : Option FieldType} (hM : MS y cc' nL' ret' n) (hl : (Cond.methodLinkNest own idx y host).before args s = true) (hR : rm.frames + 1 ≤ R.frames ∧ 8 + (nL' + 11) + rm.locals ≤ R.locals) : va_CN R s args own idx y host cc' nL' ret' [.code y cc' nL' ret'] rm rm.cells rm.slots n := by
  obtain ⟨⟨h1, h2⟩, h3, h4, h5⟩ := hM
  have hcode := hK.2.1 _ h1 rfl args
  refine ⟨⟨rfl, rfl, hR.1, hR.2, fun w hw a' U hW => ?_, List.mem_cons_self⟩, hcode, hK.2.1 _ h2 rfl args, ⟨h3, h4⟩, fun sig h => ?_, hl⟩
  · rcases List.mem_cons.mp hw with e | e
    · rw [e]; exact word_at hW (Or.inl rfl) hcode
    · cases e
  · rw [h] at h5
    exact (Option.some.inj h5).symm
variable {γ : Type} {an' : γ → Option Value} {ps' : γ → St} {f : Option γ} {k : γ → Option β} {stk rest : List Value} {rm : Room} {As : List Value} {y : MethodName} {cc' : ByteArray} {nL' idx n : Nat} {ret' : Option FieldType}
theorem J.callS (C : CX X g cc own ret nL R0) (hM : MS y cc' nL' ret' n) (hstat : Cond.static y ∈ lw_tbl) (hlk : Cond.methodLink own idx y ∈ lw_tbl) (hC : ∀ l, Ct l y cc' nL' ret' rm g an' ps' As S f) (hn : As.length = n) (hstk : stk = As.reverse ++ rest) {cn : Nat} (hcat : catn rest cn) (hlen : cn ≤ 8) (hR : rm.frames + 1 ≤ R0.frames ∧ 8 + (nL' + 11) + rm.locals ≤ R0.locals) (hroom : (cf S.2.2).1 + rm.cells ≤ R0.cells ∧ (cf S.2.2).2 + rm.slots ≤ R0.slots) (hcs : ∀ b, f = some b → (cf S.2.2).1 + rm.cells ≤ (cf (ps' b).2.2).1 ∧ (cf S.2.2).2 + rm.slots ≤ (cf (ps' b).2.2).2) (hdg : decode cc pc = .ok (.invokestatic idx, 3))
    (kk : ∀ b, J X g Q cf (pc + 3) lv ((an' b).toList ++ rest) (ps' b) (k b)) : J X g Q cf pc lv stk S (bnd f k) := by
  refine J.run (rm := rm) (aa := As.toArray) (rest := rest) hcs ?_ (fun b _ => kk b)
  obtain ⟨p, l, e, R, s, m, args, below, meth, c⟩ := X
  obtain ⟨hx, hb, hml, hown, hr, hlk', hK, hRe, hg⟩ := C
  subst hRe
  intro b hb0 H locs ls hP hS hl
  exact va_runS (Ts := []) (As := As) (rest := rest) ⟨hx, hb, hml, hown, fun w h => by cases h⟩ (hC l b hb0) ⟨call_b hK hM (hK.2.1 _ hlk rfl args) hR, hK.2.1 _ hstat rfl args⟩ ⟨pre_blind, fun U hU hW => pre_at hK hP hS U hU hW⟩ rfl hn (hl.1.1.trans hml) hstk (lv_room (by rw [hcat]; exact hlen)) hdg hroom
theorem J.callSN {host : String} (C : CX X g cc own ret nL R0) (hM : MS y cc' nL' ret' n) (hstat : Cond.static y ∈ lw_tbl) (hlk : Cond.methodLinkNest own idx y host ∈ lw_tbl) (hC : ∀ l, Ct l y cc' nL' ret' rm g an' ps' As S f) (hn : As.length = n) (hstk : stk = As.reverse ++ rest) {cn : Nat} (hcat : catn rest cn) (hlen : cn ≤ 8) (hR : rm.frames + 1 ≤ R0.frames ∧ 8 + (nL' + 11) + rm.locals ≤ R0.locals) (hroom : (cf S.2.2).1 + rm.cells ≤ R0.cells ∧ (cf S.2.2).2 + rm.slots ≤ R0.slots) (hcs : ∀ b, f = some b → (cf S.2.2).1 + rm.cells ≤ (cf (ps' b).2.2).1 ∧ (cf S.2.2).2 + rm.slots ≤ (cf (ps' b).2.2).2) (hdg : decode cc pc = .ok (.invokestatic idx, 3))
    (kk : ∀ b, J X g Q cf (pc + 3) lv ((an' b).toList ++ rest) (ps' b) (k b)) : J X g Q cf pc lv stk S (bnd f k) := by
  refine J.run (rm := rm) (aa := As.toArray) (rest := rest) hcs ?_ (fun b _ => kk b)
  obtain ⟨p, l, e, R, s, m, args, below, meth, c⟩ := X
  obtain ⟨hx, hb, hml, hown, hr, hlk', hK, hRe, hg⟩ := C
  subst hRe
  intro b hb0 H locs ls hP hS hl
  exact va_runSN (Ts := []) (As := As) (rest := rest) ⟨hx, hb, hml, hown, fun w h => by cases h⟩ (hC l b hb0) ⟨call_n hK hM (va_Nw.use rfl (hK.2.2.1 _ hlk rfl)) hR, hK.2.1 _ hstat rfl args, trivial⟩ ⟨pre_blind, fun U hU hW => pre_at hK hP hS U hU hW⟩ rfl hn (hl.1.1.trans hml) hstk (lv_room (by rw [hcat]; exact hlen)) hdg hroom
theorem HP.recv {s : State} {H : Heap} (hK : KU g s) (hP : HP g s S H) {a ci : Nat} {r : vw_C} (hr : vwCl[ci]? = some r) (hk : kd a = ci) (hn : a < S.2.2) : ∃ cell : Cell, H[ad g a]? = some cell ∧ cell.vm.isStatics = false ∧ s.vm.findClass r.1 = some cell.cls := by
  have hci := vw_get hr
  have ha := kd_hi hk hci
  obtain ⟨r', h1, cell, q1, q2, q3, q4⟩ := (hP.2.2.2 a (by omega) hn).1 (by omega)
  rw [hk] at h1 q2
  cases hr.symm.trans h1
  exact ⟨cell, q1, by rw [q3]; rfl, by rw [q2]; exact (hK.1.1 ci r hr).2.1⟩
theorem J.callV {a ci : Nat} {r : vw_C} (C : CX X g cc own ret nL R0) (hr : vwCl[ci]? = some r) (hyc : y.cls = r.1) (hM : MS y cc' nL' ret' n) (hin : Cond.instanceMethod y ∈ lw_tbl) (hsel : Cond.selects r.1 y y ∈ lw_tbl) (hlk : Cond.methodLink own idx y ∈ lw_tbl) (hC : ∀ l, Ct l y cc' nL' ret' rm g an' ps' (rv g a :: As) S f) (hn : As.length = n) (hstk : stk = As.reverse ++ rv g a :: rest) {cn : Nat} (hcat : catn rest cn) (hlen : cn ≤ 8) (hR : rm.frames + 1 ≤ R0.frames ∧ 8 + (nL' + 11) + rm.locals ≤ R0.locals) (hroom : (cf S.2.2).1 + rm.cells ≤ R0.cells ∧ (cf S.2.2).2 + rm.slots ≤ R0.slots) (hcs : ∀ b, f = some b → (cf S.2.2).1 + rm.cells ≤ (cf (ps' b).2.2).1 ∧ (cf S.2.2).2 + rm.slots ≤ (cf (ps' b).2.2).2) (hdg : decode cc pc = .ok (.invokevirtual idx, 3))
    (kk : ∀ b, J X g Q cf (pc + 3) lv ((an' b).toList ++ rest) (ps' b) (k b)) : J X g Q cf pc lv stk S (chk (okc S ci a) (bnd f k)) := by
  refine J.ck (fun hok => ?_)
  refine J.run (rm := rm) (aa := (rv g a :: As).toArray) (rest := rest) hcs ?_ (fun b _ => kk b)
  obtain ⟨p, l, e, R, s, m, args, below, meth, c⟩ := X
  obtain ⟨hx, hb, hml, hown, hr', hlk', hK, hRe, hg⟩ := C
  subst hRe
  intro b hb0 H locs ls hP hS hl
  have hC' := hC l b hb0
  have ha0 : a ≠ 0 := kd_pos hok.1 (by have := vw_get hr; omega)
  rw [rv_ref ha0] at hC' hstk ⊢
  have hM' : MS y cc' nL' ret' n := hM
  exact va_runV (Ts := []) (C := r.1) (As := As) (rest := rest) ⟨hx, hb, hml, hown, fun w h => by cases h⟩ hC' ⟨call_b hK hM' (hK.2.1 _ hlk rfl args) hR, hK.2.1 _ hin rfl args, hK.2.1 _ hsel rfl args⟩ ⟨pre_blind, hP.recv hK hr hok.1 hok.2, fun U hU hW => pre_at hK hP hS U hU hW⟩ rfl hn (hl.1.1.trans hml) hstk (lv_room (by rw [hcat]; exact hlen)) hdg hroom
theorem J.callI {a ci : Nat} {r : vw_C} (C : CX X g cc own ret nL R0) (hr : vwCl[ci]? = some r) (hM : MS y cc' nL' Option.none n) (hin : Cond.instanceMethod y ∈ lw_tbl) (hy1 : y.name = "<init>") (hlk : Cond.methodLink own idx y ∈ lw_tbl) (hC : ∀ l, Ct l y cc' nL' Option.none rm g an' ps' (rv g a :: As) S f) (hn : As.length = n) (hstk : stk = As.reverse ++ rv g a :: rest) {cn : Nat} (hcat : catn rest cn) (hlen : cn ≤ 8) (hR : rm.frames + 1 ≤ R0.frames ∧ 8 + (nL' + 11) + rm.locals ≤ R0.locals) (hroom : (cf S.2.2).1 + rm.cells ≤ R0.cells ∧ (cf S.2.2).2 + rm.slots ≤ R0.slots) (hcs : ∀ b, f = some b → (cf S.2.2).1 + rm.cells ≤ (cf (ps' b).2.2).1 ∧ (cf S.2.2).2 + rm.slots ≤ (cf (ps' b).2.2).2) (hdg : decode cc pc = .ok (.invokespecial idx, 3))
    (kk : ∀ b, J X g Q cf (pc + 3) lv ((an' b).toList ++ rest) (ps' b) (k b)) : J X g Q cf pc lv stk S (chk (okc S ci a) (bnd f k)) := by
  refine J.ck (fun hok => ?_)
  refine J.run (rm := rm) (aa := (rv g a :: As).toArray) (rest := rest) hcs ?_ (fun b _ => kk b)
  obtain ⟨p, l, e, R, s, m, args, below, meth, c⟩ := X
  obtain ⟨hx, hb, hml, hown, hr', hlk', hK, hRe, hg⟩ := C
  subst hRe
  intro b hb0 H locs ls hP hS hl
  have hC' := hC l b hb0
  have ha0 : a ≠ 0 := kd_pos hok.1 (by have := vw_get hr; omega)
  rw [rv_ref ha0] at hC' hstk ⊢
  exact va_runI (Ts := []) (As := As) (rest := rest) ⟨hx, hb, hml, hown, fun w h => by cases h⟩ hC' ⟨call_b hK hM (hK.2.1 _ hlk rfl args) hR, hy1, hK.2.1 _ hin rfl args⟩ ⟨pre_blind, fun U hU hW => pre_at hK hP hS U hU hW⟩ rfl hn (hl.1.1.trans hml) hstk (lv_room (by rw [hcat]; exact hlen)) hdg hroom
theorem J.callIN {host : String} {a ci : Nat} {r : vw_C} (C : CX X g cc own ret nL R0) (hr : vwCl[ci]? = some r) (hM : MS y cc' nL' Option.none n) (hin : Cond.instanceMethod y ∈ lw_tbl) (hy1 : y.name = "<init>") (hlk : Cond.methodLinkNest own idx y host ∈ lw_tbl) (hC : ∀ l, Ct l y cc' nL' Option.none rm g an' ps' (rv g a :: As) S f) (hn : As.length = n) (hstk : stk = As.reverse ++ rv g a :: rest) {cn : Nat} (hcat : catn rest cn) (hlen : cn ≤ 8) (hR : rm.frames + 1 ≤ R0.frames ∧ 8 + (nL' + 11) + rm.locals ≤ R0.locals) (hroom : (cf S.2.2).1 + rm.cells ≤ R0.cells ∧ (cf S.2.2).2 + rm.slots ≤ R0.slots) (hcs : ∀ b, f = some b → (cf S.2.2).1 + rm.cells ≤ (cf (ps' b).2.2).1 ∧ (cf S.2.2).2 + rm.slots ≤ (cf (ps' b).2.2).2) (hdg : decode cc pc = .ok (.invokespecial idx, 3))
    (kk : ∀ b, J X g Q cf (pc + 3) lv ((an' b).toList ++ rest) (ps' b) (k b)) : J X g Q cf pc lv stk S (chk (okc S ci a) (bnd f k)) := by
  refine J.ck (fun hok => ?_)
  refine J.run (rm := rm) (aa := (rv g a :: As).toArray) (rest := rest) hcs ?_ (fun b _ => kk b)
  obtain ⟨p, l, e, R, s, m, args, below, meth, c⟩ := X
  obtain ⟨hx, hb, hml, hown, hr', hlk', hK, hRe, hg⟩ := C
  subst hRe
  intro b hb0 H locs ls hP hS hl
  have hC' := hC l b hb0
  have ha0 : a ≠ 0 := kd_pos hok.1 (by have := vw_get hr; omega)
  rw [rv_ref ha0] at hC' hstk ⊢
  exact va_runIN (Ts := []) (As := As) (rest := rest) ⟨hx, hb, hml, hown, fun w h => by cases h⟩ hC' ⟨call_n hK hM (va_Nw.use rfl (hK.2.2.1 _ hlk rfl)) hR, hy1, hK.2.1 _ hin rfl args⟩ ⟨pre_blind, fun U hU hW => pre_at hK hP hS U hU hW⟩ rfl hn (hl.1.1.trans hml) hstk (lv_room (by rw [hcat]; exact hlen)) hdg hroom
/-- Object.<init> -/
theorem J.objInit (C : CX X g cc own ret nL R0) {a : Nat} (hlk : Cond.methodLink own idx Lib.objectInit ∈ lw_tbl) (hin : Cond.instanceMethod Lib.objectInit ∈ lw_tbl) (hcode : Cond.code Lib.objectInit ⟨#[0xb1]⟩ 1 Option.none ∈ lw_tbl) (hcat : cats st) (hR : 1 ≤ R0.frames ∧ st.length + 12 ≤ R0.locals) (hdg : decode cc pc = .ok (.invokespecial idx, 3)) (kk : J X g Q cf (pc + 3) lv st S o) : J X g Q cf pc lv (rv g a :: st) S (chk (¬ a = 0) o) := by
  refine J.ck (fun ha0 => ?_)
  obtain ⟨p, l, e, R, s, m, args, below, meth, c⟩ := X
  obtain ⟨hx, hb, hml, hown, hr', hlk', hK, hRe, hg⟩ := C
  subst hRe
  intro b hb0 H locs ls hP hS hl
  rw [rv_ref ha0]
  exact W.objInit hx hb hown (hK.2.1 _ hlk rfl args) (hK.2.1 _ hin rfl args) (hK.2.1 _ hcode rfl args) rfl hl.1.1 rfl hdg hR.1 (by rw [cats_sum hcat]; show 2 * 0 + _ + 12 ≤ _; omega) (kk b hb0 H locs ls hP hS hl)
end JR3
