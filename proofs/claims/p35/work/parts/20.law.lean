theorem kb_26 : (Int8.ofInt (26)).toInt32 = (26 : Int32) := by decide
theorem ks_20001 : (Int16.ofInt (20001)).toInt32 = (20001 : Int32) := by decide
theorem ks_401 : (Int16.ofInt (401)).toInt32 = (401 : Int32) := by decide
theorem wd_L_blinds : Cond.code yL_blinds cL_blinds 5 (some .boolean) ∈ lw_tbl := List.mem_of_getElem? (i := 557) (by decide +kernel)
theorem wd_L_camera : Cond.code yL_camera cL_camera 5 none ∈ lw_tbl := List.mem_of_getElem? (i := 444) (by decide +kernel)
theorem wd_L_fits : Cond.code yL_fits cL_fits 11 (some .boolean) ∈ lw_tbl := List.mem_of_getElem? (i := 561) (by decide +kernel)
theorem wd_L_forgets : Cond.code yL_forgets cL_forgets 8 (some .boolean) ∈ lw_tbl := List.mem_of_getElem? (i := 531) (by decide +kernel)
theorem wd_L_shoots : Cond.code yL_shoots cL_shoots 11 (some .boolean) ∈ lw_tbl := List.mem_of_getElem? (i := 492) (by decide +kernel)
theorem wd_L_turns : Cond.code yL_turns cL_turns 6 (some .boolean) ∈ lw_tbl := List.mem_of_getElem? (i := 545) (by decide +kernel)
theorem wd_X7_init : Cond.code yX7_init cX7_init 2 none ∈ lw_tbl := List.mem_of_getElem? (i := 29) (by decide +kernel)
theorem wd_X7_pass : Cond.code yX7_pass cX7_pass 2 (some .int) ∈ lw_tbl := List.mem_of_getElem? (i := 427) (by decide +kernel)
theorem wi_X7 : Cond.instantiable RX7 8 ∈ lw_tbl := List.mem_of_getElem? (i := 26) (by decide +kernel)
theorem wl_RL_9 : Cond.classLink RL 9 RX7 ∈ lw_tbl := List.mem_of_getElem? (i := 25) (by decide +kernel)
theorem wm_RL_100 : Cond.methodLink RL 100 yX7_init ∈ lw_tbl := List.mem_of_getElem? (i := 27) (by decide +kernel)
theorem wm_RL_101 : Cond.methodLink RL 101 yL_camera ∈ lw_tbl := List.mem_of_getElem? (i := 442) (by decide +kernel)
theorem wm_RL_105 : Cond.methodLink RL 105 yL_turns ∈ lw_tbl := List.mem_of_getElem? (i := 543) (by decide +kernel)
theorem wm_RL_109 : Cond.methodLink RL 109 yL_blinds ∈ lw_tbl := List.mem_of_getElem? (i := 555) (by decide +kernel)
theorem wm_RL_112 : Cond.methodLink RL 112 yL_forgets ∈ lw_tbl := List.mem_of_getElem? (i := 529) (by decide +kernel)
theorem wm_RL_115 : Cond.methodLink RL 115 yL_fits ∈ lw_tbl := List.mem_of_getElem? (i := 559) (by decide +kernel)
theorem wm_RL_118 : Cond.methodLink RL 118 yX7_pass ∈ lw_tbl := List.mem_of_getElem? (i := 424) (by decide +kernel)
theorem wm_RL_121 : Cond.methodLink RL 121 yL_shoots ∈ lw_tbl := List.mem_of_getElem? (i := 490) (by decide +kernel)
theorem wt_L_blinds : Cond.static yL_blinds ∈ lw_tbl := List.mem_of_getElem? (i := 556) (by decide +kernel)
theorem wt_L_camera : Cond.static yL_camera ∈ lw_tbl := List.mem_of_getElem? (i := 443) (by decide +kernel)
theorem wt_L_fits : Cond.static yL_fits ∈ lw_tbl := List.mem_of_getElem? (i := 560) (by decide +kernel)
theorem wt_L_forgets : Cond.static yL_forgets ∈ lw_tbl := List.mem_of_getElem? (i := 530) (by decide +kernel)
theorem wt_L_shoots : Cond.static yL_shoots ∈ lw_tbl := List.mem_of_getElem? (i := 491) (by decide +kernel)
theorem wt_L_turns : Cond.static yL_turns ∈ lw_tbl := List.mem_of_getElem? (i := 544) (by decide +kernel)
theorem wv_X7_init : Cond.instanceMethod yX7_init ∈ lw_tbl := List.mem_of_getElem? (i := 28) (by decide +kernel)
theorem wv_X7_pass : Cond.instanceMethod yX7_pass ∈ lw_tbl := List.mem_of_getElem? (i := 425) (by decide +kernel)
theorem wx_X7_pass : Cond.selects RX7 yX7_pass yX7_pass ∈ lw_tbl := List.mem_of_getElem? (i := 426) (by decide +kernel)
theorem ms_L_blinds : MSs yL_blinds cL_blinds 5 (some .boolean) 2 := ⟨⟨⟨wd_L_blinds, wz_RL⟩, by decide, by decide, by decide +kernel⟩, wt_L_blinds⟩
theorem ms_L_camera : MSs yL_camera cL_camera 5 none 2 := ⟨⟨⟨wd_L_camera, wz_RL⟩, by decide, by decide, by decide +kernel⟩, wt_L_camera⟩
theorem ms_L_fits : MSs yL_fits cL_fits 11 (some .boolean) 2 := ⟨⟨⟨wd_L_fits, wz_RL⟩, by decide, by decide, by decide +kernel⟩, wt_L_fits⟩
theorem ms_L_forgets : MSs yL_forgets cL_forgets 8 (some .boolean) 2 := ⟨⟨⟨wd_L_forgets, wz_RL⟩, by decide, by decide, by decide +kernel⟩, wt_L_forgets⟩
theorem ms_L_shoots : MSs yL_shoots cL_shoots 11 (some .boolean) 1 := ⟨⟨⟨wd_L_shoots, wz_RL⟩, by decide, by decide, by decide +kernel⟩, wt_L_shoots⟩
theorem ms_L_turns : MSs yL_turns cL_turns 6 (some .boolean) 3 := ⟨⟨⟨wd_L_turns, wz_RL⟩, by decide, by decide, by decide +kernel⟩, wt_L_turns⟩
theorem mi_X7_init : MSi 7 yX7_init cX7_init 2 0 := ⟨_, rfl, ⟨⟨wd_X7_init, wz_RX7⟩, by decide, by decide, by decide +kernel⟩, wv_X7_init, rfl⟩
theorem mv_X7_pass : MSv 7 yX7_pass cX7_pass 2 (some .int) 1 := ⟨_, rfl, rfl, ⟨⟨wd_X7_pass, wz_RX7⟩, by decide, by decide, by decide +kernel⟩, wv_X7_pass, wx_X7_pass⟩
-- ===== end of PART A; then your names; then what follows =====
/-! THE CLAIM OUT OF ONE WALK OF THE LAW'S BODY. Your part is whole_start (and what it stands on); all else here is the same for every law, but numbers. -/
def R_law : String := "RowVotesLaw"
def lw_P (b : Addr) (xs : List Int32) (args : Array Value) (s : State) : Prop := args = #[.ref b] ∧ s.IntsAt b xs ∧ xs.length ≤ 260 ∧ (Jvm.Cond.and given_1 narrow_1).before args s = true
def lw_Q (_ : Array Value) (s : State) (o : Outcome) (t : State) : Prop := o = .returned (some (.int 1)) ∧ Framed s o t [] 600000 7302249
def lw_Z (below : List Frame) (a : Array Value) (s : State) : State → Prop := fun t => ∃ o, t.status = .running ∧ Ended t below o ∧ lw_Q a s o t
/-- the law's own end, with 1 on the stack, nothing written that was there before, its room as the claim has it -/
theorem lw_ret {p : Program} {l : Launch} {e : Env} {s : State} {m : MethodId} {below : List Frame} {meth : Method} {c : Code} {b : Nat} (hx : p.tables.exec = Jvm.exec) (hb : c.code = code) (hr : meth.sig.returnType = ret) (hlocks : meth.locks = false) {pc : Nat} {H : Heap} {ls : Array Slot} (hdg : decode code pc = .ok (.ireturn, 1)) : W p l e room_1 s m #[Value.ref b] below meth c H [] 600000 7302249 (lw_Z below #[Value.ref b] s) (F0 m pc ls [.int 1]) := by
  intro T hT X
  obtain ⟨fs, hret, hrun, hended, hW, hframe⟩ := X.leave (v := some (.int 1)) (hlocks := hlocks) (fun h => by rw [hr] at h; cases h)
  have hmeth' : T.vm.method? m = some meth := X.method'
  refine ⟨T.setFrames fs, ?_, .returned (some (.int 1)), hrun, hended, rfl, ⟨_, rfl⟩, hW, hframe⟩
  jvm_step X.here [X.here.top, hx, hb, hdg, hmeth', hr, ret, narrow_b1]
  (try refine ⟨rfl, ?_⟩); (try refine ⟨rfl, ?_⟩)
  first | (intro acts; rw [hret _ acts rfl rfl rfl]) | rw [hret _ _ rfl rfl rfl]
  exact Steps.refl _
/-- what holds at the law's entry: the machine, the code, the tables' words (any of lw_tbl by 'hts w (by decide +kernel)'), the script of L ints xs at the cell b, what the Statement gives of the start (any of its parts by flat_of_before) -/
def lw_At (p : Program) (s : State) (m : MethodId) (meth : Method) (c : Code) (b L : Nat) (xs : Nat → Int32) : Prop :=
  p.tables.exec = Jvm.exec ∧ c.code = code ∧ meth.sig.returnType = ret ∧ c.maxLocals = 11 ∧ s.vm.findClass R_law = some m.cls ∧ (∀ w ∈ lw_tbl, w.before #[Value.ref b] s = true) ∧ va_X b L xs s s.heap ∧ b < s.heap.size ∧ meth.locks = false ∧ (Jvm.Cond.and given_1 narrow_1).before #[Value.ref b] s = true
section JL
variable {X : CT} {g : GG} {β : Type} {Q : β → State → Prop} {cf : Nat → Nat × Nat} {pc : Nat} {lv : List (Nat × Value)} {st : List Value} {S : St} {o : Option β} {cc : ByteArray} {own : String} {ret' : Option FieldType} {nL : Nat} {R0 : Room}
def Ql (X : CT) (r : Int32) : State → Prop :=
  match X with
  | (_, _, _, _, s, _, args, below, _, _) => if r = 1 then lw_Z below args s else fun _ => True
def SX (X : CT) (g : GG) : Prop :=
  match X with
  | (_, _, _, R, s, _, args, below, _, _) => g.1 = s.heap.size ∧ args = #[sv g] ∧ R = room_1
theorem J.lret1 (C : CX X g code own ret 11 R0) (hX : SX X g) (hc : (cf S.2.2).1 ≤ 600000 ∧ (cf S.2.2).2 ≤ 7302249) (hdg : decode code pc = .ok (.ireturn, 1)) : J X g (Ql X) cf pc lv [.int 1] S (some 1) := by
  obtain ⟨p, l, e, R, s, m, args, below, meth, c⟩ := X
  obtain ⟨hx, hb, hml, hown, hr, hlk, hK, hR, hg⟩ := C
  obtain ⟨x3, x4, x5⟩ := hX
  intro b' hb0 H locs ls hP hS hl
  cases hb0
  subst x4
  subst x5
  refine W.widen hc.1 hc.2 ?_
  refine va_forget (fun q hq => by rw [← x3]; exact hS.2.2 q hq) ?_
  have k := lw_ret (p := p) (l := l) (e := e) (s := s) (m := m) (below := below) (meth := meth) (c := c) (b := g.2.2.2.1) (H := H) (ls := ls) hx hb hr hlk hdg
  exact k
theorem J.lret0 : J X g (Ql X) cf pc lv st S (some 0) := by
  obtain ⟨p, l, e, R, s, m, args, below, meth, c⟩ := X
  intro b' hb0 H locs ls hP hS hl
  cases hb0
  intro T hT Xs
  exact ⟨_, Steps.refl _, trivial⟩
theorem J.toCw {w : Nat × Nat} (n : Nat) (hn : (cf n).1 ≤ w.1 ∧ (cf n).2 ≤ w.2) (kk : J X g Q (cw w) pc lv st S o) : J X g Q cf pc lv st S (chk (S.2.2 = n) o) := by
  refine J.ck (fun h => ?_)
  obtain ⟨p, l, e, R, s, m, args, below, meth, c⟩ := X
  intro b' hb0 H locs ls hP hS hl
  rw [h]
  exact W.widen hn.1 hn.2 (kk b' hb0 H locs ls hP hS hl)
end JL
