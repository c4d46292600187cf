/-! WALKS OVER THE FLAT STORE: J: from the frame at pc with the locals lv and the stack st, over any heap that holds S, if the computation o comes to b, the machine comes to Q b. -/
def lh (ls : Array Slot) (nL : Nat) (lv : List (Nat × Value)) : Prop := lv_has ls nL lv ∧ True
def J {β : Type} (X : CT) (g : GG) (Q : β → State → Prop) (cf : Nat → Nat × Nat) (pc : Nat) (lv : List (Nat × Value)) (st : List Value) (S : St) (o : Option β) : Prop :=
  match X with
  | (p, l, e, R, s, m, args, below, meth, c) => ∀ b, o = some b → ∀ (H : Heap) (locs : List Loc) (ls : Array Slot), HP g s S H → va_S (Ag g) s.heap H locs → lh ls c.maxLocals lv → W p l e R s m args below meth c H locs (cf S.2.2).1 (cf S.2.2).2 (Q b) (F0 m pc ls st)
def CX (X : CT) (g : GG) (cc : ByteArray) (own : String) (ret : Option FieldType) (nL : Nat) (R0 : Room) : Prop :=
  match X with
  | (p, l, e, R, s, m, args, below, meth, c) => p.tables.exec = Jvm.exec ∧ c.code = cc ∧ c.maxLocals = nL ∧ s.vm.findClass own = some m.cls ∧ meth.sig.returnType = ret ∧ meth.locks = false ∧ KU g s ∧ R = R0 ∧ g.1 ≤ s.heap.size
def lk : List (Nat × Value) → Nat → Option Value
  | [], _ => none
  | (j, w) :: t, i => if j = i then some w else lk t i
def insv : List (Nat × Value) → Nat → Value → List (Nat × Value)
  | [], i, v => [(i, v)]
  | (j, w) :: t, i, v => if i < j then (i, v) :: (j, w) :: t else (j, w) :: insv t i v
def delv : List (Nat × Value) → Nat → List (Nat × Value)
  | [], _ => []
  | (j, w) :: t, i => if j = i then delv t i else (j, w) :: delv t i
def lvset (lv : List (Nat × Value)) (i : Nat) (v : Value) : List (Nat × Value) := insv (delv lv i) i v
theorem lk_mem : ∀ (lv : List (Nat × Value)) {i : Nat} {v : Value}, lk lv i = some v → (i, v) ∈ lv
  | [], i, v, h => by cases h
  | (j, w) :: t, i, v, h => by
    unfold lk at h
    by_cases hj : j = i
    · rw [if_pos hj] at h
      cases h
      subst hj
      exact List.mem_cons_self
    · rw [if_neg hj] at h
      exact List.mem_cons_of_mem _ (lk_mem t h)
theorem mem_insv : ∀ (lv : List (Nat × Value)) {i : Nat} {v : Value} {q : Nat × Value}, q ∈ insv lv i v → q = (i, v) ∨ q ∈ lv
  | [], i, v, q, h => by
    unfold insv at h
    exact Or.inl (List.mem_singleton.mp h)
  | (j, w) :: t, i, v, q, h => by
    unfold insv at h
    by_cases hj : i < j
    · rw [if_pos hj] at h
      exact List.mem_cons.mp h
    · rw [if_neg hj] at h
      rcases List.mem_cons.mp h with h | h
      · exact Or.inr (by rw [h]; exact List.mem_cons_self)
      · rcases mem_insv t h with h | h
        · exact Or.inl h
        · exact Or.inr (List.mem_cons_of_mem _ h)
theorem mem_delv : ∀ (lv : List (Nat × Value)) {i : Nat} {q : Nat × Value}, q ∈ delv lv i → q ∈ lv ∧ q.1 ≠ i
  | [], i, q, h => by cases h
  | (j, w) :: t, i, q, h => by
    unfold delv at h
    by_cases hj : j = i
    · rw [if_pos hj] at h
      exact ⟨List.mem_cons_of_mem _ (mem_delv t h).1, (mem_delv t h).2⟩
    · rw [if_neg hj] at h
      rcases List.mem_cons.mp h with h | h
      · exact ⟨by rw [h]; exact List.mem_cons_self, by rw [h]; exact hj⟩
      · exact ⟨List.mem_cons_of_mem _ (mem_delv t h).1, (mem_delv t h).2⟩
theorem lh.at {ls : Array Slot} {nL : Nat} {lv : List (Nat × Value)} (h : lh ls nL lv) {i : Nat} {v : Value} (hk : lk lv i = some v) : ls[i]? = some (.val v) := h.1.2.2 (i, v) (lk_mem lv hk)
theorem lh.sub {ls : Array Slot} {nL : Nat} {lv lv' : List (Nat × Value)} (h : lh ls nL lv) (hs : ∀ q ∈ lv', q ∈ lv) : lh ls nL lv' := ⟨⟨h.1.1, h.1.2.1, fun q hq => h.1.2.2 q (hs q hq)⟩, trivial⟩
/-- no long of lv reaches over the slot i -/
def lsf (i : Nat) (lv : List (Nat × Value)) : Prop := ∀ q ∈ lv, q.1 + 1 = i → q.2.category = 1
theorem lsf_n {i : Nat} : lsf i [] := fun _ h => by cases h
theorem lsf_c {i j : Nat} {v : Value} {lv : List (Nat × Value)} (hv : v.category = 1) (h : lsf i lv) : lsf i ((j, v) :: lv) := fun q hq e => by
  rcases List.mem_cons.mp hq with h1 | h1
  · rw [h1]; exact hv
  · exact h q h1 e
theorem lsf_i {i j : Nat} {x : Int32} {lv : List (Nat × Value)} (h : lsf i lv) : lsf i ((j, .int x) :: lv) := lsf_c rfl h
theorem lsf_r {g : GG} {i j x : Nat} {lv : List (Nat × Value)} (h : lsf i lv) : lsf i ((j, rv g x) :: lv) := lsf_c (rv_cat g x) h
theorem lsf_s {g : GG} {i j : Nat} {lv : List (Nat × Value)} (h : lsf i lv) : lsf i ((j, sv g) :: lv) := lsf_c rfl h
theorem lsf_l {i j : Nat} {x : Int64} {lv : List (Nat × Value)} (hj : j + 1 ≠ i) (h : lsf i lv) : lsf i ((j, .long x) :: lv) := fun q hq e => by
  rcases List.mem_cons.mp hq with h1 | h1
  · rw [h1] at e; exact absurd e hj
  · exact h q h1 e
theorem mem_lvset {lv : List (Nat × Value)} {i : Nat} {v : Value} {q : Nat × Value} (hq : q ∈ lvset lv i v) : q = (i, v) ∨ (q ∈ lv ∧ q.1 ≠ i) := by
  rcases mem_insv _ hq with h1 | h1
  · exact Or.inl h1
  · exact Or.inr (mem_delv _ h1)
theorem lh.set {ls ls' : Array Slot} {nL : Nat} {lv : List (Nat × Value)} (h : lh ls nL lv) {i : Nat} {v : Value} (hf : lsf i lv) (h' : lv_has ls' nL ((i, v) :: lv.filter (fun q => !(q.1 == i) && !(q.1 + 1 == i && q.2.category == 2)))) : lh ls' nL (lvset lv i v) := by
  refine ⟨⟨h'.1, h'.2.1, fun q hq => h'.2.2 q ?_⟩, trivial⟩
  rcases mem_lvset hq with h1 | ⟨h1, h2⟩
  · rw [h1]; exact List.mem_cons_self
  · refine List.mem_cons_of_mem _ (List.mem_filter.mpr ⟨h1, ?_⟩)
    by_cases e : q.1 + 1 = i
    · have hc := hf q h1 e
      simp [h2, hc]
    · simp [h2, e]
def lvset2 (lv : List (Nat × Value)) (i : Nat) (v : Value) : List (Nat × Value) := insv (delv (delv lv i) (i + 1)) i v
theorem lh.set2 {ls ls' : Array Slot} {nL : Nat} {lv : List (Nat × Value)} (h : lh ls nL lv) {i : Nat} {v : Value} (hf : lsf i lv) (h' : lv_has ls' nL ((i, v) :: lv.filter (fun q => !(q.1 == i) && (!(q.1 == i + 1) && !(q.1 + 1 == i && q.2.category == 2))))) : lh ls' nL (lvset2 lv i v) := by
  refine ⟨⟨h'.1, h'.2.1, fun q hq => h'.2.2 q ?_⟩, trivial⟩
  rcases mem_insv _ hq with h1 | h1
  · rw [h1]; exact List.mem_cons_self
  · obtain ⟨h2, h3⟩ := mem_delv _ h1
    obtain ⟨h4, h5⟩ := mem_delv _ h2
    refine List.mem_cons_of_mem _ (List.mem_filter.mpr ⟨h4, ?_⟩)
    by_cases e : q.1 + 1 = i
    · have hc := hf q h4 e
      simp [h5, h3, hc]
    · simp [h5, h3, e]
theorem HP.free {g : GG} {U : State} {S : St} {H : Heap} (h : HP g U S H) : g.1 ≤ H.size := by
  rw [h.2.1]; omega
section JR
variable {β : Type} {X : CT} {g : GG} {Q : β → State → Prop} {cf : Nat → Nat × Nat} {pc : Nat} {lv : List (Nat × Value)} {st : List Value} {S : St} {o o1 o2 : Option β} {cc : ByteArray} {own : String} {ret : Option FieldType} {nL : Nat} {R0 : Room}
theorem J.none : J X g Q cf pc lv st S (none : Option β) := by
  obtain ⟨p, l, e, R, s, m, args, below, meth, c⟩ := X
  intro b hb
  cases hb
theorem J.sub {lv' : List (Nat × Value)} (hs : ∀ q ∈ lv', q ∈ lv) (kk : J X g Q cf pc lv' st S o) : J X g Q cf pc lv st S o := by
  obtain ⟨p, l, e, R, s, m, args, below, meth, c⟩ := X
  intro b hb H locs ls hP hS hl
  exact kk b hb H locs ls hP hS (hl.sub hs)
theorem J.ite {cnd : Prop} [Decidable cnd] (kt : cnd → J X g Q cf pc lv st S o1) (kf : ¬ cnd → J X g Q cf pc lv st S o2) : J X g Q cf pc lv st S (if cnd then o1 else o2) := by
  by_cases h : cnd
  · rw [if_pos h]; exact kt h
  · rw [if_neg h]; exact kf h
theorem J.ck {cnd : Prop} [Decidable cnd] (kt : cnd → J X g Q cf pc lv st S o) : J X g Q cf pc lv st S (chk cnd o) := by
  by_cases h : cnd
  · rw [show chk cnd o = o from if_pos h]
    exact kt h
  · rw [show chk cnd o = Option.none from if_neg h]
    exact J.none
theorem J.iconst (C : CX X g cc own ret nL R0) {n : Int} {v : Int32} (hdg : decode cc pc = .ok (.iconst n, 1)) (hv : Int32.ofInt n = v) (kk : J X g Q cf (pc + 1) lv (.int v :: st) S o) : J X g Q cf pc lv st S o := by
  obtain ⟨p, l, e, R, s, m, args, below, meth, c⟩ := X
  obtain ⟨hx, hb, hml, hown, hr, hlk, hK, hR, hg⟩ := C
  intro b hb0 H locs ls hP hS hl
  exact lv_iconst hx hb hdg hv (kk b hb0 H locs ls hP hS hl)
theorem J.bipush (C : CX X g cc own ret nL R0) {n : Int} {v : Int32} (hdg : decode cc pc = .ok (.bipush n, 2)) (hv : (Int8.ofInt n).toInt32 = v) (kk : J X g Q cf (pc + 2) lv (.int v :: st) S o) : J X g Q cf pc lv st S o := by
  obtain ⟨p, l, e, R, s, m, args, below, meth, c⟩ := X
  obtain ⟨hx, hb, hml, hown, hr, hlk, hK, hR, hg⟩ := C
  intro b hb0 H locs ls hP hS hl
  exact lv_bipush hx hb hdg hv (kk b hb0 H locs ls hP hS hl)
theorem J.sipush (C : CX X g cc own ret nL R0) {n : Int} {v : Int32} (hdg : decode cc pc = .ok (.sipush n, 3)) (hv : (Int16.ofInt n).toInt32 = v) (kk : J X g Q cf (pc + 3) lv (.int v :: st) S o) : J X g Q cf pc lv st S o := by
  obtain ⟨p, l, e, R, s, m, args, below, meth, c⟩ := X
  obtain ⟨hx, hb, hml, hown, hr, hlk, hK, hR, hg⟩ := C
  intro b hb0 H locs ls hP hS hl
  exact lv_sipush hx hb hdg hv (kk b hb0 H locs ls hP hS hl)
theorem J.ldc (C : CX X g cc own ret nL R0) {idx : Nat} {v : Int32} (hw : Cond.constant own idx v ∈ lw_tbl) (hdg : decode cc pc = .ok (.ldc idx, 2)) (kk : J X g Q cf (pc + 2) lv (.int v :: st) S o) : J X g Q cf pc lv st S o := by
  obtain ⟨p, l, e, R, s, m, args, below, meth, c⟩ := X
  obtain ⟨hx, hb, hml, hown, hr, hlk, hK, hR, hg⟩ := C
  intro b hb0 H locs ls hP hS hl
  exact lv_ldc hx hb hown (hK.2.1 _ hw rfl args) hdg (kk b hb0 H locs ls hP hS hl)
theorem J.ldcw (C : CX X g cc own ret nL R0) {idx : Nat} {v : Int32} (hw : Cond.constant own idx v ∈ lw_tbl) (hdg : decode cc pc = .ok (.ldc_w idx, 3)) (kk : J X g Q cf (pc + 3) lv (.int v :: st) S o) : J X g Q cf pc lv st S o := by
  obtain ⟨p, l, e, R, s, m, args, below, meth, c⟩ := X
  obtain ⟨hx, hb, hml, hown, hr, hlk, hK, hR, hg⟩ := C
  intro b hb0 H locs ls hP hS hl
  exact lv_ldcw hx hb hown (hK.2.1 _ hw rfl args) hdg (kk b hb0 H locs ls hP hS hl)
theorem J.iload_n (C : CX X g cc own ret nL R0) {k : Fin 4} {i : Nat} {x : Int32} (hdg : decode cc pc = .ok (.iload_n k, 1)) (hi : (k : Nat) = i) (h : lk lv i = some (.int x)) (kk : J X g Q cf (pc + 1) lv (.int x :: st) S o) : J X g Q cf pc lv st S o := by
  obtain ⟨p, l, e, R, s, m, args, below, meth, c⟩ := X
  obtain ⟨hx, hb, hml, hown, hr, hlk, hK, hR, hg⟩ := C
  intro b hb0 H locs ls hP hS hl
  exact lv_iload_n hx hb hdg hi (hl.at h) (kk b hb0 H locs ls hP hS hl)
theorem J.iload (C : CX X g cc own ret nL R0) {i : Nat} {x : Int32} (hdg : decode cc pc = .ok (.iload i, 2)) (h : lk lv i = some (.int x)) (kk : J X g Q cf (pc + 2) lv (.int x :: st) S o) : J X g Q cf pc lv st S o := by
  obtain ⟨p, l, e, R, s, m, args, below, meth, c⟩ := X
  obtain ⟨hx, hb, hml, hown, hr, hlk, hK, hR, hg⟩ := C
  intro b hb0 H locs ls hP hS hl
  exact lv_iload hx hb hdg (hl.at h) (kk b hb0 H locs ls hP hS hl)
theorem J.aload_n (C : CX X g cc own ret nL R0) {k : Fin 4} {i x : Nat} (hdg : decode cc pc = .ok (.aload_n k, 1)) (hi : (k : Nat) = i) (h : lk lv i = some (rv g x)) (kk : J X g Q cf (pc + 1) lv (rv g x :: st) S o) : J X g Q cf pc lv st S o := by
  obtain ⟨p, l, e, R, s, m, args, below, meth, c⟩ := X
  obtain ⟨hx, hb, hml, hown, hr, hlk, hK, hR, hg⟩ := C
  intro b hb0 H locs ls hP hS hl
  have k1 := kk b hb0 H locs ls hP hS hl
  have h1 := hl.at h
  unfold rv at h1 k1
  by_cases hz : x = 0
  · rw [if_pos hz] at h1 k1
    exact lv_aload_nN hx hb hdg hi h1 k1
  · rw [if_neg hz] at h1 k1
    exact lv_aload_n hx hb hdg hi h1 k1
theorem J.aload (C : CX X g cc own ret nL R0) {i x : Nat} (hdg : decode cc pc = .ok (.aload i, 2)) (h : lk lv i = some (rv g x)) (kk : J X g Q cf (pc + 2) lv (rv g x :: st) S o) : J X g Q cf pc lv st S o := by
  obtain ⟨p, l, e, R, s, m, args, below, meth, c⟩ := X
  obtain ⟨hx, hb, hml, hown, hr, hlk, hK, hR, hg⟩ := C
  intro b hb0 H locs ls hP hS hl
  have k1 := kk b hb0 H locs ls hP hS hl
  have h1 := hl.at h
  unfold rv at h1 k1
  by_cases hz : x = 0
  · rw [if_pos hz] at h1 k1
    exact lv_aloadN hx hb hdg h1 k1
  · rw [if_neg hz] at h1 k1
    exact lv_aload hx hb hdg h1 k1
theorem J.istore_n (C : CX X g cc own ret nL R0) {k : Fin 4} {i : Nat} {x : Int32} (hdg : decode cc pc = .ok (.istore_n k, 1)) (hi : (k : Nat) = i) {lv' : List (Nat × Value)} (hn : i < nL) (hf : lsf i lv) (hlv : lvset lv i (.int x) = lv') (kk : J X g Q cf (pc + 1) lv' st S o) : J X g Q cf pc lv ((.int x) :: st) S o := by
  obtain ⟨p, l, e, R, s, m, args, below, meth, c⟩ := X
  obtain ⟨hx, hb, hml, hown, hr, hlk, hK, hR, hg⟩ := C
  subst hlv
  intro b hb0 H locs ls hP hS hl
  have hn2 : i < c.maxLocals := by rw [hml]; exact hn
  exact lv_istore_n hx hb hdg hi hl.1 hn2 rfl (fun ls1 h1 => kk b hb0 H locs ls1 hP hS (hl.set hf h1))
theorem J.istore (C : CX X g cc own ret nL R0) {i : Nat} {x : Int32} (hdg : decode cc pc = .ok (.istore i, 2)) {lv' : List (Nat × Value)} (hn : i < nL) (hf : lsf i lv) (hlv : lvset lv i (.int x) = lv') (kk : J X g Q cf (pc + 2) lv' st S o) : J X g Q cf pc lv ((.int x) :: st) S o := by
  obtain ⟨p, l, e, R, s, m, args, below, meth, c⟩ := X
  obtain ⟨hx, hb, hml, hown, hr, hlk, hK, hR, hg⟩ := C
  subst hlv
  intro b hb0 H locs ls hP hS hl
  have hn2 : i < c.maxLocals := by rw [hml]; exact hn
  exact lv_istore hx hb hdg hl.1 hn2 rfl (fun ls1 h1 => kk b hb0 H locs ls1 hP hS (hl.set hf h1))
theorem J.astore_n (C : CX X g cc own ret nL R0) {k : Fin 4} {i x : Nat} (hdg : decode cc pc = .ok (.astore_n k, 1)) (hi : (k : Nat) = i) {lv' : List (Nat × Value)} (hn : i < nL) (hf : lsf i lv) (hlv : lvset lv i (rv g x) = lv') (kk : J X g Q cf (pc + 1) lv' st S o) : J X g Q cf pc lv ((rv g x) :: st) S o := by
  obtain ⟨p, l, e, R, s, m, args, below, meth, c⟩ := X
  obtain ⟨hx, hb, hml, hown, hr, hlk, hK, hR, hg⟩ := C
  subst hlv
  intro b hb0 H locs ls hP hS hl
  have hn2 : i < c.maxLocals := by rw [hml]; exact hn
  have k1 : ∀ ls1 : Array Slot, lv_has ls1 c.maxLocals ((i, rv g x) :: lv.filter (fun q => !(q.1 == i) && !(q.1 + 1 == i && q.2.category == 2))) → _ := fun ls1 h1 => kk b hb0 H locs ls1 hP hS (hl.set hf h1)
  unfold rv at k1 ⊢
  by_cases hz : x = 0
  · rw [if_pos hz] at k1 ⊢
    exact lv_astore_nN hx hb hdg hi hl.1 hn2 rfl k1
  · rw [if_neg hz] at k1 ⊢
    exact lv_astore_n hx hb hdg hi hl.1 hn2 rfl k1
theorem J.astore (C : CX X g cc own ret nL R0) {i x : Nat} (hdg : decode cc pc = .ok (.astore i, 2)) {lv' : List (Nat × Value)} (hn : i < nL) (hf : lsf i lv) (hlv : lvset lv i (rv g x) = lv') (kk : J X g Q cf (pc + 2) lv' st S o) : J X g Q cf pc lv ((rv g x) :: st) S o := by
  obtain ⟨p, l, e, R, s, m, args, below, meth, c⟩ := X
  obtain ⟨hx, hb, hml, hown, hr, hlk, hK, hR, hg⟩ := C
  subst hlv
  intro b hb0 H locs ls hP hS hl
  have hn2 : i < c.maxLocals := by rw [hml]; exact hn
  have k1 : ∀ ls1 : Array Slot, lv_has ls1 c.maxLocals ((i, rv g x) :: lv.filter (fun q => !(q.1 == i) && !(q.1 + 1 == i && q.2.category == 2))) → _ := fun ls1 h1 => kk b hb0 H locs ls1 hP hS (hl.set hf h1)
  unfold rv at k1 ⊢
  by_cases hz : x = 0
  · rw [if_pos hz] at k1 ⊢
    exact lv_astoreN hx hb hdg hl.1 hn2 rfl k1
  · rw [if_neg hz] at k1 ⊢
    exact lv_astore hx hb hdg hl.1 hn2 rfl k1
theorem J.iinc (C : CX X g cc own ret nL R0) {i : Nat} {n : Int} {x v : Int32} {lv' : List (Nat × Value)} (hdg : decode cc pc = .ok (.iinc i n, 3)) (h : lk lv i = some (.int x)) (hn : i < nL) (hf : lsf i lv) (hv : Int32.ofInt n = v) (hlv : lvset lv i (.int (x + v)) = lv') (kk : J X g Q cf (pc + 3) lv' st S o) : J X g Q cf pc lv st S o := by
  obtain ⟨p, l, e, R, s, m, args, below, meth, c⟩ := X
  obtain ⟨hx, hb, hml, hown, hr, hlk, hK, hR, hg⟩ := C
  subst hlv
  subst hv
  intro b hb0 H locs ls hP hS hl
  have hn2 : i < c.maxLocals := by rw [hml]; exact hn
  obtain ⟨k, hk⟩ := List.getElem?_of_mem (lk_mem lv h)
  exact lv_iinc hx hb hdg hl.1 hk rfl hn2 rfl (fun ls1 h1 => kk b hb0 H locs ls1 hP hS (hl.set hf h1))
theorem J.iadd (C : CX X g cc own ret nL R0) {x y : Int32} (hdg : decode cc pc = .ok (.iadd, 1)) (kk : J X g Q cf (pc + 1) lv (.int (x + y) :: st) S o) : J X g Q cf pc lv (.int y :: .int x :: st) S o := by
  obtain ⟨p, l, e, R, s, m, args, below, meth, c⟩ := X
  obtain ⟨hx, hb, hml, hown, hr, hlk, hK, hR, hg⟩ := C
  intro b hb0 H locs ls hP hS hl
  exact lv_iadd hx hb hdg (kk b hb0 H locs ls hP hS hl)
theorem J.isub (C : CX X g cc own ret nL R0) {x y : Int32} (hdg : decode cc pc = .ok (.isub, 1)) (kk : J X g Q cf (pc + 1) lv (.int (x - y) :: st) S o) : J X g Q cf pc lv (.int y :: .int x :: st) S o := by
  obtain ⟨p, l, e, R, s, m, args, below, meth, c⟩ := X
  obtain ⟨hx, hb, hml, hown, hr, hlk, hK, hR, hg⟩ := C
  intro b hb0 H locs ls hP hS hl
  exact lv_isub hx hb hdg (kk b hb0 H locs ls hP hS hl)
theorem J.imul (C : CX X g cc own ret nL R0) {x y : Int32} (hdg : decode cc pc = .ok (.imul, 1)) (kk : J X g Q cf (pc + 1) lv (.int (x * y) :: st) S o) : J X g Q cf pc lv (.int y :: .int x :: st) S o := by
  obtain ⟨p, l, e, R, s, m, args, below, meth, c⟩ := X
  obtain ⟨hx, hb, hml, hown, hr, hlk, hK, hR, hg⟩ := C
  intro b hb0 H locs ls hP hS hl
  exact lv_imul hx hb hdg (kk b hb0 H locs ls hP hS hl)
theorem J.iand (C : CX X g cc own ret nL R0) {x y : Int32} (hdg : decode cc pc = .ok (.iand, 1)) (kk : J X g Q cf (pc + 1) lv (.int (x &&& y) :: st) S o) : J X g Q cf pc lv (.int y :: .int x :: st) S o := by
  obtain ⟨p, l, e, R, s, m, args, below, meth, c⟩ := X
  obtain ⟨hx, hb, hml, hown, hr, hlk, hK, hR, hg⟩ := C
  intro b hb0 H locs ls hP hS hl
  exact lv_iand hx hb hdg (kk b hb0 H locs ls hP hS hl)
theorem J.ior (C : CX X g cc own ret nL R0) {x y : Int32} (hdg : decode cc pc = .ok (.ior, 1)) (kk : J X g Q cf (pc + 1) lv (.int (x ||| y) :: st) S o) : J X g Q cf pc lv (.int y :: .int x :: st) S o := by
  obtain ⟨p, l, e, R, s, m, args, below, meth, c⟩ := X
  obtain ⟨hx, hb, hml, hown, hr, hlk, hK, hR, hg⟩ := C
  intro b hb0 H locs ls hP hS hl
  exact lv_ior hx hb hdg (kk b hb0 H locs ls hP hS hl)
theorem J.ixor (C : CX X g cc own ret nL R0) {x y : Int32} (hdg : decode cc pc = .ok (.ixor, 1)) (kk : J X g Q cf (pc + 1) lv (.int (x ^^^ y) :: st) S o) : J X g Q cf pc lv (.int y :: .int x :: st) S o := by
  obtain ⟨p, l, e, R, s, m, args, below, meth, c⟩ := X
  obtain ⟨hx, hb, hml, hown, hr, hlk, hK, hR, hg⟩ := C
  intro b hb0 H locs ls hP hS hl
  exact lv_ixor hx hb hdg (kk b hb0 H locs ls hP hS hl)
theorem J.ishl (C : CX X g cc own ret nL R0) {x y : Int32} (hdg : decode cc pc = .ok (.ishl, 1)) (kk : J X g Q cf (pc + 1) lv (.int (x <<< (y &&& 31)) :: st) S o) : J X g Q cf pc lv (.int y :: .int x :: st) S o := by
  obtain ⟨p, l, e, R, s, m, args, below, meth, c⟩ := X
  obtain ⟨hx, hb, hml, hown, hr, hlk, hK, hR, hg⟩ := C
  intro b hb0 H locs ls hP hS hl
  exact lv_ishl hx hb hdg (kk b hb0 H locs ls hP hS hl)
theorem J.ishr (C : CX X g cc own ret nL R0) {x y : Int32} (hdg : decode cc pc = .ok (.ishr, 1)) (kk : J X g Q cf (pc + 1) lv (.int (x >>> (y &&& 31)) :: st) S o) : J X g Q cf pc lv (.int y :: .int x :: st) S o := by
  obtain ⟨p, l, e, R, s, m, args, below, meth, c⟩ := X
  obtain ⟨hx, hb, hml, hown, hr, hlk, hK, hR, hg⟩ := C
  intro b hb0 H locs ls hP hS hl
  exact lv_ishr hx hb hdg (kk b hb0 H locs ls hP hS hl)
theorem J.ineg (C : CX X g cc own ret nL R0) {x : Int32} (hdg : decode cc pc = .ok (.ineg, 1)) (kk : J X g Q cf (pc + 1) lv (.int (-x) :: st) S o) : J X g Q cf pc lv (.int x :: st) S o := by
  obtain ⟨p, l, e, R, s, m, args, below, meth, c⟩ := X
  obtain ⟨hx, hb, hml, hown, hr, hlk, hK, hR, hg⟩ := C
  intro b hb0 H locs ls hP hS hl
  exact lv_ineg hx hb hdg (kk b hb0 H locs ls hP hS hl)
theorem J.iushr (C : CX X g cc own ret nL R0) {x y : Int32} (hdg : decode cc pc = .ok (.iushr, 1)) (kk : J X g Q cf (pc + 1) lv (.int (x.toUInt32 >>> (y.toUInt32 &&& Int32.toUInt32 31)).toInt32 :: st) S o) : J X g Q cf pc lv (.int y :: .int x :: st) S o := by
  obtain ⟨p, l, e, R, s, m, args, below, meth, c⟩ := X
  obtain ⟨hx, hb, hml, hown, hr, hlk, hK, hR, hg⟩ := C
  intro b hb0 H locs ls hP hS hl
  exact lv_iushr hx hb hdg rfl (kk b hb0 H locs ls hP hS hl)
theorem J.i2c (C : CX X g cc own ret nL R0) {x : Int32} (hdg : decode cc pc = .ok (.i2c, 1)) (kk : J X g Q cf (pc + 1) lv (.int (x.toUInt32 % 65536).toInt32 :: st) S o) : J X g Q cf pc lv (.int x :: st) S o := by
  obtain ⟨p, l, e, R, s, m, args, below, meth, c⟩ := X
  obtain ⟨hx, hb, hml, hown, hr, hlk, hK, hR, hg⟩ := C
  intro b hb0 H locs ls hP hS hl
  exact lv_i2c hx hb hdg rfl (kk b hb0 H locs ls hP hS hl)
theorem J.dup (C : CX X g cc own ret nL R0) {v : Value} (hdg : decode cc pc = .ok (.dup, 1)) (hv : v.category = 1) (kk : J X g Q cf (pc + 1) lv (v :: v :: st) S o) : J X g Q cf pc lv (v :: st) S o := by
  obtain ⟨p, l, e, R, s, m, args, below, meth, c⟩ := X
  obtain ⟨hx, hb, hml, hown, hr, hlk, hK, hR, hg⟩ := C
  intro b hb0 H locs ls hP hS hl
  exact lv_dup hx hb hdg hv (kk b hb0 H locs ls hP hS hl)
theorem J.dup2 (C : CX X g cc own ret nL R0) {v w : Value} (hdg : decode cc pc = .ok (.dup2, 1)) (hv : v.category = 1) (hw : w.category = 1) (kk : J X g Q cf (pc + 1) lv (v :: w :: v :: w :: st) S o) : J X g Q cf pc lv (v :: w :: st) S o := by
  obtain ⟨p, l, e, R, s, m, args, below, meth, c⟩ := X
  obtain ⟨hx, hb, hml, hown, hr, hlk, hK, hR, hg⟩ := C
  intro b hb0 H locs ls hP hS hl
  exact lv_dup2_11 hx hb hdg hv hw (kk b hb0 H locs ls hP hS hl)
theorem J.pop (C : CX X g cc own ret nL R0) {v : Value} (hdg : decode cc pc = .ok (.pop, 1)) (hv : v.category = 1) (kk : J X g Q cf (pc + 1) lv st S o) : J X g Q cf pc lv (v :: st) S o := by
  obtain ⟨p, l, e, R, s, m, args, below, meth, c⟩ := X
  obtain ⟨hx, hb, hml, hown, hr, hlk, hK, hR, hg⟩ := C
  intro b hb0 H locs ls hP hS hl
  exact lv_pop hx hb hdg hv (kk b hb0 H locs ls hP hS hl)
theorem J.anull (C : CX X g cc own ret nL R0) (hdg : decode cc pc = .ok (.aconst_null, 1)) (kk : J X g Q cf (pc + 1) lv (rv g 0 :: st) S o) : J X g Q cf pc lv st S o := by
  obtain ⟨p, l, e, R, s, m, args, below, meth, c⟩ := X
  obtain ⟨hx, hb, hml, hown, hr, hlk, hK, hR, hg⟩ := C
  intro b hb0 H locs ls hP hS hl
  exact lv_null hx hb hdg (kk b hb0 H locs ls hP hS hl)
theorem J.goto (C : CX X g cc own ret nL R0) {off : Int} {tgt : Nat} (hdg : decode cc pc = .ok (.goto off, 3)) (ht : (pc : Int) + off = (tgt : Int)) (kk : J X g Q cf tgt lv st S o) : J X g Q cf pc lv st S o := by
  obtain ⟨p, l, e, R, s, m, args, below, meth, c⟩ := X
  obtain ⟨hx, hb, hml, hown, hr, hlk, hK, hR, hg⟩ := C
  intro b hb0 H locs ls hP hS hl
  exact lv_goto hx hb hdg ht (kk b hb0 H locs ls hP hS hl)
theorem J.idiv (C : CX X g cc own ret nL R0) {x y : Int32} (hdg : decode cc pc = .ok (.idiv, 1)) (kk : J X g Q cf (pc + 1) lv (.int (x / y) :: st) S o) : J X g Q cf pc lv (.int y :: .int x :: st) S (chk (¬ y = 0) o) := by
  obtain ⟨p, l, e, R, s, m, args, below, meth, c⟩ := X
  obtain ⟨hx, hb, hml, hown, hr, hlk, hK, hR, hg⟩ := C
  intro b hb0 H locs ls hP hS hl
  obtain ⟨hok, hb1⟩ := chk_some hb0
  exact lv_idiv hx hb hdg hok (kk b hb1 H locs ls hP hS hl)
theorem J.irem (C : CX X g cc own ret nL R0) {x y : Int32} (hdg : decode cc pc = .ok (.irem, 1)) (kk : J X g Q cf (pc + 1) lv (.int (x - x / y * y) :: st) S o) : J X g Q cf pc lv (.int y :: .int x :: st) S (chk (¬ y = 0) o) := by
  obtain ⟨p, l, e, R, s, m, args, below, meth, c⟩ := X
  obtain ⟨hx, hb, hml, hown, hr, hlk, hK, hR, hg⟩ := C
  intro b hb0 H locs ls hP hS hl
  obtain ⟨hok, hb1⟩ := chk_some hb0
  exact lv_irem hx hb hdg hok (kk b hb1 H locs ls hP hS hl)
theorem J.icmp_eq (C : CX X g cc own ret nL R0) {x y : Int32} {off : Int} {tgt : Nat} (hdg : decode cc pc = .ok (.if_icmp .eq off, 3)) (ht : (pc : Int) + off = (tgt : Int)) (kt : J X g Q cf tgt lv st S o1) (kf : J X g Q cf (pc + 3) lv st S o2) : J X g Q cf pc lv (.int y :: .int x :: st) S (if x = y then o1 else o2) := by
  obtain ⟨p, l, e, R, s, m, args, below, meth, c⟩ := X
  obtain ⟨hx, hb, hml, hown, hr, hlk, hK, hR, hg⟩ := C
  intro b hb0 H locs ls hP hS hl
  exact lv_icmp_eq hx hb hdg ht (fun h => kt b (by rw [if_pos h] at hb0; exact hb0) H locs ls hP hS hl) (fun h => kf b (by rw [if_neg h] at hb0; exact hb0) H locs ls hP hS hl)
theorem J.if_eq (C : CX X g cc own ret nL R0) {x : Int32} {off : Int} {tgt : Nat} (hdg : decode cc pc = .ok (.ifCond .eq off, 3)) (ht : (pc : Int) + off = (tgt : Int)) (kt : J X g Q cf tgt lv st S o1) (kf : J X g Q cf (pc + 3) lv st S o2) : J X g Q cf pc lv (.int x :: st) S (if x = 0 then o1 else o2) := by
  obtain ⟨p, l, e, R, s, m, args, below, meth, c⟩ := X
  obtain ⟨hx, hb, hml, hown, hr, hlk, hK, hR, hg⟩ := C
  intro b hb0 H locs ls hP hS hl
  exact lv_if_eq hx hb hdg ht (fun h => kt b (by rw [if_pos h] at hb0; exact hb0) H locs ls hP hS hl) (fun h => kf b (by rw [if_neg h] at hb0; exact hb0) H locs ls hP hS hl)
theorem J.icmp_ne (C : CX X g cc own ret nL R0) {x y : Int32} {off : Int} {tgt : Nat} (hdg : decode cc pc = .ok (.if_icmp .ne off, 3)) (ht : (pc : Int) + off = (tgt : Int)) (kt : J X g Q cf tgt lv st S o1) (kf : J X g Q cf (pc + 3) lv st S o2) : J X g Q cf pc lv (.int y :: .int x :: st) S (if x = y then o2 else o1) := by
  obtain ⟨p, l, e, R, s, m, args, below, meth, c⟩ := X
  obtain ⟨hx, hb, hml, hown, hr, hlk, hK, hR, hg⟩ := C
  intro b hb0 H locs ls hP hS hl
  exact lv_icmp_ne hx hb hdg ht (fun h => kt b (by rw [if_neg h] at hb0; exact hb0) H locs ls hP hS hl) (fun h => kf b (by rw [if_pos h] at hb0; exact hb0) H locs ls hP hS hl)
theorem J.if_ne (C : CX X g cc own ret nL R0) {x : Int32} {off : Int} {tgt : Nat} (hdg : decode cc pc = .ok (.ifCond .ne off, 3)) (ht : (pc : Int) + off = (tgt : Int)) (kt : J X g Q cf tgt lv st S o1) (kf : J X g Q cf (pc + 3) lv st S o2) : J X g Q cf pc lv (.int x :: st) S (if x = 0 then o2 else o1) := by
  obtain ⟨p, l, e, R, s, m, args, below, meth, c⟩ := X
  obtain ⟨hx, hb, hml, hown, hr, hlk, hK, hR, hg⟩ := C
  intro b hb0 H locs ls hP hS hl
  exact lv_if_ne hx hb hdg ht (fun h => kt b (by rw [if_neg h] at hb0; exact hb0) H locs ls hP hS hl) (fun h => kf b (by rw [if_pos h] at hb0; exact hb0) H locs ls hP hS hl)
theorem J.icmp_lt (C : CX X g cc own ret nL R0) {x y : Int32} {off : Int} {tgt : Nat} (hdg : decode cc pc = .ok (.if_icmp .lt off, 3)) (ht : (pc : Int) + off = (tgt : Int)) (kt : J X g Q cf tgt lv st S o1) (kf : J X g Q cf (pc + 3) lv st S o2) : J X g Q cf pc lv (.int y :: .int x :: st) S (if x < y then o1 else o2) := by
  obtain ⟨p, l, e, R, s, m, args, below, meth, c⟩ := X
  obtain ⟨hx, hb, hml, hown, hr, hlk, hK, hR, hg⟩ := C
  intro b hb0 H locs ls hP hS hl
  exact lv_icmp_lt hx hb hdg ht (fun h => kt b (by rw [if_pos h] at hb0; exact hb0) H locs ls hP hS hl) (fun h => kf b (by rw [if_neg h] at hb0; exact hb0) H locs ls hP hS hl)
theorem J.if_lt (C : CX X g cc own ret nL R0) {x : Int32} {off : Int} {tgt : Nat} (hdg : decode cc pc = .ok (.ifCond .lt off, 3)) (ht : (pc : Int) + off = (tgt : Int)) (kt : J X g Q cf tgt lv st S o1) (kf : J X g Q cf (pc + 3) lv st S o2) : J X g Q cf pc lv (.int x :: st) S (if x < 0 then o1 else o2) := by
  obtain ⟨p, l, e, R, s, m, args, below, meth, c⟩ := X
  obtain ⟨hx, hb, hml, hown, hr, hlk, hK, hR, hg⟩ := C
  intro b hb0 H locs ls hP hS hl
  exact lv_if_lt hx hb hdg ht (fun h => kt b (by rw [if_pos h] at hb0; exact hb0) H locs ls hP hS hl) (fun h => kf b (by rw [if_neg h] at hb0; exact hb0) H locs ls hP hS hl)
theorem J.icmp_ge (C : CX X g cc own ret nL R0) {x y : Int32} {off : Int} {tgt : Nat} (hdg : decode cc pc = .ok (.if_icmp .ge off, 3)) (ht : (pc : Int) + off = (tgt : Int)) (kt : J X g Q cf tgt lv st S o1) (kf : J X g Q cf (pc + 3) lv st S o2) : J X g Q cf pc lv (.int y :: .int x :: st) S (if y ≤ x then o1 else o2) := by
  obtain ⟨p, l, e, R, s, m, args, below, meth, c⟩ := X
  obtain ⟨hx, hb, hml, hown, hr, hlk, hK, hR, hg⟩ := C
  intro b hb0 H locs ls hP hS hl
  exact lv_icmp_ge hx hb hdg ht (fun h => kt b (by rw [if_pos h] at hb0; exact hb0) H locs ls hP hS hl) (fun h => kf b (by rw [if_neg h] at hb0; exact hb0) H locs ls hP hS hl)
theorem J.if_ge (C : CX X g cc own ret nL R0) {x : Int32} {off : Int} {tgt : Nat} (hdg : decode cc pc = .ok (.ifCond .ge off, 3)) (ht : (pc : Int) + off = (tgt : Int)) (kt : J X g Q cf tgt lv st S o1) (kf : J X g Q cf (pc + 3) lv st S o2) : J X g Q cf pc lv (.int x :: st) S (if 0 ≤ x then o1 else o2) := by
  obtain ⟨p, l, e, R, s, m, args, below, meth, c⟩ := X
  obtain ⟨hx, hb, hml, hown, hr, hlk, hK, hR, hg⟩ := C
  intro b hb0 H locs ls hP hS hl
  exact lv_if_ge hx hb hdg ht (fun h => kt b (by rw [if_pos h] at hb0; exact hb0) H locs ls hP hS hl) (fun h => kf b (by rw [if_neg h] at hb0; exact hb0) H locs ls hP hS hl)
theorem J.icmp_gt (C : CX X g cc own ret nL R0) {x y : Int32} {off : Int} {tgt : Nat} (hdg : decode cc pc = .ok (.if_icmp .gt off, 3)) (ht : (pc : Int) + off = (tgt : Int)) (kt : J X g Q cf tgt lv st S o1) (kf : J X g Q cf (pc + 3) lv st S o2) : J X g Q cf pc lv (.int y :: .int x :: st) S (if y < x then o1 else o2) := by
  obtain ⟨p, l, e, R, s, m, args, below, meth, c⟩ := X
  obtain ⟨hx, hb, hml, hown, hr, hlk, hK, hR, hg⟩ := C
  intro b hb0 H locs ls hP hS hl
  exact lv_icmp_gt hx hb hdg ht (fun h => kt b (by rw [if_pos h] at hb0; exact hb0) H locs ls hP hS hl) (fun h => kf b (by rw [if_neg h] at hb0; exact hb0) H locs ls hP hS hl)
theorem J.if_gt (C : CX X g cc own ret nL R0) {x : Int32} {off : Int} {tgt : Nat} (hdg : decode cc pc = .ok (.ifCond .gt off, 3)) (ht : (pc : Int) + off = (tgt : Int)) (kt : J X g Q cf tgt lv st S o1) (kf : J X g Q cf (pc + 3) lv st S o2) : J X g Q cf pc lv (.int x :: st) S (if 0 < x then o1 else o2) := by
  obtain ⟨p, l, e, R, s, m, args, below, meth, c⟩ := X
  obtain ⟨hx, hb, hml, hown, hr, hlk, hK, hR, hg⟩ := C
  intro b hb0 H locs ls hP hS hl
  exact lv_if_gt hx hb hdg ht (fun h => kt b (by rw [if_pos h] at hb0; exact hb0) H locs ls hP hS hl) (fun h => kf b (by rw [if_neg h] at hb0; exact hb0) H locs ls hP hS hl)
theorem J.icmp_le (C : CX X g cc own ret nL R0) {x y : Int32} {off : Int} {tgt : Nat} (hdg : decode cc pc = .ok (.if_icmp .le off, 3)) (ht : (pc : Int) + off = (tgt : Int)) (kt : J X g Q cf tgt lv st S o1) (kf : J X g Q cf (pc + 3) lv st S o2) : J X g Q cf pc lv (.int y :: .int x :: st) S (if x ≤ y then o1 else o2) := by
  obtain ⟨p, l, e, R, s, m, args, below, meth, c⟩ := X
  obtain ⟨hx, hb, hml, hown, hr, hlk, hK, hR, hg⟩ := C
  intro b hb0 H locs ls hP hS hl
  exact lv_icmp_le hx hb hdg ht (fun h => kt b (by rw [if_pos h] at hb0; exact hb0) H locs ls hP hS hl) (fun h => kf b (by rw [if_neg h] at hb0; exact hb0) H locs ls hP hS hl)
theorem J.if_le (C : CX X g cc own ret nL R0) {x : Int32} {off : Int} {tgt : Nat} (hdg : decode cc pc = .ok (.ifCond .le off, 3)) (ht : (pc : Int) + off = (tgt : Int)) (kt : J X g Q cf tgt lv st S o1) (kf : J X g Q cf (pc + 3) lv st S o2) : J X g Q cf pc lv (.int x :: st) S (if x ≤ 0 then o1 else o2) := by
  obtain ⟨p, l, e, R, s, m, args, below, meth, c⟩ := X
  obtain ⟨hx, hb, hml, hown, hr, hlk, hK, hR, hg⟩ := C
  intro b hb0 H locs ls hP hS hl
  exact lv_if_le hx hb hdg ht (fun h => kt b (by rw [if_pos h] at hb0; exact hb0) H locs ls hP hS hl) (fun h => kf b (by rw [if_neg h] at hb0; exact hb0) H locs ls hP hS hl)
theorem J.ifnull (C : CX X g cc own ret nL R0) {a : Nat} {off : Int} {tgt : Nat} (hdg : decode cc pc = .ok (.ifnull off, 3)) (ht : (pc : Int) + off = (tgt : Int)) (kt : J X g Q cf tgt lv st S o1) (kf : J X g Q cf (pc + 3) lv st S o2) : J X g Q cf pc lv (rv g a :: st) S (if a = 0 then o1 else o2) := by
  obtain ⟨p, l, e, R, s, m, args, below, meth, c⟩ := X
  obtain ⟨hx, hb, hml, hown, hr, hlk, hK, hR, hg⟩ := C
  intro b hb0 H locs ls hP hS hl
  unfold rv
  by_cases h : a = 0
  · rw [if_pos h] at hb0 ⊢
    exact lv_ifnullN hx hb hdg ht (kt b hb0 H locs ls hP hS hl)
  · rw [if_neg h] at hb0 ⊢
    exact lv_ifnull hx hb hdg (kf b hb0 H locs ls hP hS hl)
theorem J.ifnonnull (C : CX X g cc own ret nL R0) {a : Nat} {off : Int} {tgt : Nat} (hdg : decode cc pc = .ok (.ifnonnull off, 3)) (ht : (pc : Int) + off = (tgt : Int)) (kt : J X g Q cf tgt lv st S o1) (kf : J X g Q cf (pc + 3) lv st S o2) : J X g Q cf pc lv (rv g a :: st) S (if a = 0 then o2 else o1) := by
  obtain ⟨p, l, e, R, s, m, args, below, meth, c⟩ := X
  obtain ⟨hx, hb, hml, hown, hr, hlk, hK, hR, hg⟩ := C
  intro b hb0 H locs ls hP hS hl
  unfold rv
  by_cases h : a = 0
  · rw [if_pos h] at hb0 ⊢
    exact lv_ifnonnullN hx hb hdg (kf b hb0 H locs ls hP hS hl)
  · rw [if_neg h] at hb0 ⊢
    exact lv_ifnonnull hx hb hdg ht (kt b hb0 H locs ls hP hS hl)
theorem J.tswIn (C : CX X g cc own ret nL R0) {dflt lo hi : Int} {offs : Array Int} {len : Nat} {x : Int32} (x0 : Int32) {off : Int} {tgt : Nat} (hdg : decode cc pc = .ok (.tableswitch dflt lo hi offs, len)) (h : x = x0) (h1 : ¬ x0.toInt < lo) (h2 : ¬ hi < x0.toInt) (ho : offs[(x0.toInt - lo).toNat]? = some off) (ht : (pc : Int) + off = (tgt : Int)) (kk : J X g Q cf tgt lv st S o) : J X g Q cf pc lv (.int x :: st) S o := by
  obtain ⟨p, l, e, R, s, m, args, below, meth, c⟩ := X
  obtain ⟨hx, hb, hml, hown, hr, hlk, hK, hR, hg⟩ := C
  intro b hb0 H locs ls hP hS hl
  subst h
  exact lv_tableIn hx hb hdg h1 h2 ho ht (kk b hb0 H locs ls hP hS hl)
theorem J.tswOut (C : CX X g cc own ret nL R0) {dflt lo hi : Int} {offs : Array Int} {len : Nat} {x : Int32} {tgt : Nat} (hdg : decode cc pc = .ok (.tableswitch dflt lo hi offs, len)) (h : x.toInt < lo ∨ hi < x.toInt) (ht : (pc : Int) + dflt = (tgt : Int)) (kk : J X g Q cf tgt lv st S o) : J X g Q cf pc lv (.int x :: st) S o := by
  obtain ⟨p, l, e, R, s, m, args, below, meth, c⟩ := X
  obtain ⟨hx, hb, hml, hown, hr, hlk, hK, hR, hg⟩ := C
  intro b hb0 H locs ls hP hS hl
  exact lv_tableOut hx hb hdg h ht (kk b hb0 H locs ls hP hS hl)
theorem J.lsw (C : CX X g cc own ret nL R0) {dflt : Int} {ps : Array (Int × Int)} {len : Nat} {x : Int32} {off : Int} {tgt : Nat} (hdg : decode cc pc = .ok (.lookupswitch dflt ps, len)) (hp : (ps.toList.zip (ps.toList.drop 1)).all (fun (a, next) => a.1 < next.1) = true) (ho : Op.lookupswitch.offset ps.toList dflt x.toInt = off) (ht : (pc : Int) + off = (tgt : Int)) (kk : J X g Q cf tgt lv st S o) : J X g Q cf pc lv (.int x :: st) S o := by
  obtain ⟨p, l, e, R, s, m, args, below, meth, c⟩ := X
  obtain ⟨hx, hb, hml, hown, hr, hlk, hK, hR, hg⟩ := C
  intro b hb0 H locs ls hP hS hl
  exact lv_lookup hx hb hdg hp ho ht (kk b hb0 H locs ls hP hS hl)
/-- a field's link: its class's number and the field's place -/
def FL (own : String) (idx ci j : Nat) : Prop := ∃ r : vw_C, vwCl[ci]? = some r ∧ j < r.2.2 ∧ Cond.fieldLink own idx (r.2.1 j).1 (r.2.1 j).2.1 (r.2.1 j).2.2.1 ∈ lw_tbl
theorem J.getV (C : CX X g cc own ret nL R0) {ci j idx a : Nat} (hf : FL own idx ci j) (hdg : decode cc pc = .ok (.getfield idx, 3)) (kk : J X g Q cf (pc + 3) lv (fv g S a j :: st) S o) : J X g Q cf pc lv (rv g a :: st) S (chk (okc S ci a) o) := by
  obtain ⟨p, l, e, R, s, m, args, below, meth, c⟩ := X
  obtain ⟨hx, hb, hml, hown, hr, hlk, hK, hR, hg⟩ := C
  intro b hb0 H locs ls hP hS hl
  obtain ⟨⟨hok, hn⟩, hb1⟩ := chk_some hb0
  obtain ⟨r, hr1, hj, hlink⟩ := hf
  have hci := vw_get hr1
  have ha := kd_hi hok hci
  obtain ⟨r', h1, cell, q1, q2, q3, q4⟩ := (hP.2.2.2 a (by omega) hn).1 (by omega)
  rw [hok] at h1 q2 q4
  cases hr1.symm.trans h1
  obtain ⟨hSl, hfc, kC, hkC, hkind⟩ := hK.1.1 ci r hr1
  obtain ⟨cf', kf, fi, f, hi, hsl⟩ := hSl j hj
  rw [rv_ref (show a ≠ 0 by omega)]
  refine W.getf hx hb hown (hK.2.1 _ hlink rfl args) hi (u_facts (args := #[]) hfc hkC (u_lays (hK.lay hr1) (fun _ h => h) hj) hi).1 q1 (by rw [q3]; exact fun h => by cases h) (v := fv g S a j) ?_ rfl rfl hdg (kk b hb1 H locs ls hP hS hl)
  rw [hsl]
  exact q4 j hj
theorem J.getI (C : CX X g cc own ret nL R0) {ci j idx a : Nat} (hf : FL own idx ci j) (hrf : rf ci j = false) (hdg : decode cc pc = .ok (.getfield idx, 3)) (kk : J X g Q cf (pc + 3) lv (.int (S.1 a j) :: st) S o) : J X g Q cf pc lv (rv g a :: st) S (chk (okc S ci a) o) := by
  by_cases h : kd a = ci
  · exact J.getV C hf hdg (by rw [fv_int h hrf]; exact kk)
  · exact J.ck (fun q => absurd q.1 h)
theorem J.getR (C : CX X g cc own ret nL R0) {ci j idx a : Nat} (hf : FL own idx ci j) (hrf : rf ci j = true) (hdg : decode cc pc = .ok (.getfield idx, 3)) (kk : J X g Q cf (pc + 3) lv (rv g (S.2.1 a j) :: st) S o) : J X g Q cf pc lv (rv g a :: st) S (chk (okc S ci a) o) := by
  by_cases h : kd a = ci
  · exact J.getV C hf hdg (by rw [fv_ref h hrf]; exact kk)
  · exact J.ck (fun q => absurd q.1 h)
theorem J.putV (C : CX X g cc own ret nL R0) {ci j idx a : Nat} {v : Value} {S' : St} (hf : FL own idx ci j) (hfin : (∀ r : vw_C, vwCl[ci]? = some r → (r.2.1 j).2.2.2 = false) ∨ ((∀ r : vw_C, vwCl[ci]? = some r → (r.2.1 j).2.2.2 = true ∧ (r.2.1 j).1 = own) ∧ X.2.2.2.2.2.2.2.2.1.name = "<init>")) (hnr : narrow (tyF ci j) v = v) (hfit : fits (tyF ci j) v = true) (hSn : S'.2.2 = S.2.2) (hoth : ∀ b, b ≠ a → fv g S' b = fv g S b) (hself : kd a = ci → ∀ i, fv g S' a i = updV (fv g S a) j v i) (hdg : decode cc pc = .ok (.putfield idx, 3)) (kk : J X g Q cf (pc + 3) lv st S' o) : J X g Q cf pc lv (v :: rv g a :: st) S (chk (okc S ci a) o) := by
  obtain ⟨p, l, e, R, s, m, args, below, meth, c⟩ := X
  obtain ⟨hx, hb, hml, hown, hr, hlk, hK, hR, hg⟩ := C
  intro b hb0 H locs ls hP hS hl
  obtain ⟨⟨hok, hn⟩, hb1⟩ := chk_some hb0
  obtain ⟨r, hr1, hj, hlink⟩ := hf
  have hci := vw_get hr1
  have ha := kd_hi hok hci
  obtain ⟨r', h1, cell, q1, q2, q3, q4⟩ := (hP.2.2.2 a (by omega) hn).1 (by omega)
  rw [hok] at h1 q2 q4
  cases hr1.symm.trans h1
  have hap := va_apart (own := own) (hK.lay hr1) (fun _ h => h) (tyF ci) (vw_ty hr1) (vw_nm hr1) hK.1 hr1
  obtain ⟨hSl, hfc, kC, hkC, hkind⟩ := hK.1.1 ci r hr1
  obtain ⟨cf', kf, fi, f, hi, hsl⟩ := hSl j hj
  have hst := (u_facts (args := #[]) hfc hkC (u_lays (hK.lay hr1) (fun _ h => h) hj) hi).1
  have hlay := hK.lay hr1 _ (u_in_lay hj)
  rw [rv_ref (show a ≠ 0 by omega)]
  have fin : ∀ H' : Heap, H'[ad g a]? = some (cell.setSlot f.slot v) → H'.size = H.size → (∀ q, q ≠ ad g a → H'[q]? = H[q]?) → W p l e R s m args below meth c H' (locs ++ [⟨ad g a, f.slot⟩]) (cf S.2.2).1 (cf S.2.2).2 (Q b) (F0 m (pc + 3) ls st) := by
    intro H' e1 e2 e3
    have hP' : HP g s S' H' := by
      refine hP.put ha hSn e2 e3 hoth ⟨fun _ => ⟨r, by rw [hok]; exact hr1, ?_⟩, fun q => by omega⟩
      rw [hok]
      refine t_OB.to (V := updV (fv g S a) j v) ⟨_, e1, q2, q3, ?_⟩ (fun i _ => (hself hok i).symm)
      rw [hsl]
      exact t_set q4 hap hj v
    have k1 := kk b hb1 H' (locs ++ [⟨ad g a, f.slot⟩]) ls hP' (hS.put e2 e3 (by show g.1 ≤ ad g a; rw [ad_hi ha]; omega)) hl
    rw [hSn] at k1
    exact k1
  rcases hfin with hfin | ⟨hfin, hin⟩
  · have hf2 := hfin r hr1
    unfold u_lay at hlay
    rw [if_neg (by rw [hf2]; decide)] at hlay
    have h6 := u_store hfc hkC hkind hlay hi (vw_ty hr1 j hj) hnr hfit
    exact W.putK hx hb (f := f) ⟨hown, hK.2.1 _ hlink rfl args, ⟨_, _, _, hi⟩, hst⟩ (by rw [q2]; exact h6) q1 q3 (by rw [hsl]; exact k2_hasslot (q4 j hj)) rfl rfl hdg fin
  · obtain ⟨hf2, hdecl⟩ := hfin r hr1
    unfold u_lay at hlay
    rw [if_pos hf2] at hlay
    have hcf : m.cls = cf' := by
      obtain ⟨_, _, c', _, _, _, -, -, hf', -, -, -, hown2, -⟩ := Cond.laysFinal_spec hlay
      have e1 : c' = cf' := by have := hi.symm.trans hf'; simp at this; exact this.1.symm
      rw [hdecl] at hown2
      rw [← e1]; exact Option.some.inj (hown.symm.trans hown2)
    have h6 := u_fits hfc hkC hkind (Or.inr hlay) hi (vw_ty hr1 j hj) hnr hfit
    exact W.putFinK hx hb hown (hK.2.1 _ hlink rfl args) hi hst hcf hin (by rw [q2]; exact h6) q1 q3 (by rw [hsl]; exact k2_hasslot (q4 j hj)) rfl rfl hdg fin
theorem J.putI (C : CX X g cc own ret nL R0) {ci j idx a : Nat} {x : Int32} (hf : FL own idx ci j) (hrf : rf ci j = false) (hfin : ∀ r : vw_C, vwCl[ci]? = some r → (r.2.1 j).2.2.2 = false) (hnr : narrow (tyF ci j) (.int x) = .int x) (hfit : fits (tyF ci j) (.int x) = true) (hdg : decode cc pc = .ok (.putfield idx, 3)) (kk : J X g Q cf (pc + 3) lv st (upI S a j x) o) : J X g Q cf pc lv (.int x :: rv g a :: st) S (chk (okc S ci a) o) :=
  J.putV (S' := upI S a j x) C hf (Or.inl hfin) hnr hfit rfl (fun _ h => fv_upI h) (fun h i => fv_upI_self (by rw [h]; exact hrf) i) hdg kk
theorem J.putR (C : CX X g cc own ret nL R0) {ci j idx a x : Nat} (hf : FL own idx ci j) (hrf : rf ci j = true) (hfin : (∀ r : vw_C, vwCl[ci]? = some r → (r.2.1 j).2.2.2 = true ∧ (r.2.1 j).1 = own)) (hin : X.2.2.2.2.2.2.2.2.1.name = "<init>") (hnr : narrow (tyF ci j) (rv g x) = rv g x) (hfit : fits (tyF ci j) (rv g x) = true) (hdg : decode cc pc = .ok (.putfield idx, 3)) (kk : J X g Q cf (pc + 3) lv st (upR S a j x) o) : J X g Q cf pc lv (rv g x :: rv g a :: st) S (chk (okc S ci a) o) :=
  J.putV (S' := upR S a j x) C hf (Or.inr ⟨hfin, hin⟩) hnr hfit rfl (fun _ h => fv_upR h) (fun h i => fv_upR_self (by rw [h]; exact hrf) i) hdg kk
end JR
