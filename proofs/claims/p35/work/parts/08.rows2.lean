section JR2
variable {β : Type} {X : CT} {g : GG} {Q : β → State → Prop} {cf : Nat → Nat × Nat} {pc : Nat} {lv : List (Nat × Value)} {st : List Value} {S : St} {o o1 o2 : Option β} {cc : ByteArray} {own : String} {ret : Option FieldType} {nL : Nat} {R0 : Room}
theorem ina_not {i : Int32} {n m : Nat} (h0 : 0 ≤ i) (h1 : i.toNatClampNeg < n) (h2 : n ≤ m) : ¬ (i < 0 ∨ m ≤ i.toNatClampNeg) := by
  rw [Int32.le_iff_toInt_le] at h0
  rintro (h | h)
  · rw [Int32.lt_iff_toInt_lt] at h
    omega
  · omega
theorem HP.arr {g : GG} {U : State} {H : Heap} (hP : HP g U S H) {c a : Nat} (hc : 9 < c) (h9 : c ≠ 99) (hk : kd a = c) (hn : a < S.2.2) : AK (tyA c) U (ad g a) (ln a) (fv g S a) H := by
  have h := (hP.2.2.2 a (by have := kd_pos hk h9; omega) hn).2 (by omega)
  rw [hk] at h
  exact h
theorem J.alen (C : CX X g cc own ret nL R0) {a : Nat} (c : Nat) (hc : 9 < c ∧ c ≠ 99) (hdg : decode cc pc = .ok (.arraylength, 1)) (kk : J X g Q cf (pc + 1) lv (.int (Int32.ofNat (ln a)) :: st) S o) : J X g Q cf pc lv (rv g a :: st) S (chk (okc S c a) o) := by
  obtain ⟨p, l, e, R, s, m, args, below, meth, c'⟩ := X
  obtain ⟨hx, hb, hml, hown, hr, hlk, hK, hR, hg⟩ := C
  intro b hb0 H locs ls hP hS hl
  obtain ⟨⟨hok, hn⟩, hb1⟩ := chk_some hb0
  obtain ⟨cell, h1, h2, h3, h4, h5, h6, h7⟩ := hP.arr hc.1 hc.2 hok hn
  rw [rv_ref (kd_pos hok hc.2)]
  exact W.alen hx hb h1 h2 h5 rfl rfl hdg (kk b hb1 H locs ls hP hS hl)
theorem J.iald (C : CX X g cc own ret nL R0) {a : Nat} {i : Int32} (hdg : decode cc pc = .ok (.iaload, 1)) (kk : J X g Q cf (pc + 1) lv (.int (S.1 a i.toNatClampNeg) :: st) S o) : J X g Q cf pc lv (.int i :: rv g a :: st) S (chk (ina S 10 a i) o) := by
  obtain ⟨p, l, e, R, s, m, args, below, meth, c'⟩ := X
  obtain ⟨hx, hb, hml, hown, hr, hlk, hK, hR, hg⟩ := C
  intro b hb0 H locs ls hP hS hl
  obtain ⟨⟨⟨hok, hn⟩, i0, i1⟩, hb1⟩ := chk_some hb0
  obtain ⟨cell, h1, h2, h3, h4, h5, h6, h7⟩ := hP.arr (by omega) (by omega) hok hn
  rw [rv_ref (kd_pos hok (by omega))]
  exact W.iald hx hb h1 h2 h3 (ina_not i0 i1 h4) (by rw [h6 _ i1, fv_int hok rfl]) rfl rfl hdg (kk b hb1 H locs ls hP hS hl)
theorem J.cald (C : CX X g cc own ret nL R0) {a : Nat} {i : Int32} (hdg : decode cc pc = .ok (.caload, 1)) (kk : J X g Q cf (pc + 1) lv (.int (S.1 a i.toNatClampNeg) :: st) S o) : J X g Q cf pc lv (.int i :: rv g a :: st) S (chk (ina S 11 a i) o) := by
  obtain ⟨p, l, e, R, s, m, args, below, meth, c'⟩ := X
  obtain ⟨hx, hb, hml, hown, hr, hlk, hK, hR, hg⟩ := C
  intro b hb0 H locs ls hP hS hl
  obtain ⟨⟨⟨hok, hn⟩, i0, i1⟩, hb1⟩ := chk_some hb0
  obtain ⟨cell, h1, h2, h3, h4, h5, h6, h7⟩ := hP.arr (by omega) (by omega) hok hn
  rw [rv_ref (kd_pos hok (by omega))]
  exact W.cald hx hb h1 h2 h3 (ina_not i0 i1 h4) (by rw [h6 _ i1, fv_int hok rfl]) rfl rfl hdg (kk b hb1 H locs ls hP hS hl)
theorem J.aald (C : CX X g cc own ret nL R0) {a : Nat} {i : Int32} (c : Nat) (hc : 9 < c ∧ c ≠ 99) (hrf : ∀ j, rf c j = true) (hty : (tyA c).isReference = true) (hdg : decode cc pc = .ok (.aaload, 1)) (kk : J X g Q cf (pc + 1) lv (rv g (S.2.1 a i.toNatClampNeg) :: st) S o) : J X g Q cf pc lv (.int i :: rv g a :: st) S (chk (ina S c a i) o) := by
  obtain ⟨p, l, e, R, s, m, args, below, meth, c'⟩ := X
  obtain ⟨hx, hb, hml, hown, hr, hlk, hK, hR, hg⟩ := C
  intro b hb0 H locs ls hP hS hl
  obtain ⟨⟨⟨hok, hn⟩, i0, i1⟩, hb1⟩ := chk_some hb0
  obtain ⟨cell, h1, h2, h3, h4, h5, h6, h7⟩ := hP.arr hc.1 hc.2 hok hn
  rw [rv_ref (kd_pos hok hc.2)]
  exact W.aald hx hb h1 h2 hty h3 (ina_not i0 i1 h4) (by rw [h6 _ i1, fv_ref hok (hrf _)]) rfl rfl hdg (kk b hb1 H locs ls hP hS hl)
/-- an array cell, one place written -/
theorem AK.set {ty : FieldType} {U : State} {a n i : Nat} {f f' : Nat → Value} {H H1 : Heap} {cell : Cell} {v : Value} (h0 : H[a]? = some cell) (h : AK ty U a n f H) (hi : i < n) (e1 : H1[a]? = some (cell.setSlot i v)) (hf : ∀ j, f' j = updV f i v j) : AK ty U a n f' H1 := by
  obtain ⟨cell', h1, h2, h3, h4, h5, h6, h7⟩ := h
  cases h0.symm.trans h1
  have hcls : (cell.setSlot i v).cls = cell.cls := rfl
  have hvm : (cell.setSlot i v).vm = cell.vm := rfl
  have hsz : (cell.setSlot i v).slots.size = cell.slots.size := by simp [Cell.setSlot]
  refine ⟨_, e1, ⟨fun k => by rw [hvm]; exact h2.1 k, by rw [hcls]; exact h2.2⟩, by rw [hvm]; exact h3, by rw [hsz]; exact h4, by rw [hsz]; exact h5, fun j hj => ?_, fun C hC => by rw [hcls]; exact h7 C hC⟩
  rw [hf]
  by_cases hji : j = i
  · subst hji
    rw [Cell.slots_setSlot_self _ (by omega)]
    simp [updV]
  · rw [slot_ne _ _ (Ne.symm hji), h6 j hj]
    simp [updV, hji]
theorem J.iast (C : CX X g cc own ret nL R0) {a : Nat} {i x : Int32} (hdg : decode cc pc = .ok (.iastore, 1)) (kk : J X g Q cf (pc + 1) lv st (upI S a i.toNatClampNeg x) o) : J X g Q cf pc lv (.int x :: .int i :: rv g a :: st) S (chk (inw S 10 a i) o) := by
  obtain ⟨p, l, e, R, s, m, args, below, meth, c'⟩ := X
  obtain ⟨hx, hb, hml, hown, hr, hlk, hK, hR, hg⟩ := C
  intro b hb0 H locs ls hP hS hl
  obtain ⟨⟨⟨⟨hok, hn⟩, i0, i1⟩, h4a⟩, hb1⟩ := chk_some hb0
  have hA := hP.arr (by omega) (by omega) hok hn
  obtain ⟨cell, h1, h2, h3, h4, h5, h6, h7⟩ := id hA
  rw [rv_ref (kd_pos hok (by omega))]
  refine W.iast hx hb h1 h2 h3 (ina_not i0 i1 h4) rfl rfl hdg (fun H' e1 e2 e3 => ?_)
  refine kk b hb1 H' _ ls (hP.put h4a rfl e2 e3 (fun _ h => fv_upI h) ⟨fun q => by omega, fun _ => ?_⟩) (hS.put e2 e3 (by show g.1 ≤ ad g a; rw [ad_hi h4a]; omega)) hl
  rw [hok]
  exact AK.set h1 hA i1 e1 (fun j => fv_upI_self (by rw [hok]; rfl) j)
theorem J.cast (C : CX X g cc own ret nL R0) {a : Nat} {i x : Int32} (hx0 : narrow .char (.int x) = .int x) (hdg : decode cc pc = .ok (.castore, 1)) (kk : J X g Q cf (pc + 1) lv st (upI S a i.toNatClampNeg x) o) : J X g Q cf pc lv (.int x :: .int i :: rv g a :: st) S (chk (inw S 11 a i) o) := by
  obtain ⟨p, l, e, R, s, m, args, below, meth, c'⟩ := X
  obtain ⟨hx, hb, hml, hown, hr, hlk, hK, hR, hg⟩ := C
  intro b hb0 H locs ls hP hS hl
  obtain ⟨⟨⟨⟨hok, hn⟩, i0, i1⟩, h4a⟩, hb1⟩ := chk_some hb0
  have hA := hP.arr (by omega) (by omega) hok hn
  obtain ⟨cell, h1, h2, h3, h4, h5, h6, h7⟩ := id hA
  rw [rv_ref (kd_pos hok (by omega))]
  refine W.cast hx hb h1 h2 h3 (ina_not i0 i1 h4) rfl rfl hdg (fun H' e1 e2 e3 => ?_)
  rw [hx0] at e1
  refine kk b hb1 H' _ ls (hP.put h4a rfl e2 e3 (fun _ h => fv_upI h) ⟨fun q => by omega, fun _ => ?_⟩) (hS.put e2 e3 (by show g.1 ≤ ad g a; rw [ad_hi h4a]; omega)) hl
  rw [hok]
  exact AK.set h1 hA i1 e1 (fun j => fv_upI_self (by rw [hok]; rfl) j)
theorem J.aast (C : CX X g cc own ret nL R0) {a v : Nat} {i : Int32} (c ce : Nat) {r : vw_C} (hc : 9 < c ∧ c ≠ 99) (hrf : ∀ j, rf c j = true) (hce : vwCl[ce]? = some r) (hty : tyA c = .object r.1) (hdg : decode cc pc = .ok (.aastore, 1)) (kk : J X g Q cf (pc + 1) lv st (upR S a i.toNatClampNeg v) o) : J X g Q cf pc lv (rv g v :: .int i :: rv g a :: st) S (chk (inw S c a i ∧ okc S ce v) o) := by
  obtain ⟨p, l, e, R, s, m, args, below, meth, c'⟩ := X
  obtain ⟨hx, hb, hml, hown, hr, hlk, hK, hR, hg⟩ := C
  intro b hb0 H locs ls hP hS hl
  obtain ⟨⟨⟨⟨⟨hok, hn⟩, i0, i1⟩, h4a⟩, hvk, hvn⟩, hb1⟩ := chk_some hb0
  have hA := hP.arr hc.1 hc.2 hok hn
  obtain ⟨cell, h1, h2, h3, h4, h5, h6, h7⟩ := id hA
  obtain ⟨kA, comp, k1, k2, k3⟩ := h7 r.1 hty
  have hce9 := vw_get hce
  have hv4 := kd_hi hvk hce9
  obtain ⟨r', e0, cellV, g1, g2, g3, g4⟩ := (hP.2.2.2 v (by omega) hvn).1 (by omega)
  rw [hvk] at e0 g2
  cases hce.symm.trans e0
  have hcls := (hK.1.1 ce r hce).2
  have hcomp : comp = g.2.2.1.1 ce := Option.some.inj (k3.symm.trans hcls.1)
  subst hcomp
  obtain ⟨kC, hkC, -⟩ := id hcls.2
  rw [rv_ref (show a ≠ 0 by omega), rv_ref (show v ≠ 0 by omega)]
  have hin := ina_not i0 i1 h4
  refine W.aast hx hb h1 h2.1 h3 k1 k2 rfl hkC ⟨fun q => hin (Or.inl q), by omega⟩ g1 (fun q h => by rw [g3] at h; cases h) (by rw [g2]; exact hkC) (by rw [g2]; exact va_assign hcls) rfl rfl hdg (fun H' e1 e2 e3 => ?_)
  refine kk b hb1 H' _ ls (hP.put h4a rfl e2 e3 (fun _ h => fv_upR h) ⟨fun q => by omega, fun _ => ?_⟩) (hS.put e2 e3 (by show g.1 ≤ ad g a; rw [ad_hi h4a]; omega)) hl
  rw [hok]
  exact AK.set h1 hA i1 e1 (fun j => by rw [← rv_ref (g := g) (show v ≠ 0 by omega)]; exact fv_upR_self (by rw [hok]; exact hrf _) j)
theorem J.gets (C : CX X g cc own ret nL R0) {idx : Nat} (k : Nat) (hk : 1 ≤ k ∧ k < 4) (hw : Cond.fieldLink own idx RX7 (snm k) "[I" ∈ lw_tbl) (hdg : decode cc pc = .ok (.getstatic idx, 3)) (kk : J X g Q cf (pc + 3) lv (rv g k :: st) S o) : J X g Q cf pc lv st S o := by
  obtain ⟨p, l, e, R, s, m, args, below, meth, c'⟩ := X
  obtain ⟨hx, hb, hml, hown, hr, hlk, hK, hR, hg⟩ := C
  intro b hb0 H locs ls hP hS hl
  have k1 := kk b hb0 H locs ls hP hS hl
  rw [rv_ref (show k ≠ 0 by omega), ad_lo hk.2] at k1
  exact va_gets hx hb (hK.2.2.2.1 k hk.1 hk.2) hS hown (hK.2.1 _ hw rfl args) (fun _ h => h) hdg k1
theorem J.getsN (C : CX X g cc own ret nL R0) {idx : Nat} {host : String} (k : Nat) (hk : 1 ≤ k ∧ k < 4) (hw : Cond.fieldLinkNest own idx RX7 (snm k) "[I" host ∈ lw_tbl) (hdg : decode cc pc = .ok (.getstatic idx, 3)) (kk : J X g Q cf (pc + 3) lv (rv g k :: st) S o) : J X g Q cf pc lv st S o := by
  obtain ⟨p, l, e, R, s, m, args, below, meth, c'⟩ := X
  obtain ⟨hx, hb, hml, hown, hr, hlk, hK, hR, hg⟩ := C
  intro b hb0 H locs ls hP hS hl
  have k1 := kk b hb0 H locs ls hP hS hl
  rw [rv_ref (show k ≠ 0 by omega), ad_lo hk.2] at k1
  exact va_getsN hx hb (hK.2.2.2.1 k hk.1 hk.2) hS hown (va_Nw.use rfl (hK.2.2.1 _ hw rfl)) (fun _ h => h) hdg k1
/-! loops -/
def vlt {α β : Type} (x : α) (k : α → Option β) : Option β := k x
def wl1 {α β : Type} (F : (α → Option β) → α → Option β) : Nat → α → Option β
  | 0, _ => none
  | n + 1, a => F (wl1 F n) a
def wl2 {α α2 β : Type} (F : (α → α2 → Option β) → α → α2 → Option β) : Nat → α → α2 → Option β
  | 0, _, _ => none
  | n + 1, a, b => F (wl2 F n) a b
def wl3 {α α2 α3 β : Type} (F : (α → α2 → α3 → Option β) → α → α2 → α3 → Option β) : Nat → α → α2 → α3 → Option β
  | 0, _, _, _ => none
  | n + 1, a, b, c => F (wl3 F n) a b c
def wl4 {α α2 α3 α4 β : Type} (F : (α → α2 → α3 → α4 → Option β) → α → α2 → α3 → α4 → Option β) : Nat → α → α2 → α3 → α4 → Option β
  | 0, _, _, _, _ => none
  | n + 1, a, b, c, d => F (wl4 F n) a b c d
theorem J.loop1 {α : Type} {F : (α → Option β) → α → Option β} {lvf : α → List (Nat × Value)} {Sf : α → St} (h : ∀ k : α → Option β, (∀ a, J X g Q cf pc (lvf a) st (Sf a) (k a)) → ∀ a, J X g Q cf pc (lvf a) st (Sf a) (F k a)) : ∀ n a, J X g Q cf pc (lvf a) st (Sf a) (wl1 F n a)
  | 0, _ => J.none
  | n + 1, a => h _ (J.loop1 h n) a
theorem J.loop2 {α α2 : Type} {F : (α → α2 → Option β) → α → α2 → Option β} {lvf : α → α2 → List (Nat × Value)} {Sf : α → α2 → St} (h : ∀ k : α → α2 → Option β, (∀ a b, J X g Q cf pc (lvf a b) st (Sf a b) (k a b)) → ∀ a b, J X g Q cf pc (lvf a b) st (Sf a b) (F k a b)) : ∀ n a b, J X g Q cf pc (lvf a b) st (Sf a b) (wl2 F n a b)
  | 0, _, _ => J.none
  | n + 1, a, b => h _ (J.loop2 h n) a b
theorem J.loop3 {α α2 α3 : Type} {F : (α → α2 → α3 → Option β) → α → α2 → α3 → Option β} {lvf : α → α2 → α3 → List (Nat × Value)} {Sf : α → α2 → α3 → St} (h : ∀ k : α → α2 → α3 → Option β, (∀ a b c, J X g Q cf pc (lvf a b c) st (Sf a b c) (k a b c)) → ∀ a b c, J X g Q cf pc (lvf a b c) st (Sf a b c) (F k a b c)) : ∀ n a b c, J X g Q cf pc (lvf a b c) st (Sf a b c) (wl3 F n a b c)
  | 0, _, _, _ => J.none
  | n + 1, a, b, c => h _ (J.loop3 h n) a b c
theorem J.loop4 {α α2 α3 α4 : Type} {F : (α → α2 → α3 → α4 → Option β) → α → α2 → α3 → α4 → Option β} {lvf : α → α2 → α3 → α4 → List (Nat × Value)} {Sf : α → α2 → α3 → α4 → St} (h : ∀ k : α → α2 → α3 → α4 → Option β, (∀ a b c d, J X g Q cf pc (lvf a b c d) st (Sf a b c d) (k a b c d)) → ∀ a b c d, J X g Q cf pc (lvf a b c d) st (Sf a b c d) (F k a b c d)) : ∀ n a b c d, J X g Q cf pc (lvf a b c d) st (Sf a b c d) (wl4 F n a b c d)
  | 0, _, _, _, _ => J.none
  | n + 1, a, b, c, d => h _ (J.loop4 h n) a b c d
def wl5 {α α2 α3 α4 α5 β : Type} (F : (α → α2 → α3 → α4 → α5 → Option β) → α → α2 → α3 → α4 → α5 → Option β) : Nat → α → α2 → α3 → α4 → α5 → Option β
  | 0, _, _, _, _, _ => Option.none
  | n + 1, a, b, c, d, e => F (wl5 F n) a b c d e
theorem J.loop5 {α α2 α3 α4 α5 : Type} {F : (α → α2 → α3 → α4 → α5 → Option β) → α → α2 → α3 → α4 → α5 → Option β} {lvf : α → α2 → α3 → α4 → α5 → List (Nat × Value)} {Sf : α → α2 → α3 → α4 → α5 → St} (h : ∀ k : α → α2 → α3 → α4 → α5 → Option β, (∀ a b c d e, J X g Q cf pc (lvf a b c d e) st (Sf a b c d e) (k a b c d e)) → ∀ a b c d e, J X g Q cf pc (lvf a b c d e) st (Sf a b c d e) (F k a b c d e)) : ∀ n a b c d e, J X g Q cf pc (lvf a b c d e) st (Sf a b c d e) (wl5 F n a b c d e)
  | 0, _, _, _, _, _ => J.none
  | n + 1, a, b, c, d, e => h _ (J.loop5 h n) a b c d e
def wl6 {α α2 α3 α4 α5 α6 β : Type} (F : (α → α2 → α3 → α4 → α5 → α6 → Option β) → α → α2 → α3 → α4 → α5 → α6 → Option β) : Nat → α → α2 → α3 → α4 → α5 → α6 → Option β
  | 0, _, _, _, _, _, _ => Option.none
  | n + 1, a, b, c, d, e, f => F (wl6 F n) a b c d e f
theorem J.loop6 {α α2 α3 α4 α5 α6 : Type} {F : (α → α2 → α3 → α4 → α5 → α6 → Option β) → α → α2 → α3 → α4 → α5 → α6 → Option β} {lvf : α → α2 → α3 → α4 → α5 → α6 → List (Nat × Value)} {Sf : α → α2 → α3 → α4 → α5 → α6 → St} (h : ∀ k : α → α2 → α3 → α4 → α5 → α6 → Option β, (∀ a b c d e f, J X g Q cf pc (lvf a b c d e f) st (Sf a b c d e f) (k a b c d e f)) → ∀ a b c d e f, J X g Q cf pc (lvf a b c d e f) st (Sf a b c d e f) (F k a b c d e f)) : ∀ n a b c d e f, J X g Q cf pc (lvf a b c d e f) st (Sf a b c d e f) (wl6 F n a b c d e f)
  | 0, _, _, _, _, _, _ => J.none
  | n + 1, a, b, c, d, e, f => h _ (J.loop6 h n) a b c d e f
def FU : Nat := 1000000
/-! a method's end -/
def Qz {γ : Type} (g : GG) (an : γ → Option Value) (ps : γ → St) (b : γ) : Array Value → State → Outcome → State → Prop := fun _ st oc t => oc = .returned (an b) ∧ HP g t (ps b) t.heap ∧ va_F (Ag g) st t
def Qm {γ : Type} (X : CT) (g : GG) (an : γ → Option Value) (ps : γ → St) (b : γ) : State → Prop :=
  match X with
  | (_, _, _, R, s, _, args, below, _, _) => MQ below (Qz g an ps b) args s R.cells R.slots (Ag g)
/-- a contract -/
def Ct {γ : Type} (l : Launch) (y : MethodName) (cc : ByteArray) (nL : Nat) (ret : Option FieldType) (rm : Room) (g : GG) (an : γ → Option Value) (ps : γ → St) (as : List Value) (S : St) (o : Option γ) : Prop := ∀ b, o = some b → Met l y [.code y cc nL ret] rm (va_Pc as (fun U => HP g U S U.heap ∧ KU g U)) (Qz g an ps b) rm.cells rm.slots (Ag g)
theorem J.iret {an : β → Option Value} {ps : β → St} {b : β} {v : Int32} (C : CX X g cc own (some .int) nL R0) (hv : an b = some (.int v)) (hs : ps b = S) (hc : (cf S.2.2).1 ≤ R0.cells ∧ (cf S.2.2).2 ≤ R0.slots) (hdg : decode cc pc = .ok (.ireturn, 1)) : J X g (Qm X g an ps) cf pc lv [.int v] S (some b) := by
  obtain ⟨p, l, e, R, s, m, args, below, meth, c'⟩ := X
  obtain ⟨hx, hb, hml, hown, hr, hlk, hK, hR, hg⟩ := C
  intro b' hb0 H locs ls hP hS hl
  cases hb0
  subst hR
  refine W.widen hc.1 hc.2 ?_
  exact W.iret hx hb hr (fun t ht hW => ⟨by rw [hv], by rw [hs, ht]; exact hP.moved hW.alike, hS.F ht⟩) hS.2.2 hdg hlk
theorem J.zret {an : β → Option Value} {ps : β → St} {b : β} {v : Int32} {ty : FieldType} (C : CX X g cc own (some ty) nL R0) (hnr : narrow ty (.int v) = .int v) (hv : an b = some (.int v)) (hs : ps b = S) (hc : (cf S.2.2).1 ≤ R0.cells ∧ (cf S.2.2).2 ≤ R0.slots) (hdg : decode cc pc = .ok (.ireturn, 1)) : J X g (Qm X g an ps) cf pc lv [.int v] S (some b) := by
  obtain ⟨p, l, e, R, s, m, args, below, meth, c'⟩ := X
  obtain ⟨hx, hb, hml, hown, hr, hlk, hK, hR, hg⟩ := C
  intro b' hb0 H locs ls hP hS hl
  cases hb0
  subst hR
  refine W.widen hc.1 hc.2 ?_
  exact W.zret hx hb hr hnr (fun t ht hW => ⟨by rw [hv], by rw [hs, ht]; exact hP.moved hW.alike, hS.F ht⟩) hS.2.2 hdg hlk
theorem J.vret {an : β → Option Value} {ps : β → St} {b : β} (C : CX X g cc own Option.none nL R0) (hv : an b = Option.none) (hs : ps b = S) (hc : (cf S.2.2).1 ≤ R0.cells ∧ (cf S.2.2).2 ≤ R0.slots) (hdg : decode cc pc = .ok (.return_, 1)) : J X g (Qm X g an ps) cf pc lv [] S (some b) := by
  obtain ⟨p, l, e, R, s, m, args, below, meth, c'⟩ := X
  obtain ⟨hx, hb, hml, hown, hr, hlk, hK, hR, hg⟩ := C
  intro b' hb0 H locs ls hP hS hl
  cases hb0
  subst hR
  refine W.widen hc.1 hc.2 ?_
  exact W.vret hx hb hr (fun t ht hW => ⟨by rw [hv], by rw [hs, ht]; exact hP.moved hW.alike, hS.F ht⟩) hS.2.2 hdg hlk
theorem J.aret {an : β → Option Value} {ps : β → St} {b : β} {v : Nat} {nm : String} (C : CX X g cc own (some (.object nm)) nL R0) (hv : an b = some (rv g v)) (hs : ps b = S) (hc : (cf S.2.2).1 ≤ R0.cells ∧ (cf S.2.2).2 ≤ R0.slots) (hdg : decode cc pc = .ok (.areturn, 1)) : J X g (Qm X g an ps) cf pc lv [rv g v] S (some b) := by
  obtain ⟨p, l, e, R, s, m, args, below, meth, c'⟩ := X
  obtain ⟨hx, hb, hml, hown, hr, hlk, hK, hR, hg⟩ := C
  intro b' hb0 H locs ls hP hS hl
  cases hb0
  subst hR
  refine W.widen hc.1 hc.2 ?_
  have hvv : rv g v = .null ∨ ∃ a, rv g v = .ref a := by
    unfold rv
    split
    · exact Or.inl rfl
    · exact Or.inr ⟨_, rfl⟩
  exact W.aret hx hb hr (Or.inl ⟨_, rfl⟩) hvv (fun t ht hW => ⟨by rw [hv], by rw [hs, ht]; exact hP.moved hW.alike, hS.F ht⟩) hS.2.2 hdg hlk
/-! a method's start -/
theorem Met.ofWF {l : Launch} {y : MethodName} {ws ws' : List Cond} {rm : Room} {Pc : Array Value → State → Prop} {Qc : Array Value → State → Outcome → State → Prop} {mc ms : Nat} {free : Addr → Prop} {cc : ByteArray} {maxL : Nat} {ret : Option FieldType}
    (hy : plainFor y = true) (hw : ws = Cond.code y cc maxL ret :: ws')
    (body : ∀ p e s m args below meth c s₁, BodyLoose p l y (headSpec ws rm) cc maxL ret e s m args below meth c s₁ → c.maxLocals = maxL → Pc args s →
      W p l e (headSpec ws rm).room s m args below meth c s.heap [] 0 0 (MQ below Qc args s mc ms free) (entryFrame m args maxL)) : Met l y ws rm Pc Qc mc ms free := by
  refine MetFree.of_bodySF (code := cc) (maxLocals := maxL) (ret := ret) hy ?_ ?_
  · intro args s m h hn
    obtain ⟨meth, c, h1, h2, h3, h4, h5, h6, -, -⟩ := Cond.code_spec hn (atoms_spec (ws := ws) h _ (by rw [hw]; exact List.mem_cons_self))
    exact ⟨meth, c, h1, h2, h3, h4, h5, h6⟩
  · intro p e s m args below meth c s₁ B hml hP _
    have hh0 : s₁.heap = s.heap := by rw [B.state]; rfl
    obtain ⟨t, a1, o, b1, b2, b3⟩ := body p e s m args below meth c s₁ B hml hP s₁ hh0 (Stand.of_body B)
    exact ⟨t, o, a1, b1, b2, ⟨b3.1, b3.2⟩⟩
theorem Ct.of {γ : Type} {l : Launch} {y : MethodName} {cc : ByteArray} {nL : Nat} {ret : Option FieldType} {rm : Room} {g : GG} {an : γ → Option Value} {ps : γ → St} {as : List Value} {S : St} {o : Option γ} {lv : List (Nat × Value)} {cf : Nat → Nat × Nat} (hy : plainFor y = true) (hlen : (lg_sl as).length ≤ nL) (hlv : lv_args 0 as = lv) (hcat : ∀ q ∈ lv, q.2.category = 1) (hcf : cf S.2.2 = (0, 0))
    (body : ∀ X : CT, X.2.1 = l → X.2.2.2.2.2.2.2.2.1.name = y.name → CX X g cc y.cls ret nL rm → J X g (Qm X g an ps) cf 0 lv [] S o) : Ct l y cc nL ret rm g an ps as S o := by
  intro b hb
  refine Met.ofWF (cc := cc) (maxL := nL) (ret := ret) hy rfl ?_
  intro p e s m args below meth c s₁ B hml hv
  obtain ⟨rfl, hP, hK⟩ := hv
  have C : CX (p, l, e, rm, s, m, as.toArray, below, meth, c) g cc y.cls ret nL rm := ⟨B.exec, B.bytes, hml, findClass_of_methodNamed B.named, B.returns, B.notSynchronized, hK, rfl, hP.free⟩
  have k := body _ rfl (name_of_methodNamed B.named B.method).1 C b hb s.heap [] _ hP va_S.rf ⟨by rw [hml, ← hlv]; exact lv_entry as (n := nL) hlen, trivial⟩
  rw [hcf] at k
  rw [lg_entry_eq]
  exact k
end JR2
