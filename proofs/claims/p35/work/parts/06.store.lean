/-! THE FLAT STORE: the objects that the law makes, by number in the order in which they are made (4, 5 ..), behind the three static arrays (1, 2, 3); 0 is null.
What the slots hold: whole numbers (S.1), numbers of objects (S.2.1); S.2.2: the number of the next object. -/
abbrev St : Type := (Nat → Nat → Int32) × (Nat → Nat → Nat) × Nat
abbrev GG : Type := Nat × (Nat → Nat) × va_G × (Nat × Nat × (Nat → Int32))
abbrev CT : Type := Program × Launch × Env × Room × State × MethodId × Array Value × List Frame × Method × Code
/-- the kinds of the numbered objects (0..8 classes as in vwCl, 10 int[], 11 char[], 12 Frame[], 13 Scene[], 14 Thing[]) -/
def kdL : List Nat := [99, 10, 10, 10, 7, 3, 10, 14, 12, 10, 10, 5, 5, 5, 5, 0, 10, 0, 10, 0, 10, 0, 10, 0, 10, 13, 4, 11, 2, 10, 6, 10, 10, 10, 10, 1, 10, 10, 10, 10, 10, 0, 10, 10, 3, 10, 14, 12, 10, 10, 5, 5, 5, 5, 0, 10, 0, 10, 0, 10, 0, 10, 0, 10, 3, 10, 14, 12, 10, 10, 5, 5, 5, 5, 0, 10, 0, 10, 0, 10, 0, 10, 0, 10, 3, 10, 14, 12, 10, 10, 5, 5, 5, 5, 0, 10, 0, 10, 0, 10, 0, 10, 0, 10, 3, 10, 14, 12, 10, 10, 5, 5, 5, 5, 0, 10, 0, 10, 0, 10, 0, 10, 0, 10]
def lnL : List Nat := [0, 8, 8, 8, 8, 10, 8, 4, 5, 10, 10, 6, 6, 6, 6, 3, 160, 3, 160, 3, 160, 3, 160, 3, 160, 4, 10, 80, 4, 6, 4, 10, 10, 10, 17, 11, 50, 50, 50, 16, 16, 3, 160, 16, 10, 8, 4, 5, 10, 10, 6, 6, 6, 6, 3, 160, 3, 160, 3, 160, 3, 160, 3, 160, 10, 8, 4, 5, 10, 10, 6, 6, 6, 6, 3, 160, 3, 160, 3, 160, 3, 160, 3, 160, 10, 8, 4, 5, 10, 10, 6, 6, 6, 6, 3, 160, 3, 160, 3, 160, 3, 160, 3, 160, 10, 8, 4, 5, 10, 10, 6, 6, 6, 6, 3, 160, 3, 160, 3, 160, 3, 160, 3, 160]
def kd (k : Nat) : Nat := kdL.getD k 99
def ln (k : Nat) : Nat := lnL.getD k 0
/-- which slots hold references -/
def rf : Nat → Nat → Bool
  | 0, j => j == 2
  | 1, j => j == 0 || j == 1 || j == 2 || j == 4 || j == 5
  | 2, j => j == 1
  | 3, j => j == 0 || j == 1 || j == 3 || j == 8 || j == 9
  | 4, j => j == 0 || j == 2
  | 6, _ => true
  | 7, j => !(j == 2)
  | 8, j => j == 0 || j == 1 || j == 3 || j == 4 || j == 6 || j == 13
  | 12, _ => true
  | 13, _ => true
  | 14, _ => true
  | _, _ => false
def tyA : Nat → FieldType
  | 11 => .char
  | 12 => .object RX0
  | 13 => .object RX3
  | 14 => .object RX5
  | _ => .int
def tyF : Nat → Nat → FieldType
  | 0 => tyX0
  | 1 => tyX1
  | 2 => tyX2
  | 3 => tyX3
  | 4 => tyX4
  | 5 => tyX5
  | 6 => tyX6
  | _ => tyX7
def ad (g : GG) (k : Nat) : Nat := if k < 4 then g.2.1 k else g.1 + (k - 4)
def rv (g : GG) (k : Nat) : Value := if k = 0 then .null else .ref (ad g k)
def fv (g : GG) (S : St) (k j : Nat) : Value := if rf (kd k) j = true then rv g (S.2.1 k j) else .int (S.1 k j)
/-- the script: its cell, its length, its ints -/
def sv (g : GG) : Value := .ref g.2.2.2.1
def gl (g : GG) : Nat := g.2.2.2.2.1
def gx (g : GG) : Nat → Int32 := g.2.2.2.2.2
theorem sv_cat (g : GG) : (sv g).category = 1 := rfl
def Ag (g : GG) : Nat → Prop := fun q => g.1 ≤ q
def upI (S : St) (k j : Nat) (v : Int32) : St := (fun a b => if a = k ∧ b = j then v else S.1 a b, S.2.1, S.2.2)
def upR (S : St) (k j v : Nat) : St := (S.1, fun a b => if a = k ∧ b = j then v else S.2.1 a b, S.2.2)
def newS (S : St) : St := (fun a b => if a = S.2.2 then 0 else S.1 a b, fun a b => if a = S.2.2 then 0 else S.2.1 a b, S.2.2 + 1)
abbrev okc (S : St) (c k : Nat) : Prop := kd k = c ∧ k < S.2.2
abbrev ina (S : St) (c k : Nat) (i : Int32) : Prop := (kd k = c ∧ k < S.2.2) ∧ 0 ≤ i ∧ i.toNatClampNeg < ln k
abbrev inw (S : St) (c k : Nat) (i : Int32) : Prop := ((kd k = c ∧ k < S.2.2) ∧ 0 ≤ i ∧ i.toNatClampNeg < ln k) ∧ 4 ≤ k
def chk {β : Type} (c : Prop) [Decidable c] (o : Option β) : Option β := if c then o else none
def bnd {α β : Type} (o : Option α) (k : α → Option β) : Option β := match o with
  | none => none
  | some a => k a
theorem chk_some {β : Type} {c : Prop} [Decidable c] {o : Option β} {b : β} (h : chk c o = some b) : c ∧ o = some b := by
  unfold chk at h
  by_cases hc : c
  · rw [if_pos hc] at h; exact ⟨hc, h⟩
  · rw [if_neg hc] at h; cases h
theorem bnd_some {α β : Type} {o : Option α} {k : α → Option β} {b : β} (h : bnd o k = some b) : ∃ a, o = some a ∧ k a = some b := by
  cases o with
  | none => cases h
  | some a => exact ⟨a, rfl, h⟩
theorem ad_hi {g : GG} {k : Nat} (h : 4 ≤ k) : ad g k = g.1 + (k - 4) := if_neg (by omega)
theorem ad_lo {g : GG} {k : Nat} (h : k < 4) : ad g k = g.2.1 k := if_pos h
theorem kd_pos {k c : Nat} (h : kd k = c) (hc : c ≠ 99) : k ≠ 0 := by
  rintro rfl
  exact hc h.symm
theorem kd_hi {k c : Nat} (h : kd k = c) (hc : c < 9) : 4 ≤ k := by
  rcases Nat.lt_or_ge k 4 with q | q
  · exfalso
    have hk : k = 0 ∨ k = 1 ∨ k = 2 ∨ k = 3 := by omega
    have e0 : kd 0 = 99 := rfl
    have e1 : kd 1 = 10 := rfl
    have e2 : kd 2 = 10 := rfl
    have e3 : kd 3 = 10 := rfl
    rcases hk with rfl | rfl | rfl | rfl <;> omega
  · exact q
theorem rv_ref {g : GG} {k : Nat} (h : k ≠ 0) : rv g k = .ref (ad g k) := if_neg h
theorem rv_cat (g : GG) (k : Nat) : (rv g k).category = 1 := by
  unfold rv
  split <;> rfl
theorem fv_int {g : GG} {S : St} {k j c : Nat} (h : kd k = c) (hr : rf c j = false) : fv g S k j = .int (S.1 k j) := by
  unfold fv
  rw [h, hr]
  rfl
theorem fv_ref {g : GG} {S : St} {k j c : Nat} (h : kd k = c) (hr : rf c j = true) : fv g S k j = rv g (S.2.1 k j) := by
  unfold fv
  rw [h, hr]
  rfl
/-- an array cell -/
def AK (ty : FieldType) (U : State) (a n : Nat) (f : Nat → Value) (H : Heap) : Prop := ∃ cell : Cell, H[a]? = some cell ∧ U.isArrayOf cell ty ∧ cell.vm ≠ .unknown ∧ n ≤ cell.slots.size ∧ cell.slots.size.toInt32 = Int32.ofNat n ∧ (∀ j : Nat, j < n → cell.slots[j]? = some (f j)) ∧ ∀ C : String, ty = .object C → ∃ (kA : Class) (comp : ClassId), U.vm.classes[cell.cls]? = some kA ∧ kA.kind = .array comp (.object C) ∧ U.vm.findClass C = some comp
def CK (g : GG) (U : State) (S : St) (H : Heap) (k : Nat) : Prop := (kd k < 9 → ∃ r : vw_C, vwCl[kd k]? = some r ∧ t_OB (ad g k) (g.2.2.1.1 (kd k)) r.2.2 (g.2.2.1.2 (kd k)) H (fv g S k)) ∧ (9 < kd k → AK (tyA (kd k)) U (ad g k) (ln k) (fv g S k) H)
def HP (g : GG) (U : State) (S : St) (H : Heap) : Prop := 4 ≤ S.2.2 ∧ H.size = g.1 + (S.2.2 - 4) ∧ (∀ k, k < 4 → g.2.1 k < g.1) ∧ ∀ k, 1 ≤ k → k < S.2.2 → CK g U S H k
theorem AK.moved {ty : FieldType} {u U : State} {a n : Nat} {f : Nat → Value} {H : Heap} (hvm : u.vm.Alike U.vm) (h : AK ty u a n f H) : AK ty U a n f H := by
  obtain ⟨cell, h1, h2, h3, h4, h5, h6, h7⟩ := h
  refine ⟨cell, h1, State.isArrayOf_alike hvm h2, h3, h4, h5, h6, fun C hC => ?_⟩
  obtain ⟨kA, comp, e1, e2, e3⟩ := h7 C hC
  obtain ⟨k', hk', he⟩ := hvm.2.2 _ _ e1
  exact ⟨k', comp, hk', by rw [he]; exact e2, by rw [hvm.findClass]; exact e3⟩
theorem HP.moved {g : GG} {u U : State} {S : St} {H : Heap} (hvm : u.vm.Alike U.vm) (h : HP g u S H) : HP g U S H :=
  ⟨h.1, h.2.1, h.2.2.1, fun k h1 h2 => ⟨(h.2.2.2 k h1 h2).1, fun q => ((h.2.2.2 k h1 h2).2 q).moved hvm⟩⟩
theorem ad_ne {g : GG} {U : State} {S : St} {H : Heap} (h : HP g U S H) {a b : Nat} (ha : 4 ≤ a) (hab : b ≠ a) : ad g b ≠ ad g a := by
  rw [ad_hi ha]
  rcases Nat.lt_or_ge b 4 with q | q
  · rw [ad_lo q]
    have := h.2.2.1 b q
    omega
  · rw [ad_hi q]
    omega
/-- one cell is written -/
theorem HP.put {g : GG} {U : State} {S S' : St} {H H1 : Heap} (h : HP g U S H) {a : Nat} (ha : 4 ≤ a) (hn : S'.2.2 = S.2.2) (hz : H1.size = H.size) (hq : ∀ q : Nat, q ≠ ad g a → H1[q]? = H[q]?) (ho : ∀ b, b ≠ a → fv g S' b = fv g S b) (hs : CK g U S' H1 a) : HP g U S' H1 := by
  refine ⟨by rw [hn]; exact h.1, by rw [hn, hz]; exact h.2.1, h.2.2.1, fun k h1 h2 => ?_⟩
  by_cases hk : k = a
  · rw [hk]; exact hs
  · have hc := h.2.2.2 k h1 (by rw [hn] at h2; exact h2)
    have hne := ad_ne h ha hk
    refine ⟨fun q => ?_, fun q => ?_⟩
    · obtain ⟨r, e1, e2⟩ := hc.1 q
      refine ⟨r, e1, ?_⟩
      rw [ho k hk]
      exact e2.kept (hq _ hne)
    · obtain ⟨cell, e1, e2⟩ := hc.2 q
      unfold AK
      rw [ho k hk]
      exact ⟨cell, by rw [hq _ hne]; exact e1, e2⟩
theorem fv_upI {g : GG} {S : St} {k j : Nat} {v : Int32} {b : Nat} (h : b ≠ k) : fv g (upI S k j v) b = fv g S b := by
  funext i
  simp [fv, upI, h]
theorem fv_upR {g : GG} {S : St} {k j v : Nat} {b : Nat} (h : b ≠ k) : fv g (upR S k j v) b = fv g S b := by
  funext i
  simp [fv, upR, h]
theorem fv_upI_self {g : GG} {S : St} {k j : Nat} {v : Int32} (hr : rf (kd k) j = false) (i : Nat) : fv g (upI S k j v) k i = updV (fv g S k) j (.int v) i := by
  by_cases hi : i = j
  · subst hi
    simp [fv, upI, updV, hr]
  · simp [fv, upI, updV, hi]
theorem fv_upR_self {g : GG} {S : St} {k j v : Nat} (hr : rf (kd k) j = true) (i : Nat) : fv g (upR S k j v) k i = updV (fv g S k) j (rv g v) i := by
  by_cases hi : i = j
  · subst hi
    simp [fv, upR, updV, hr]
  · simp [fv, upR, updV, hi]
/-! what is known of the classes -/
def nestW : Cond → Bool
  | .methodLinkNest _ _ _ _ => true
  | .fieldLinkNest _ _ _ _ _ _ => true
  | _ => false
def snm : Nat → String
  | 1 => "LEAST_SETTINGS"
  | 2 => "MOST_SETTINGS"
  | _ => "FIRST_SETTINGS"
def KU (g : GG) (U : State) : Prop := va_K g.2.2.1 vwCl [] U ∧ (∀ w ∈ lw_tbl, goodWord w = true → ∀ a : Array Value, w.before a U = true) ∧ (∀ w ∈ lw_tbl, nestW w = true → va_Nw w U) ∧ (∀ k, 1 ≤ k → k < 4 → va_Z RX7 (snm k) "[I" (.ref (g.2.1 k)) (Ag g) U U.heap) ∧ (va_AO RX0 U ∧ va_AO RX3 U ∧ va_AO RX5 U ∧ (va_X g.2.2.2.1 (gl g) (gx g) U U.heap ∧ g.2.2.2.1 < g.1 ∧ g.1 ≤ U.heap.size))
theorem KU.moved {g : GG} {s U : State} (hW : s.WarmedH U.vm) (hq : ∀ a : Nat, a < s.heap.size → ¬ Ag g a → U.heap[a]? = s.heap[a]?) (hz : g.1 ≤ U.heap.size) (h : KU g s) : KU g U := by
  obtain ⟨h1, h2, h3, h4, h5, h6, h7, h8, h9, h10⟩ := h
  refine ⟨va_K.moved hW.alike h1, fun w hw hg a => word_at hW (good_of_word hg) (h2 w hw hg #[]), fun w hw hn => ?_, fun k k1 k2 => (va_Z.moved hW.alike (h4 k k1 k2)).kept hq, h5.moved hW.alike, h6.moved hW.alike, h7.moved hW.alike, (va_X.moved hW.alike h8).kept (hq _ (by omega) (by show ¬ g.1 ≤ _; omega)), h9, hz⟩
  have h8 := h3 w hw hn
  cases w <;> first | (cases hn; done) | exact h8.warmM hW | exact h8.warmF hW
theorem vw_get8 {ci : Nat} {r : vw_C} (h : vwCl[ci]? = some r) : ci < 8 := (List.getElem?_eq_some_iff.mp h).1
theorem vw_get {ci : Nat} {r : vw_C} (h : vwCl[ci]? = some r) : ci < 9 := by
  have := vw_get8 h
  omega
theorem vw_lay : ∀ r ∈ vwCl, ∀ w ∈ u_ws r.1 r.2.1 r.2.2, w ∈ lw_tbl ∧ goodWord w = true := by decide +kernel
theorem vw_nm {ci : Nat} {r : vw_C} (h : vwCl[ci]? = some r) : ∀ a, a < r.2.2 → ∀ b, b < r.2.2 → a ≠ b → (r.2.1 a).2.1 ≠ (r.2.1 b).2.1 := by
  have hc := vw_get8 h
  have hk : ci = 0 ∨ ci = 1 ∨ ci = 2 ∨ ci = 3 ∨ ci = 4 ∨ ci = 5 ∨ ci = 6 ∨ ci = 7 := by omega
  rcases hk with rfl | rfl | rfl | rfl | rfl | rfl | rfl | rfl <;> cases h
  · exact nmX0
  · exact nmX1
  · exact nmX2
  · exact nmX3
  · exact nmX4
  · exact nmX5
  · exact nmX6
  · exact nmX7
theorem vw_ty {ci : Nat} {r : vw_C} (h : vwCl[ci]? = some r) : ∀ k, k < r.2.2 → parseFieldDescriptor (r.2.1 k).2.2.1 = some (tyF ci k) := by
  have hc := vw_get8 h
  have hk : ci = 0 ∨ ci = 1 ∨ ci = 2 ∨ ci = 3 ∨ ci = 4 ∨ ci = 5 ∨ ci = 6 ∨ ci = 7 := by omega
  rcases hk with rfl | rfl | rfl | rfl | rfl | rfl | rfl | rfl <;> cases h
  · exact tyX0_ok
  · exact tyX1_ok
  · exact tyX2_ok
  · exact tyX3_ok
  · exact tyX4_ok
  · exact tyX5_ok
  · exact tyX6_ok
  · exact tyX7_ok
theorem KU.lay {g : GG} {U : State} (h : KU g U) {ci : Nat} {r : vw_C} (hr : vwCl[ci]? = some r) : ∀ w ∈ u_ws r.1 r.2.1 r.2.2, w.before #[] U = true := fun w hw => h.2.1 w (vw_lay r (List.mem_of_getElem? hr) w hw).1 (vw_lay r (List.mem_of_getElem? hr) w hw).2 #[]
