theorem wl2_seq {α β : Type} {F : (α → Int32 → Option β) → α → Int32 → Option β} {kx : α → Option β} {n : Nat} (x : Nat → Int32) (P : Nat → α → Prop) (hin : ∀ i a k, i < n → P i a → ∃ a', P (i + 1) a' ∧ F k a (x i) = k a' (x (i + 1))) (hout : ∀ a k, P n a → F k a (x n) = kx a) : ∀ m i fuel a, i + m = n → m < fuel → P i a → ∃ a', P n a' ∧ wl2 F fuel a (x i) = kx a'
  | 0, i, 0, _, _, h, _ => by omega
  | 0, i, fuel + 1, a, e, _, hP => by
    have : i = n := by omega
    subst this
    exact ⟨a, hP, hout _ _ hP⟩
  | m + 1, i, 0, _, _, h, _ => by omega
  | m + 1, i, fuel + 1, a, e, h, hP => by
    obtain ⟨a', h1, h2⟩ := hin i a (wl2 F fuel) (by omega) hP
    obtain ⟨a2, h3, h4⟩ := wl2_seq x P hin hout m (i + 1) fuel a' (by omega) (by omega) h1
    exact ⟨a2, h3, h2.trans h4⟩
abbrev R5 : Type := Nat × Int32 × Int32 × Int32 × Int32
def kp (b : Bool) (P V : Int32) (s : R5) : R5 := if b = true then (s.1 + 1, if s.1 = 0 then P else s.2.1, if s.1 = 0 then V else s.2.2.1, P, V) else s
def zP (i : Nat) : Int := -1000 + 100 * (i : Int)
def zV (k : Nat) : Int := -100 + 10 * (k : Int)
def rsI (g : Nat → Nat → Bool) (i : Nat) (s : R5) : Nat → R5
  | 0 => s
  | k + 1 => kp (g i k) (iI (zP i)) (iI (zV k)) (rsI g i s k)
def rsO (g : Nat → Nat → Bool) : Nat → R5
  | 0 => (0, 0, 0, 0, 0)
  | i + 1 => rsI g i (rsO g i) 21
theorem rsI_s (g : Nat → Nat → Bool) (i : Nat) (s : R5) (k : Nat) : rsI g i s (k + 1) = kp (g i k) (iI (zP i)) (iI (zV k)) (rsI g i s k) := rfl
theorem kp_le (b : Bool) (P V : Int32) (s : R5) : (kp b P V s).1 ≤ s.1 + 1 := by
  unfold kp
  cases b
  · rw [if_neg (by decide)]; omega
  · rw [if_pos rfl]; exact Nat.le_refl _
theorem rsI_le (g : Nat → Nat → Bool) (i : Nat) (s : R5) : ∀ k, (rsI g i s k).1 ≤ s.1 + k
  | 0 => Nat.le_refl _
  | k + 1 => by
    have := rsI_le g i s k
    have h2 := kp_le (g i k) (iI (zP i)) (iI (zV k)) (rsI g i s k)
    rw [rsI_s]
    omega
theorem rsO_le (g : Nat → Nat → Bool) : ∀ i, (rsO g i).1 ≤ 21 * i
  | 0 => Nat.le_refl _
  | i + 1 => by
    have := rsO_le g i
    have h2 := rsI_le g i (rsO g i) 21
    show (rsI g i (rsO g i) 21).1 ≤ _
    omega
theorem rsI_ext {g g' : Nat → Nat → Bool} {i : Nat} (s : R5) : ∀ k, (∀ j, j < k → g i j = g' i j) → rsI g i s k = rsI g' i s k
  | 0, _ => rfl
  | k + 1, h => by rw [rsI_s, rsI_s, rsI_ext s k (fun j hj => h j (by omega)), h k (by omega)]
theorem rsO_ext {g g' : Nat → Nat → Bool} : ∀ n, (∀ i, i < n → ∀ k, k < 21 → g i k = g' i k) → rsO g n = rsO g' n
  | 0, _ => rfl
  | n + 1, h => by
    show rsI g n (rsO g n) 21 = rsI g' n (rsO g' n) 21
    rw [rsO_ext n (fun i hi => h i (by omega)), rsI_ext (rsO g' n) 21 (h n (by omega))]
/-- the found motions as they are kept in an object -/
def H5 (S : St) (a j : Nat) (s : R5) : Prop := S.1 a j = nI s.1 ∧ (s.1 ≠ 0 → S.1 a (j + 1) = s.2.1 ∧ S.1 a (j + 2) = s.2.2.1 ∧ S.1 a (j + 3) = s.2.2.2.1 ∧ S.1 a (j + 4) = s.2.2.2.2)
theorem H5.cong {S S' : St} {a j : Nat} {s : R5} (h : H5 S a j s) (e : ∀ i, i < 5 → S'.1 a (j + i) = S.1 a (j + i)) : H5 S' a j s := by
  refine ⟨(e 0 (by omega)).trans h.1, fun hne => ?_⟩
  obtain ⟨h1, h2, h3, h4⟩ := h.2 hne
  exact ⟨(e 1 (by omega)).trans h1, (e 2 (by omega)).trans h2, (e 3 (by omega)).trans h3, (e 4 (by omega)).trans h4⟩
def PK : Nat → Nat → Prop := fun x j => x = 35 ∧ 6 ≤ j
theorem e_keepMotion {S : St} (hs : CSh S) {s : R5} (h : H5 S 35 6 s) (hl : s.1 < 100000) (P V : Int32) : ∃ S', f_X1_keepMotion S 35 P V = some S' ∧ Ex PK S S' ∧ H5 S' 35 6 (kp true P V s) := by
  unfold f_X1_keepMotion
  obtain ⟨h0, h1⟩ := h
  have k35 : ∀ {S1 : St}, CSh S1 → ∀ {j : Nat} {v : Int32}, CSh (upI S1 35 j v) := fun h => h.ex (Ex.rf.upa (a := 35))
  have ek : kp true P V s = (s.1 + 1, if s.1 = 0 then P else s.2.1, if s.1 = 0 then V else s.2.2.1, P, V) := rfl
  rw [ck35 hs, h0, ek]
  by_cases c : s.1 = 0
  · rw [if_pos (by rw [c]; rfl), ck35 hs, vlt_s, ck35 (k35 hs), vlt_s, ck35 (k35 (k35 hs)), vlt_s, ck35 (k35 (k35 (k35 hs))), vlt_s, ck35 (k35 (k35 (k35 (k35 hs)))), ck35 (k35 (k35 (k35 (k35 hs)))), vlt_s]
    refine ⟨_, rfl, ((((Ex.rf.upp ⟨rfl, by omega⟩).upp ⟨rfl, by omega⟩).upp ⟨rfl, by omega⟩).upp ⟨rfl, by omega⟩).upp ⟨rfl, by omega⟩, ?_, fun _ => ⟨?_, ?_, ?_, ?_⟩⟩
    · rw [upI_at, if_pos ⟨rfl, rfl⟩, upI_at, if_neg (by omega), upI_at, if_neg (by omega), upI_at, if_neg (by omega), upI_at, if_neg (by omega), h0, L1, q_add]
    · rw [upI_at, if_neg (by omega), upI_at, if_neg (by omega), upI_at, if_neg (by omega), upI_at, if_neg (by omega), upI_at, if_pos ⟨rfl, rfl⟩]
      exact (if_pos c).symm
    · rw [upI_at, if_neg (by omega), upI_at, if_neg (by omega), upI_at, if_neg (by omega), upI_at, if_pos ⟨rfl, rfl⟩]
      exact (if_pos c).symm
    · rw [upI_at, if_neg (by omega), upI_at, if_neg (by omega), upI_at, if_pos ⟨rfl, rfl⟩]
    · rw [upI_at, if_neg (by omega), upI_at, if_pos ⟨rfl, rfl⟩]
  · rw [if_neg (by rw [L0, q_eq (by omega) (by omega)]; exact c), ck35 hs, vlt_s, ck35 (k35 hs), vlt_s, ck35 (k35 (k35 hs)), ck35 (k35 (k35 hs)), vlt_s]
    obtain ⟨h2, h3, h4, h5⟩ := h1 c
    refine ⟨_, rfl, ((Ex.rf.upp ⟨rfl, by omega⟩).upp ⟨rfl, by omega⟩).upp ⟨rfl, by omega⟩, ?_, fun _ => ⟨?_, ?_, ?_, ?_⟩⟩
    · rw [upI_at, if_pos ⟨rfl, rfl⟩, upI_at, if_neg (by omega), upI_at, if_neg (by omega), h0, L1, q_add]
    · rw [upI_at, if_neg (by omega), upI_at, if_neg (by omega), upI_at, if_neg (by omega)]
      exact h2.trans (if_neg c).symm
    · rw [upI_at, if_neg (by omega), upI_at, if_neg (by omega), upI_at, if_neg (by omega)]
      exact h3.trans (if_neg c).symm
    · rw [upI_at, if_neg (by omega), upI_at, if_neg (by omega), upI_at, if_pos ⟨rfl, rfl⟩]
    · rw [upI_at, if_neg (by omega), upI_at, if_pos ⟨rfl, rfl⟩]
theorem zP_s (i : Nat) : iI (zP i) + 100 = iI (zP (i + 1)) := by
  rw [show (100 : Int32) = iI 100 from rfl, iI_add]
  unfold zP
  congr 1
  omega
theorem zV_s (i : Nat) : iI (zV i) + 10 = iI (zV (i + 1)) := by
  rw [show (10 : Int32) = iI 10 from rfl, iI_add]
  unfold zV
  congr 1
  omega
/-- the class's search over a list of demands -/
theorem l_run {S : St} (hs : CSh S) {L : List (Nat × Nat × Nat)} {W T : Nat} (hL : HL S L) (hl : L.length ≤ 50) (hW : W ≤ 1600) (hT : kd T = 5) (hT2 : T < 35) (hTW : S.1 T 4 = nI W) (h5 : H5 S 35 6 (0, 0, 0, 0, 0)) : ∃ S', wl2 (f_X1_run_B27 35 T (fun (S_7 : St) => (some S_7))) FU S (-1000) = some S' ∧ Ex PK S S' ∧ H5 S' 35 6 (rsO (fun i k => L.all (dmt (zP i) (zV k) W)) 35) := by
  obtain ⟨S', ⟨p1, p2⟩, g⟩ := wl2_seq (F := f_X1_run_B27 35 T (fun (S_7 : St) => (some S_7))) (kx := (fun (S_7 : St) => (some S_7))) (n := 35) (fun i => iI (zP i)) (fun i S' => Ex PK S S' ∧ H5 S' 35 6 (rsO (fun i k => L.all (dmt (zP i) (zV k) W)) i)) (fun i S1 kk hi hP => by
    obtain ⟨p1, p2⟩ := hP
    unfold f_X1_run_B27
    have hzP : -1000 ≤ zP i ∧ zP i ≤ 2400 := by unfold zP; omega
    rw [if_neg (by rw [show (2400 : Int32) = iI 2400 from rfl, iI_lt (by omega) (by omega) (by omega) (by omega)]; omega)]
    have hlo := rsO_le (fun i k => L.all (dmt (zP i) (zV k) W)) i
    obtain ⟨S2, ⟨q1, q2⟩, g2⟩ := wl2_seq (F := f_X1_run_B39 35 T (iI (zP i)) (fun (S_6 : St) => (kk S_6 (iI (zP i) + 100)))) (kx := (fun (S_6 : St) => (kk S_6 (iI (zP i) + 100)))) (n := 21) (fun k => iI (zV k)) (fun k S' => Ex PK S S' ∧ H5 S' 35 6 (rsI (fun i k => L.all (dmt (zP i) (zV k) W)) i (rsO (fun i k => L.all (dmt (zP i) (zV k) W)) i) k)) (fun k S2 k2 hk hQ => by
      obtain ⟨q1, q2⟩ := hQ
      unfold f_X1_run_B39
      have s2 := hs.ex q1
      have hzV : -100 ≤ zV k ∧ zV k ≤ 100 := by unfold zV; omega
      have hL2 : HL S2 L := hL.ex q1 (by unfold PK; omega) (fun j => by unfold PK; omega)
      have hW2 : S2.1 T 4 = nI W := by rw [q1.2 _ _ (by unfold PK; omega)]; exact hTW
      have hli := rsI_le (fun i k => L.all (dmt (zP i) (zV k) W)) i (rsO (fun i k => L.all (dmt (zP i) (zV k) W)) i) k
      rw [if_neg (by rw [show (100 : Int32) = iI 100 from rfl, iI_lt (by omega) (by omega) (by omega) (by omega)]; omega), ck_t (okS s2.n hT (by omega)), ck35 s2, hW2, e_meets s2 hL2 hl hzP hzV hW, bnd_s, zV_s, rsI_s]
      by_cases c : L.all (dmt (zP i) (zV k) W) = true
      · obtain ⟨S3, t1, t2, t3⟩ := e_keepMotion s2 q2 (by omega) (iI (zP i)) (iI (zV k))
        rw [if_pos c, if_neg (by decide), ck35 s2, t1, bnd_s]
        refine ⟨S3, ⟨q1.tr t2, ?_⟩, rfl⟩
        rw [c]
        exact t3
      · have c' : L.all (dmt (zP i) (zV k) W) = false := by simpa using c
        rw [if_neg c, if_pos rfl]
        refine ⟨S2, ⟨q1, ?_⟩, rfl⟩
        rw [c']
        exact q2) (fun S2 k2 hQ => by
      unfold f_X1_run_B39
      have e21 : (100 : Int32) < iI (zV 21) := by decide +kernel
      rw [if_pos e21]) 21 0 FU S1 rfl (by decide) ⟨p1, p2⟩
    have e0 : iI (zV 0) = (-100 : Int32) := by decide +kernel
    rw [e0] at g2
    refine ⟨S2, ⟨q1, q2⟩, ?_⟩
    rw [g2, zP_s]) (fun S1 kk hP => by
    unfold f_X1_run_B27
    have e35 : (2400 : Int32) < iI (zP 35) := by decide +kernel
    rw [if_pos e35]) 35 0 FU S rfl (by decide) ⟨Ex.rf, h5⟩
  have e0 : iI (zP 0) = (-1000 : Int32) := by decide +kernel
  rw [e0] at g
  exact ⟨S', g, p1, p2⟩
def PR : Nat → Nat → Prop := fun x j => (x = 35 ∧ (j = 3 ∨ 6 ≤ j)) ∨ (36 ≤ x ∧ x ≤ 40)
theorem e_run {N : Nat} {S : St} (hs : CSh S) {tc fc bl R C tm q wd : Nat} {w : Wf} (hn : RN S 5 w tc fc bl R C) (hok : OKn N w tc fc tm) (hq : q < tc) (hwd : w (9 + 6 * q + 4) = nI wd) (hw1 : wd ≤ 1600) : ∃ S', f_X1_run S 35 5 (nI q) = some S' ∧ Ex PR S S' ∧ H5 S' 35 6 (rsO (fun i k => afit w (wmot w q (zP i) (zV k)) tc fc R C) 35) := by
  unfold f_X1_run
  have h4 := hn.1.2.1
  have f5 := hn.2.2.2.2.2.2.2.1.2.2
  rw [ck5 hs, c_thingAt_t hs sc5 hn.1.2.2.1 h4 hq, bnd_s, ck35 hs, vlt_s, if_neg (by omega)]
  generalize hS2 : upI S 35 6 0 = S2
  have x2 : Ex PR S S2 := by
    rw [← hS2]
    exact Ex.up (Or.inl ⟨rfl, by omega⟩)
  have e6 : S2.1 35 6 = 0 := by
    rw [← hS2, upI_at, if_pos ⟨rfl, rfl⟩]
  have s2 := hs.ex x2
  have hn2 : RN S2 5 w tc fc bl R C := hn.ch hs sc5 (x2.ch (A := fun x => 35 ≤ x ∧ x ≤ 40) (fun x j q => by unfold PR at q; omega)) (fun d hd => by omega)
  obtain ⟨S3, k1, k2, k3⟩ := e_gather s2 (q := q) hn2 hok
  have s3 := s2.ex k2
  have hn3 : RN S3 5 w tc fc bl R C := hn2.ch s2 sc5 (k2.ch (A := fun x => 35 ≤ x ∧ x ≤ 40) (fun x j q => by unfold PD at q; omega)) (fun d hd => by omega)
  have hle := frmL_le w q tc C hn.2.2.1.2.2 fc
  have hT4 : S3.1 (5 + 6 + q) 4 = nI wd := by
    rw [← hwd]
    exact hn3.1.2.2.2 q hq 4 (by omega)
  obtain ⟨S4, l1, l2, l3⟩ := l_run s3 (T := 5 + 6 + q) (W := wd) k3 (by omega) hw1 (sc5.thing (by omega)) (by omega) hT4 ⟨by
    rw [k2.2 35 6 (by unfold PD; omega)]
    exact e6, fun h => absurd rfl h⟩
  rw [ck35 s2, k1, bnd_s]
  refine ⟨S4, l1, (x2.tr (k2.wk (fun x j q => by unfold PD at q; unfold PR; omega))).tr (l2.wk (fun x j q => by unfold PK at q; unfold PR; omega)), ?_⟩
  have e : rsO (fun i k => (frmL w q tc C R fc).all (dmt (zP i) (zV k) wd)) 35 = rsO (fun i k => afit w (wmot w q (zP i) (zV k)) tc fc R C) 35 := rsO_ext 35 (fun i hi k hk => by
    show (frmL w q tc C R fc).all (dmt (zP i) (zV k) wd) = afit w (wmot w q (zP i) (zV k)) tc fc R C
    rw [frmL_all]
    unfold afit
    refine allR_ext (fun f hf => allR_ext (fun r hr => ?_))
    rw [dmt_fit hok hq hf (by have := hn.2.2.1.2.2; omega) hn.2.2.2.1.2.2 hwd hw1 (by unfold zP; omega) (by unfold zV; omega)]
    rfl)
  rw [← e]
  exact l3

