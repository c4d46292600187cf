theorem op_judge {N : Nat} {S : St} (h : INV N S) (hN : N ≤ 900) (a b : Int32) : Op N S (fun S => f_X7_judge S 4 a b) (fun S => f_X8_judge S 124 a b) := by
  obtain ⟨fc, h4, h36, f5, hs, hm⟩ := h.fc
  have e4 : ∀ S1 : St, CSh S1 → S1.2.1 4 4 = 30 := fun S1 q => q.2.1.2.2.2.1
  have e0 : ∀ S1 : St, CSh S1 → S1.2.1 4 0 = 5 := fun S1 q => q.2.1.1
  by_cases hp : (0 ≤ a ∧ a ≤ nI fc - 1) ∧ (0 ≤ b ∧ b ≤ nI fc - 1) ∧ a ≠ b
  · obtain ⟨f1, f2, R, C, fb1, fb2, S1, ⟨e1, e2, -, -⟩, v1, v2, p1, p2, p3, p4, s1, m1, e125, hI⟩ := pair_on h h4 hp
    rw [← e125] at v1 v2 p4 p3
    have hR := v1.2.1
    obtain ⟨o, S2, q1, q2, q3, q4, q5, q6⟩ := pair_told hI s1 m1 v1 v2 p4
    cases o with
    | none =>
      refine ⟨-10000004, S1, S2, ?_, ?_, q5.mono (by omega)⟩
      · show f_X7_judge S 4 a b = _
        unfold f_X7_judge
        rw [ck7 hs, c_isPair hs h4 f5, if_pos hp, bnd_s, if_neg (by decide), ck7 hs, p1, bnd_s, ck7 s1, e4 S1 s1, ck30 s1, q1, bnd_s, if_pos (show encC none = (-10000004 : Int32) from rfl)]
      · show f_X8_judge S1 124 a b = _
        unfold f_X8_judge
        rw [ck8 m1, e_areFrames m1 (fc := fc) (by rw [e125]; exact h36), if_pos hp, bnd_s, if_neg (by decide), ck8 m1, e1, e2, q2, bnd2_s, if_pos (show encM none = (-1000000 : Int32) from rfl)]
    | some k =>
      have hk := q6 k rfl
      generalize hVd : VV (S1.1 125) C R f1 fb1 f2 fb2 = V at p3 p4
      have hVr : ∀ x j, V x = some j → j.natAbs < 9 := by rw [← hVd]; exact VV_rng
      have hVn : ∀ x, ¬ x < R → V x = none := fun x hx => by
        rw [← hVd]
        unfold VV
        rw [if_neg hx]
      obtain ⟨A, D, T, hA, hD, hT, hA10, hAl, hDl, hTl, hpc, hDb⟩ := jud_masks (V := V) (k := k) hR.2.2 hVn
      have main : Op N S1 (fun _ => f_X7_judge S 4 a b) (fun S' => f_X8_judge S' 124 a b) := by
        refine Op.keepM hI (wjud (S1.1 125) A D) (nI (pc T 17)) (fun Sa sa ra ca qa => ?_) (fun Sb mb eb => ?_) (OKw.jud (by
          obtain ⟨_, _, _, _, _, _, z, _⟩ := hI
          exact z) hN)
        · obtain ⟨tc', fc', bl', R', C', qa⟩ := qa
          have p3' : ∀ x, x < 10 → Sa.1 33 x = encC (V x) := fun x hx => by rw [ca.i (by unfold AR; omega)]; exact p3 x hx
          obtain ⟨Sc, j1, j2, j3⟩ := e_judgeRows sa (A := A) (T := T) (by omega) (by omega)
          have sc := sa.ex j2
          have p3'' : ∀ x, x < 10 → Sc.1 33 x = encC (V x) := fun x hx => by rw [j2.2 33 x (by omega)]; exact p3' x hx
          have t1 := e_votersAtAll sa p3' hVr
          have t2 := e_votersAtAll sc p3'' hVr
          rw [hT] at t1 t2
          have t3 : f_X6_votersFor Sa 30 (encC (some k)) = some (nI A) := by
            rw [← hA10]
            exact e_votersFor sa (D := fun x => decide (V x = some k)) p3' (fun x hx => encC_eq (hVr x) hk)
          refine ⟨Sc, ?_, sc, j2.ch (fun x j q => by unfold AN; omega), tc', fc', bl', R', C', qa.jud sa j2 (fun r hr => (j3 r hr).1) (fun r hr => ?_)⟩
          · show f_X7_judge S 4 a b = _
            unfold f_X7_judge
            rw [ck7 hs, c_isPair hs h4 f5, if_pos hp, bnd_s, if_neg (by decide), ck7 hs, p1, bnd_s, ck7 s1, e4 S1 s1, ck30 s1, q1, bnd_s, if_neg (show ¬ encC (some k) = (-10000004 : Int32) from encC_no hk), ck7 s1, ra, bnd_s, ck7 sa, ck7 sa, e4 Sa sa, ck30 sa, t3, bnd_s, ck7 sa, ck30 sa, t1, bnd_s, e0 Sa sa, ck5 sa, j1, bnd_s, ck7 sc, e4 Sc sc, ck30 sc, t2, bnd_s, e_bitCount hTl, bnd_s]
          · rw [(j3 r hr).2, hDb r]
        · have w1 := v1
          have w2 := v2
          rw [← eb] at w1 w2
          obtain ⟨o', Sm, k1, k2, k3⟩ := e_toldBy mb (a3 := 0) (g := fun _ => 1) w1.1 w2.1 w1.2.1.1 w1.2.1.2.2 w1.2.2.1.1 w1.2.2.1.2.1 w1.2.2.1.2.2 w1.2.2.2.1 w1.2.2.2.2 w2.2.2.2.1 w2.2.2.2.2 (fun _ => by decide) (Or.inl ⟨rfl, fun _ => rfl⟩)
          obtain ⟨o2, S2', l1, l2, l3⟩ := e_toldBy m1 (a3 := 0) (g := fun _ => 1) v1.1 v2.1 v1.2.1.1 v1.2.1.2.2 v1.2.2.1.1 v1.2.2.1.2.1 v1.2.2.1.2.2 v1.2.2.2.1 v1.2.2.2.2 v2.2.2.2.1 v2.2.2.2.2 (fun _ => by decide) (Or.inl ⟨rfl, fun _ => rfl⟩)
          rw [eb] at k3
          have ho := k3.uniq l3
          subst ho
          rw [q2] at l1
          have ho2 : encM o' = iI k := by
            have := congrArg (fun z : Option (Int32 × St) => z.map Prod.fst) l1
            exact (Option.some.inj this).symm
          have mm := mb.ex k2
          have em : Sm.1 125 = S1.1 125 := by
            rw [← eb]
            funext j
            exact k2.2 125 j (by omega)
          refine ⟨Sm, k2.wk (fun x j q => Or.inr (Or.inl q)), fun Sn n1 mn en => ?_⟩
          have u1 := v1
          have u2 := v2
          rw [← em] at u1 u2
          have r4 := e_votersOf mm (a4 := 1) (D := fun x => decide (V x = some k)) u1 u2 hk (Or.inl ⟨rfl, fun x => by rw [em, hVd]⟩)
          have r5 := e_votersOf mm (a4 := 0) (D := fun x => !(V x).isNone && !(decide (V x = some k))) u1 u2 hk (Or.inr ⟨rfl, fun x => by rw [em, hVd]⟩)
          rw [hA] at r4
          rw [hD] at r5
          obtain ⟨Sj, g1, g2, g3⟩ := e_judB mn (A := A) (D := D) (by omega) (by omega) (fun (S_9 : St) => (bnd (f_X8_bits (nI A)) fun r10 => (bnd (f_X8_bits (nI D)) fun r11 => (some (r10 + r11, S_9)))))
          refine ⟨Sj, ?_, g2.wk (fun x j q => Or.inl q), fun j hj => by rw [g3 j hj, en]⟩
          show f_X8_judge Sb 124 a b = _
          unfold f_X8_judge
          rw [ck8 mb, e_areFrames mb (fc := fc) (by rw [eb, e125]; exact h36), if_pos hp, bnd_s, if_neg (by decide), ck8 mb, e1, e2, k1, bnd2_s, ho2, if_neg (encM_no hk), ck8 mm, r4, bnd_s, ck8 mm, r5, bnd_s, ck8 mm, n1, bnd_s, g1, e_bits (by omega), bnd_s, e_bits (by omega), bnd_s, q_add, hpc]
      obtain ⟨v, Sa, Sb, z1, z2, z3⟩ := main
      exact ⟨v, Sa, Sb, z1, z2, z3⟩
  · refine Op.no h (-10000001) ?_ ?_
    · show f_X7_judge S 4 a b = _
      unfold f_X7_judge
      rw [ck7 hs, c_isPair hs h4 f5, if_neg hp, bnd_s, if_pos rfl]
    · show f_X8_judge S 124 a b = _
      unfold f_X8_judge
      rw [ck8 hm, e_areFrames hm h36, if_neg hp, bnd_s, if_pos rfl]
