def f_L_law_B18 (xs : Nat → Int32) (L : Nat) (a1 : Nat) (a2 : Nat) (kx18 : St → Option Int32) (k18 : St → Int32 → Option Int32) (S : St) (x3 : Int32) : Option Int32 :=
  (if ((Int32.ofNat L) - 7) < x3 then
  (kx18 S)
  else (chk (0 ≤ x3 ∧ x3.toNatClampNeg < L)
  (if ((xs x3.toNatClampNeg) &&& 31) = 0 then
  (chk (0 ≤ (x3 + 1) ∧ (x3 + 1).toNatClampNeg < L)
  (chk (0 ≤ (x3 + 2) ∧ (x3 + 2).toNatClampNeg < L)
  (chk (okc S 7 a1) (bnd2 (f_X7_set S a1 (xs (x3 + 1).toNatClampNeg) (xs (x3 + 2).toNatClampNeg)) fun r5 S_6 =>
  (chk (0 ≤ (x3 + 1) ∧ (x3 + 1).toNatClampNeg < L)
  (chk (0 ≤ (x3 + 2) ∧ (x3 + 2).toNatClampNeg < L)
  (chk (okc S_6 8 a2) (bnd2 (f_X8_set S_6 a2 (xs (x3 + 1).toNatClampNeg) (xs (x3 + 2).toNatClampNeg)) fun r7 S_8 =>
  (if r5 = r7 then
  (k18 S_8 (x3 + 7))
  else (some 0))))))))))
  else (if ((xs x3.toNatClampNeg) &&& 31) = 1 then
  (chk (0 ≤ (x3 + 1) ∧ (x3 + 1).toNatClampNeg < L)
  (chk (0 ≤ (x3 + 2) ∧ (x3 + 2).toNatClampNeg < L)
  (chk (0 ≤ (x3 + 3) ∧ (x3 + 3).toNatClampNeg < L)
  (chk (0 ≤ (x3 + 4) ∧ (x3 + 4).toNatClampNeg < L)
  (chk (0 ≤ (x3 + 5) ∧ (x3 + 5).toNatClampNeg < L)
  (chk (0 ≤ (x3 + 6) ∧ (x3 + 6).toNatClampNeg < L)
  (chk (okc S 7 a1) (bnd2 (f_X7_thing S a1 (xs (x3 + 1).toNatClampNeg) (xs (x3 + 2).toNatClampNeg) (xs (x3 + 3).toNatClampNeg) (xs (x3 + 4).toNatClampNeg) (xs (x3 + 5).toNatClampNeg) (xs (x3 + 6).toNatClampNeg)) fun r9 S_10 =>
  (chk (0 ≤ (x3 + 1) ∧ (x3 + 1).toNatClampNeg < L)
  (chk (0 ≤ (x3 + 2) ∧ (x3 + 2).toNatClampNeg < L)
  (chk (0 ≤ (x3 + 3) ∧ (x3 + 3).toNatClampNeg < L)
  (chk (0 ≤ (x3 + 4) ∧ (x3 + 4).toNatClampNeg < L)
  (chk (0 ≤ (x3 + 5) ∧ (x3 + 5).toNatClampNeg < L)
  (chk (0 ≤ (x3 + 6) ∧ (x3 + 6).toNatClampNeg < L)
  (chk (okc S_10 8 a2) (bnd2 (f_X8_thing S_10 a2 (xs (x3 + 1).toNatClampNeg) (xs (x3 + 2).toNatClampNeg) (xs (x3 + 3).toNatClampNeg) (xs (x3 + 4).toNatClampNeg) (xs (x3 + 5).toNatClampNeg) (xs (x3 + 6).toNatClampNeg)) fun r11 S_12 =>
  (if r9 = r11 then
  (k18 S_12 (x3 + 7))
  else (some 0))))))))))))))))))
  else (if ((xs x3.toNatClampNeg) &&& 31) = 2 then
  (chk (0 ≤ (x3 + 1) ∧ (x3 + 1).toNatClampNeg < L)
  (chk (0 ≤ (x3 + 2) ∧ (x3 + 2).toNatClampNeg < L)
  (chk (okc S 7 a1) (bnd2 (f_X7_turn S a1 (xs (x3 + 1).toNatClampNeg) (xs (x3 + 2).toNatClampNeg)) fun r13 S_14 =>
  (chk (0 ≤ (x3 + 1) ∧ (x3 + 1).toNatClampNeg < L)
  (chk (0 ≤ (x3 + 2) ∧ (x3 + 2).toNatClampNeg < L)
  (chk (okc S_14 8 a2) (bnd2 (f_X8_turn S_14 a2 (xs (x3 + 1).toNatClampNeg) (xs (x3 + 2).toNatClampNeg)) fun r15 S_16 =>
  (if r13 = r15 then
  (k18 S_16 (x3 + 7))
  else (some 0))))))))))
  else (if ((xs x3.toNatClampNeg) &&& 31) = 3 then
  (chk (0 ≤ (x3 + 1) ∧ (x3 + 1).toNatClampNeg < L)
  (chk (0 ≤ (x3 + 2) ∧ (x3 + 2).toNatClampNeg < L)
  (chk (okc S 7 a1) (bnd (f_X7_thingOf S a1 (xs (x3 + 1).toNatClampNeg) (xs (x3 + 2).toNatClampNeg)) fun r17 =>
  (chk (0 ≤ (x3 + 1) ∧ (x3 + 1).toNatClampNeg < L)
  (chk (0 ≤ (x3 + 2) ∧ (x3 + 2).toNatClampNeg < L)
  (chk (okc S 8 a2) (bnd (f_X8_thingOf S a2 (xs (x3 + 1).toNatClampNeg) (xs (x3 + 2).toNatClampNeg)) fun r18 =>
  (if r17 = r18 then
  (k18 S (x3 + 7))
  else (some 0))))))))))
  else (if ((xs x3.toNatClampNeg) &&& 31) = 4 then
  (chk (0 ≤ (x3 + 1) ∧ (x3 + 1).toNatClampNeg < L)
  (chk (0 ≤ (x3 + 2) ∧ (x3 + 2).toNatClampNeg < L)
  (chk (okc S 7 a1) (bnd2 (f_X7_blind S a1 (xs (x3 + 1).toNatClampNeg) (xs (x3 + 2).toNatClampNeg)) fun r19 S_20 =>
  (chk (0 ≤ (x3 + 1) ∧ (x3 + 1).toNatClampNeg < L)
  (chk (0 ≤ (x3 + 2) ∧ (x3 + 2).toNatClampNeg < L)
  (chk (okc S_20 8 a2) (bnd2 (f_X8_blind S_20 a2 (xs (x3 + 1).toNatClampNeg) (xs (x3 + 2).toNatClampNeg)) fun r21 S_22 =>
  (if r19 = r21 then
  (k18 S_22 (x3 + 7))
  else (some 0))))))))))
  else (if ((xs x3.toNatClampNeg) &&& 31) = 5 then
  (chk (0 ≤ (x3 + 1) ∧ (x3 + 1).toNatClampNeg < L)
  (chk (0 ≤ (x3 + 2) ∧ (x3 + 2).toNatClampNeg < L)
  (chk (0 ≤ (x3 + 3) ∧ (x3 + 3).toNatClampNeg < L)
  (chk (okc S 7 a1) (bnd2 (f_X7_shows S a1 (xs (x3 + 1).toNatClampNeg) (xs (x3 + 2).toNatClampNeg) (xs (x3 + 3).toNatClampNeg)) fun r23 S_24 =>
  (chk (0 ≤ (x3 + 1) ∧ (x3 + 1).toNatClampNeg < L)
  (chk (0 ≤ (x3 + 2) ∧ (x3 + 2).toNatClampNeg < L)
  (chk (0 ≤ (x3 + 3) ∧ (x3 + 3).toNatClampNeg < L)
  (chk (okc S_24 8 a2) (bnd (f_X8_shows S_24 a2 (xs (x3 + 1).toNatClampNeg) (xs (x3 + 2).toNatClampNeg) (xs (x3 + 3).toNatClampNeg)) fun r25 =>
  (if r23 = r25 then
  (k18 S_24 (x3 + 7))
  else (some 0))))))))))))
  else (if ((xs x3.toNatClampNeg) &&& 31) = 6 then
  (chk (okc S 7 a1) (bnd2 (f_X7_shoot S a1) fun r26 S_27 =>
  (chk (okc S_27 8 a2) (bnd2 (f_X8_shoot S_27 a2) fun r28 S_29 =>
  (if r26 = r28 then
  (k18 S_29 (x3 + 7))
  else (some 0))))))
  else (if ((xs x3.toNatClampNeg) &&& 31) = 7 then
  (chk (0 ≤ (x3 + 1) ∧ (x3 + 1).toNatClampNeg < L)
  (chk (okc S 7 a1) (bnd2 (f_X7_forget S a1 (xs (x3 + 1).toNatClampNeg)) fun r30 S_31 =>
  (chk (0 ≤ (x3 + 1) ∧ (x3 + 1).toNatClampNeg < L)
  (chk (okc S_31 8 a2) (bnd2 (f_X8_forget S_31 a2 (xs (x3 + 1).toNatClampNeg)) fun r32 S_33 =>
  (if r30 = r32 then
  (k18 S_33 (x3 + 7))
  else (some 0))))))))
  else (if ((xs x3.toNatClampNeg) &&& 31) = 8 then
  (chk (0 ≤ (x3 + 1) ∧ (x3 + 1).toNatClampNeg < L)
  (chk (0 ≤ (x3 + 2) ∧ (x3 + 2).toNatClampNeg < L)
  (chk (okc S 7 a1) (bnd (f_X7_frameOf S a1 (xs (x3 + 1).toNatClampNeg) (xs (x3 + 2).toNatClampNeg)) fun r34 =>
  (chk (0 ≤ (x3 + 1) ∧ (x3 + 1).toNatClampNeg < L)
  (chk (0 ≤ (x3 + 2) ∧ (x3 + 2).toNatClampNeg < L)
  (chk (okc S 8 a2) (bnd (f_X8_frameOf S a2 (xs (x3 + 1).toNatClampNeg) (xs (x3 + 2).toNatClampNeg)) fun r35 =>
  (if r34 = r35 then
  (k18 S (x3 + 7))
  else (some 0))))))))))
  else (if ((xs x3.toNatClampNeg) &&& 31) = 9 then
  (chk (0 ≤ (x3 + 1) ∧ (x3 + 1).toNatClampNeg < L)
  (chk (0 ≤ (x3 + 2) ∧ (x3 + 2).toNatClampNeg < L)
  (chk (0 ≤ (x3 + 3) ∧ (x3 + 3).toNatClampNeg < L)
  (chk (okc S 7 a1) (bnd (f_X7_pixel S a1 (xs (x3 + 1).toNatClampNeg) (xs (x3 + 2).toNatClampNeg) (xs (x3 + 3).toNatClampNeg)) fun r36 =>
  (chk (0 ≤ (x3 + 1) ∧ (x3 + 1).toNatClampNeg < L)
  (chk (0 ≤ (x3 + 2) ∧ (x3 + 2).toNatClampNeg < L)
  (chk (0 ≤ (x3 + 3) ∧ (x3 + 3).toNatClampNeg < L)
  (chk (okc S 8 a2) (bnd (f_X8_pixel S a2 (xs (x3 + 1).toNatClampNeg) (xs (x3 + 2).toNatClampNeg) (xs (x3 + 3).toNatClampNeg)) fun r37 =>
  (if r36 = r37 then
  (k18 S (x3 + 7))
  else (some 0))))))))))))
  else (if ((xs x3.toNatClampNeg) &&& 31) = 10 then
  (chk (0 ≤ (x3 + 1) ∧ (x3 + 1).toNatClampNeg < L)
  (chk (0 ≤ (x3 + 2) ∧ (x3 + 2).toNatClampNeg < L)
  (chk (okc S 7 a1) (bnd (f_X7_edges S a1 (xs (x3 + 1).toNatClampNeg) (xs (x3 + 2).toNatClampNeg)) fun r38 =>
  (chk (0 ≤ (x3 + 1) ∧ (x3 + 1).toNatClampNeg < L)
  (chk (0 ≤ (x3 + 2) ∧ (x3 + 2).toNatClampNeg < L)
  (chk (okc S 8 a2) (bnd (f_X8_edges S a2 (xs (x3 + 1).toNatClampNeg) (xs (x3 + 2).toNatClampNeg)) fun r39 =>
  (if r38 = r39 then
  (k18 S (x3 + 7))
  else (some 0))))))))))
  else (if ((xs x3.toNatClampNeg) &&& 31) = 11 then
  (chk (0 ≤ (x3 + 1) ∧ (x3 + 1).toNatClampNeg < L)
  (chk (okc S 7 a1) (bnd2 (f_X7_pass S a1 (xs (x3 + 1).toNatClampNeg)) fun r40 S_41 =>
  (chk (0 ≤ (x3 + 1) ∧ (x3 + 1).toNatClampNeg < L)
  (chk (okc S_41 8 a2) (bnd2 (f_X8_pass S_41 a2 (xs (x3 + 1).toNatClampNeg)) fun r42 S_43 =>
  (if r40 = r42 then
  (k18 S_43 (x3 + 7))
  else (some 0))))))))
  else (if ((xs x3.toNatClampNeg) &&& 31) = 12 then
  (chk (0 ≤ (x3 + 1) ∧ (x3 + 1).toNatClampNeg < L)
  (chk (0 ≤ (x3 + 2) ∧ (x3 + 2).toNatClampNeg < L)
  (chk (0 ≤ (x3 + 3) ∧ (x3 + 3).toNatClampNeg < L)
  (chk (okc S 7 a1) (bnd2 (f_X7_vote S a1 (xs (x3 + 1).toNatClampNeg) (xs (x3 + 2).toNatClampNeg) (xs (x3 + 3).toNatClampNeg)) fun r44 S_45 =>
  (chk (0 ≤ (x3 + 1) ∧ (x3 + 1).toNatClampNeg < L)
  (chk (0 ≤ (x3 + 2) ∧ (x3 + 2).toNatClampNeg < L)
  (chk (0 ≤ (x3 + 3) ∧ (x3 + 3).toNatClampNeg < L)
  (chk (okc S_45 8 a2) (bnd (f_X8_vote S_45 a2 (xs (x3 + 1).toNatClampNeg) (xs (x3 + 2).toNatClampNeg) (xs (x3 + 3).toNatClampNeg)) fun r46 =>
  (if r44 = r46 then
  (k18 S_45 (x3 + 7))
  else (some 0))))))))))))
  else (if ((xs x3.toNatClampNeg) &&& 31) = 13 then
  (chk (0 ≤ (x3 + 1) ∧ (x3 + 1).toNatClampNeg < L)
  (chk (0 ≤ (x3 + 2) ∧ (x3 + 2).toNatClampNeg < L)
  (chk (okc S 7 a1) (bnd2 (f_X7_shift S a1 (xs (x3 + 1).toNatClampNeg) (xs (x3 + 2).toNatClampNeg)) fun r47 S_48 =>
  (chk (0 ≤ (x3 + 1) ∧ (x3 + 1).toNatClampNeg < L)
  (chk (0 ≤ (x3 + 2) ∧ (x3 + 2).toNatClampNeg < L)
  (chk (okc S_48 8 a2) (bnd2 (f_X8_shift S_48 a2 (xs (x3 + 1).toNatClampNeg) (xs (x3 + 2).toNatClampNeg)) fun r49 S_50 =>
  (if r47 = r49 then
  (k18 S_50 (x3 + 7))
  else (some 0))))))))))
  else (if ((xs x3.toNatClampNeg) &&& 31) = 14 then
  (chk (0 ≤ (x3 + 1) ∧ (x3 + 1).toNatClampNeg < L)
  (chk (0 ≤ (x3 + 2) ∧ (x3 + 2).toNatClampNeg < L)
  (chk (0 ≤ (x3 + 3) ∧ (x3 + 3).toNatClampNeg < L)
  (chk (okc S 7 a1) (bnd2 (f_X7_voters S a1 (xs (x3 + 1).toNatClampNeg) (xs (x3 + 2).toNatClampNeg) (xs (x3 + 3).toNatClampNeg)) fun r51 S_52 =>
  (chk (0 ≤ (x3 + 1) ∧ (x3 + 1).toNatClampNeg < L)
  (chk (0 ≤ (x3 + 2) ∧ (x3 + 2).toNatClampNeg < L)
  (chk (0 ≤ (x3 + 3) ∧ (x3 + 3).toNatClampNeg < L)
  (chk (okc S_52 8 a2) (bnd (f_X8_voters S_52 a2 (xs (x3 + 1).toNatClampNeg) (xs (x3 + 2).toNatClampNeg) (xs (x3 + 3).toNatClampNeg)) fun r53 =>
  (if r51 = r53 then
  (k18 S_52 (x3 + 7))
  else (some 0))))))))))))
  else (if ((xs x3.toNatClampNeg) &&& 31) = 15 then
  (chk (0 ≤ (x3 + 1) ∧ (x3 + 1).toNatClampNeg < L)
  (chk (0 ≤ (x3 + 2) ∧ (x3 + 2).toNatClampNeg < L)
  (chk (okc S 7 a1) (bnd2 (f_X7_dissent S a1 (xs (x3 + 1).toNatClampNeg) (xs (x3 + 2).toNatClampNeg)) fun r54 S_55 =>
  (chk (0 ≤ (x3 + 1) ∧ (x3 + 1).toNatClampNeg < L)
  (chk (0 ≤ (x3 + 2) ∧ (x3 + 2).toNatClampNeg < L)
  (chk (okc S_55 8 a2) (bnd2 (f_X8_dissent S_55 a2 (xs (x3 + 1).toNatClampNeg) (xs (x3 + 2).toNatClampNeg)) fun r56 S_57 =>
  (if r54 = r56 then
  (k18 S_57 (x3 + 7))
  else (some 0))))))))))
  else (if ((xs x3.toNatClampNeg) &&& 31) = 16 then
  (chk (0 ≤ (x3 + 1) ∧ (x3 + 1).toNatClampNeg < L)
  (chk (0 ≤ (x3 + 2) ∧ (x3 + 2).toNatClampNeg < L)
  (chk (okc S 7 a1) (bnd2 (f_X7_speed S a1 (xs (x3 + 1).toNatClampNeg) (xs (x3 + 2).toNatClampNeg)) fun r58 S_59 =>
  (chk (0 ≤ (x3 + 1) ∧ (x3 + 1).toNatClampNeg < L)
  (chk (0 ≤ (x3 + 2) ∧ (x3 + 2).toNatClampNeg < L)
  (chk (okc S_59 8 a2) (bnd2 (f_X8_speed S_59 a2 (xs (x3 + 1).toNatClampNeg) (xs (x3 + 2).toNatClampNeg)) fun r60 S_61 =>
  (if r58 = r60 then
  (k18 S_61 (x3 + 7))
  else (some 0))))))))))
  else (if ((xs x3.toNatClampNeg) &&& 31) = 17 then
  (chk (0 ≤ (x3 + 1) ∧ (x3 + 1).toNatClampNeg < L)
  (chk (okc S 7 a1) (bnd2 (f_X7_slant S a1 (xs (x3 + 1).toNatClampNeg)) fun r62 S_63 =>
  (chk (0 ≤ (x3 + 1) ∧ (x3 + 1).toNatClampNeg < L)
  (chk (okc S_63 8 a2) (bnd2 (f_X8_slant S_63 a2 (xs (x3 + 1).toNatClampNeg)) fun r64 S_65 =>
  (if r62 = r64 then
  (k18 S_65 (x3 + 7))
  else (some 0))))))))
  else (if ((xs x3.toNatClampNeg) &&& 31) = 18 then
  (chk (0 ≤ (x3 + 1) ∧ (x3 + 1).toNatClampNeg < L)
  (chk (okc S 7 a1) (bnd2 (f_X7_slantSpeed S a1 (xs (x3 + 1).toNatClampNeg)) fun r66 S_67 =>
  (chk (0 ≤ (x3 + 1) ∧ (x3 + 1).toNatClampNeg < L)
  (chk (okc S_67 8 a2) (bnd2 (f_X8_slantSpeed S_67 a2 (xs (x3 + 1).toNatClampNeg)) fun r68 S_69 =>
  (if r66 = r68 then
  (k18 S_69 (x3 + 7))
  else (some 0))))))))
  else (if ((xs x3.toNatClampNeg) &&& 31) = 19 then
  (chk (0 ≤ (x3 + 1) ∧ (x3 + 1).toNatClampNeg < L)
  (chk (0 ≤ (x3 + 2) ∧ (x3 + 2).toNatClampNeg < L)
  (chk (okc S 7 a1) (bnd2 (f_X7_weighed S a1 (xs (x3 + 1).toNatClampNeg) (xs (x3 + 2).toNatClampNeg)) fun r70 S_71 =>
  (chk (0 ≤ (x3 + 1) ∧ (x3 + 1).toNatClampNeg < L)
  (chk (0 ≤ (x3 + 2) ∧ (x3 + 2).toNatClampNeg < L)
  (chk (okc S_71 8 a2) (bnd2 (f_X8_weighed S_71 a2 (xs (x3 + 1).toNatClampNeg) (xs (x3 + 2).toNatClampNeg)) fun r72 S_73 =>
  (if r70 = r72 then
  (k18 S_73 (x3 + 7))
  else (some 0))))))))))
  else (if ((xs x3.toNatClampNeg) &&& 31) = 20 then
  (chk (0 ≤ (x3 + 1) ∧ (x3 + 1).toNatClampNeg < L)
  (chk (0 ≤ (x3 + 2) ∧ (x3 + 2).toNatClampNeg < L)
  (chk (okc S 7 a1) (bnd2 (f_X7_judge S a1 (xs (x3 + 1).toNatClampNeg) (xs (x3 + 2).toNatClampNeg)) fun r74 S_75 =>
  (chk (0 ≤ (x3 + 1) ∧ (x3 + 1).toNatClampNeg < L)
  (chk (0 ≤ (x3 + 2) ∧ (x3 + 2).toNatClampNeg < L)
  (chk (okc S_75 8 a2) (bnd2 (f_X8_judge S_75 a2 (xs (x3 + 1).toNatClampNeg) (xs (x3 + 2).toNatClampNeg)) fun r76 S_77 =>
  (if r74 = r76 then
  (k18 S_77 (x3 + 7))
  else (some 0))))))))))
  else (if ((xs x3.toNatClampNeg) &&& 31) = 21 then
  (chk (0 ≤ (x3 + 1) ∧ (x3 + 1).toNatClampNeg < L)
  (chk (0 ≤ (x3 + 2) ∧ (x3 + 2).toNatClampNeg < L)
  (chk (okc S 7 a1) (bnd (f_X7_rowOf S a1 (xs (x3 + 1).toNatClampNeg) (xs (x3 + 2).toNatClampNeg)) fun r78 =>
  (chk (0 ≤ (x3 + 1) ∧ (x3 + 1).toNatClampNeg < L)
  (chk (0 ≤ (x3 + 2) ∧ (x3 + 2).toNatClampNeg < L)
  (chk (okc S 8 a2) (bnd (f_X8_rowOf S a2 (xs (x3 + 1).toNatClampNeg) (xs (x3 + 2).toNatClampNeg)) fun r79 =>
  (if r78 = r79 then
  (k18 S (x3 + 7))
  else (some 0))))))))))
  else (if ((xs x3.toNatClampNeg) &&& 31) = 22 then
  (chk (0 ≤ (x3 + 1) ∧ (x3 + 1).toNatClampNeg < L)
  (chk (0 ≤ (x3 + 2) ∧ (x3 + 2).toNatClampNeg < L)
  (chk (okc S 7 a1) (bnd2 (f_X7_bestWait S a1 (xs (x3 + 1).toNatClampNeg) (xs (x3 + 2).toNatClampNeg)) fun r80 S_81 =>
  (chk (0 ≤ (x3 + 1) ∧ (x3 + 1).toNatClampNeg < L)
  (chk (0 ≤ (x3 + 2) ∧ (x3 + 2).toNatClampNeg < L)
  (chk (okc S_81 8 a2) (bnd2 (f_X8_bestWait S_81 a2 (xs (x3 + 1).toNatClampNeg) (xs (x3 + 2).toNatClampNeg)) fun r82 S_83 =>
  (if r80 = r82 then
  (k18 S_83 (x3 + 7))
  else (some 0))))))))))
  else (if ((xs x3.toNatClampNeg) &&& 31) = 23 then
  (chk (0 ≤ (x3 + 1) ∧ (x3 + 1).toNatClampNeg < L)
  (chk (0 ≤ (x3 + 2) ∧ (x3 + 2).toNatClampNeg < L)
  (chk (okc S 7 a1) (bnd2 (f_X7_motions S a1 (xs (x3 + 1).toNatClampNeg) (xs (x3 + 2).toNatClampNeg)) fun r84 S_85 =>
  (chk (0 ≤ (x3 + 1) ∧ (x3 + 1).toNatClampNeg < L)
  (chk (0 ≤ (x3 + 2) ∧ (x3 + 2).toNatClampNeg < L)
  (chk (okc S_85 8 a2) (bnd2 (f_X8_motions S_85 a2 (xs (x3 + 1).toNatClampNeg) (xs (x3 + 2).toNatClampNeg)) fun r86 S_87 =>
  (if r84 = r86 then
  (k18 S_87 (x3 + 7))
  else (some 0))))))))))
  else (if ((xs x3.toNatClampNeg) &&& 31) = 24 then
  (chk (okc S 7 a1) (bnd2 (f_X7_periods S a1) fun r88 S_89 =>
  (chk (okc S_89 8 a2) (bnd2 (f_X8_periods S_89 a2) fun r90 S_91 =>
  (if r88 = r90 then
  (k18 S_91 (x3 + 7))
  else (some 0))))))
  else (if ((xs x3.toNatClampNeg) &&& 31) = 25 then
  (chk (0 ≤ (x3 + 1) ∧ (x3 + 1).toNatClampNeg < L)
  (chk (okc S 7 a1) (bnd2 (f_X7_fitting S a1 (xs (x3 + 1).toNatClampNeg)) fun r92 S_93 =>
  (chk (0 ≤ (x3 + 1) ∧ (x3 + 1).toNatClampNeg < L)
  (chk (okc S_93 8 a2) (bnd (f_X8_fitting S_93 a2 (xs (x3 + 1).toNatClampNeg)) fun r94 =>
  (if r92 = r94 then
  (k18 S_93 (x3 + 7))
  else (some 0))))))))
  else (if ((xs x3.toNatClampNeg) &&& 31) = 26 then
  (chk (0 ≤ (x3 + 1) ∧ (x3 + 1).toNatClampNeg < L)
  (chk (okc S 7 a1) (bnd (f_X7_count S a1 (xs (x3 + 1).toNatClampNeg)) fun r95 =>
  (chk (0 ≤ (x3 + 1) ∧ (x3 + 1).toNatClampNeg < L)
  (chk (okc S 8 a2) (bnd (f_X8_count S a2 (xs (x3 + 1).toNatClampNeg)) fun r96 =>
  (if r95 = r96 then
  (k18 S (x3 + 7))
  else (some 0))))))))
  else (if ((xs x3.toNatClampNeg) &&& 31) = 27 then
  (chk (okc S 7 a1) (bnd2 (f_X7_undo S a1) fun r97 S_98 =>
  (chk (okc S_98 8 a2) (bnd2 (f_X8_undo S_98 a2) fun r99 S_100 =>
  (if r97 = r99 then
  (k18 S_100 (x3 + 7))
  else (some 0))))))
  else (if ((xs x3.toNatClampNeg) &&& 31) = 28 then
  (chk (0 ≤ (x3 + 1) ∧ (x3 + 1).toNatClampNeg < L)
  (chk (okc S 7 a1) (bnd2 (f_X7_type S a1 (xs (x3 + 1).toNatClampNeg)) fun r101 S_102 =>
  (chk (0 ≤ (x3 + 1) ∧ (x3 + 1).toNatClampNeg < L)
  (chk (okc S_102 8 a2) (bnd2 (f_X8_type S_102 a2 (xs (x3 + 1).toNatClampNeg)) fun r103 S_104 =>
  (if r101 = r103 then
  (k18 S_104 (x3 + 7))
  else (some 0))))))))
  else (if ((xs x3.toNatClampNeg) &&& 31) = 29 then
  (chk (okc S 7 a1) (bnd2 (f_X7_clearText S a1) fun r105 S_106 =>
  (chk (okc S_106 8 a2) (bnd2 (f_X8_clearText S_106 a2) fun r107 S_108 =>
  (if r105 = r107 then
  (k18 S_108 (x3 + 7))
  else (some 0))))))
  else (if ((xs x3.toNatClampNeg) &&& 31) = 30 then
  (chk (0 ≤ (x3 + 1) ∧ (x3 + 1).toNatClampNeg < L)
  (chk (okc S 7 a1) (bnd2 (f_X7_fault S a1 (xs (x3 + 1).toNatClampNeg)) fun r109 S_110 =>
  (chk (0 ≤ (x3 + 1) ∧ (x3 + 1).toNatClampNeg < L)
  (chk (okc S_110 8 a2) (bnd2 (f_X8_fault S_110 a2 (xs (x3 + 1).toNatClampNeg)) fun r111 S_112 =>
  (if r109 = r111 then
  (k18 S_112 (x3 + 7))
  else (some 0))))))))
  else (if ((xs x3.toNatClampNeg) &&& 31) = 31 then
  (chk (okc S 7 a1) (bnd2 (f_X7_play S a1) fun r113 S_114 =>
  (chk (okc S_114 8 a2) (bnd2 (f_X8_play S_114 a2) fun r115 S_116 =>
  (if r113 = r115 then
  (k18 S_116 (x3 + 7))
  else (some 0))))))
  else (k18 S (x3 + 7))))))))))))))))))))))))))))))))))))
set_option maxRecDepth 100000 in
set_option maxHeartbeats 4000000 in
theorem w_L_law_B18 {X : CT} {g : GG} {b L : Nat} {xs : Nat → Int32} (hX : SX X g b L xs) (C : CX X g code RL ret 4 room_1) (a1 : Nat) (a2 : Nat) (kx18 : St → Option Int32) (hkx18 : ∀ (S : St), J X g (Ql X b) (cw (127, 10288)) 1140 [] [] S (kx18 S)) : ∀ (n : Nat) (S : St) (x3 : Int32), J X g (Ql X b) (cw (127, 10288)) 18 [(0, .ref b), (1, rv g a1), (2, rv g a2), (3, .int x3)] [] S (wl2 (f_L_law_B18 xs L a1 a2 kx18) n S x3) := by
  refine J.loop2 (lvf := fun (S : St) (x3 : Int32) => [(0, .ref b), (1, rv g a1), (2, rv g a2), (3, .int x3)]) (Sf := fun (S : St) (x3 : Int32) => S) ?_
  intro k18 hk18 S x3
  show J X g _ _ 18 [(0, .ref b), (1, rv g a1), (2, rv g a2), (3, .int x3)] [] S (f_L_law_B18 xs L a1 a2 kx18 k18 S x3)
  unfold f_L_law_B18
  refine J.iload_n (pc := 18) C dL_law_18 rfl rfl ?_
  refine J.sload_n (pc := 19) C dL_law_19 rfl rfl ?_
  refine J.slen (pc := 20) C hX dL_law_20 ?_
  refine J.bipush (pc := 21) C dL_law_21 kb_7 ?_
  refine J.isub (pc := 23) C dL_law_23 ?_
  refine J.icmp_gt (pc := 24) C (tgt := 1140) dL_law_24 rfl ?_ ?_
  · exact J.pick [] rfl (hkx18 _)
  · refine J.sload_n (pc := 27) C dL_law_27 rfl rfl ?_
    refine J.iload_n (pc := 28) C dL_law_28 rfl rfl ?_
    refine J.sld (pc := 29) C hX dL_law_29 ?_
    refine J.bipush (pc := 30) C dL_law_30 kb_31 ?_
    refine J.iand (pc := 32) C dL_law_32 ?_
    refine J.ite (fun h0 => ?_) (fun h0 => ?_)
    · refine J.tswIn (pc := 33) C (tgt := 176) 0 dL_law_33 h0 (by decide) (by decide) rfl rfl ?_
      refine J.aload_n (pc := 176) C (x := a1) dL_law_176 rfl rfl ?_
      refine J.sload_n (pc := 177) C dL_law_177 rfl rfl ?_
      refine J.iload_n (pc := 178) C dL_law_178 rfl rfl ?_
      refine J.iconst (pc := 179) C dL_law_179 ki_1 ?_
      refine J.iadd (pc := 180) C dL_law_180 ?_
      refine J.sld (pc := 181) C hX dL_law_181 ?_
      refine J.sload_n (pc := 182) C dL_law_182 rfl rfl ?_
      refine J.iload_n (pc := 183) C dL_law_183 rfl rfl ?_
      refine J.iconst (pc := 184) C dL_law_184 ki_2 ?_
      refine J.iadd (pc := 185) C dL_law_185 ?_
      refine J.sld (pc := 186) C hX dL_law_186 ?_
      refine J.vW (pc := 187) C mv_X7_set wm_RL_13 (fun l => c_X7_set l g S a1 (xs (x3 + 1).toNatClampNeg) (xs (x3 + 2).toNatClampNeg)) ⟨⟨Nat.le_of_ble_eq_true rfl, Nat.le_of_ble_eq_true rfl⟩, rfl, rfl⟩ rfl ⟨Nat.le_of_ble_eq_true rfl, Nat.le_of_ble_eq_true rfl⟩ rfl cat_n (Nat.le_of_ble_eq_true rfl) dL_law_187 (fun r5 S_6 => ?_)
      refine J.aload_n (pc := 190) C (x := a2) dL_law_190 rfl rfl ?_
      refine J.sload_n (pc := 191) C dL_law_191 rfl rfl ?_
      refine J.iload_n (pc := 192) C dL_law_192 rfl rfl ?_
      refine J.iconst (pc := 193) C dL_law_193 ki_1 ?_
      refine J.iadd (pc := 194) C dL_law_194 ?_
      refine J.sld (pc := 195) C hX dL_law_195 ?_
      refine J.sload_n (pc := 196) C dL_law_196 rfl rfl ?_
      refine J.iload_n (pc := 197) C dL_law_197 rfl rfl ?_
      refine J.iconst (pc := 198) C dL_law_198 ki_2 ?_
      refine J.iadd (pc := 199) C dL_law_199 ?_
      refine J.sld (pc := 200) C hX dL_law_200 ?_
      refine J.vW (pc := 201) C mv_X8_set wm_RL_17 (fun l => c_X8_set l g S_6 a2 (xs (x3 + 1).toNatClampNeg) (xs (x3 + 2).toNatClampNeg)) ⟨⟨Nat.le_of_ble_eq_true rfl, Nat.le_of_ble_eq_true rfl⟩, rfl, rfl⟩ rfl ⟨Nat.le_of_ble_eq_true rfl, Nat.le_of_ble_eq_true rfl⟩ rfl (cat_i cat_n) (Nat.le_of_ble_eq_true rfl) dL_law_201 (fun r7 S_8 => ?_)
      refine J.icmp_eq (pc := 204) C (tgt := 1134) dL_law_204 rfl ?_ ?_
      · refine J.iinc (pc := 1134) C (lv' := [(0, .ref b), (1, rv g a1), (2, rv g a2), (3, .int (x3 + 7))]) dL_law_1134 rfl (Nat.le_of_ble_eq_true rfl) ki_7 rfl ?_
        refine J.goto (pc := 1137) C (tgt := 18) dL_law_1137 rfl ?_
        exact (hk18 _ _)
      · refine J.iconst (pc := 207) C dL_law_207 ki_0 ?_
        exact J.lret0
    · refine J.ite (fun h1 => ?_) (fun h1 => ?_)
      · refine J.tswIn (pc := 33) C (tgt := 209) 1 dL_law_33 h1 (by decide) (by decide) rfl rfl ?_
        refine J.aload_n (pc := 209) C (x := a1) dL_law_209 rfl rfl ?_
        refine J.sload_n (pc := 210) C dL_law_210 rfl rfl ?_
        refine J.iload_n (pc := 211) C dL_law_211 rfl rfl ?_
        refine J.iconst (pc := 212) C dL_law_212 ki_1 ?_
        refine J.iadd (pc := 213) C dL_law_213 ?_
        refine J.sld (pc := 214) C hX dL_law_214 ?_
        refine J.sload_n (pc := 215) C dL_law_215 rfl rfl ?_
        refine J.iload_n (pc := 216) C dL_law_216 rfl rfl ?_
        refine J.iconst (pc := 217) C dL_law_217 ki_2 ?_
        refine J.iadd (pc := 218) C dL_law_218 ?_
        refine J.sld (pc := 219) C hX dL_law_219 ?_
        refine J.sload_n (pc := 220) C dL_law_220 rfl rfl ?_
        refine J.iload_n (pc := 221) C dL_law_221 rfl rfl ?_
        refine J.iconst (pc := 222) C dL_law_222 ki_3 ?_
        refine J.iadd (pc := 223) C dL_law_223 ?_
        refine J.sld (pc := 224) C hX dL_law_224 ?_
        refine J.sload_n (pc := 225) C dL_law_225 rfl rfl ?_
        refine J.iload_n (pc := 226) C dL_law_226 rfl rfl ?_
        refine J.iconst (pc := 227) C dL_law_227 ki_4 ?_
        refine J.iadd (pc := 228) C dL_law_228 ?_
        refine J.sld (pc := 229) C hX dL_law_229 ?_
        refine J.sload_n (pc := 230) C dL_law_230 rfl rfl ?_
        refine J.iload_n (pc := 231) C dL_law_231 rfl rfl ?_
        refine J.iconst (pc := 232) C dL_law_232 ki_5 ?_
        refine J.iadd (pc := 233) C dL_law_233 ?_
        refine J.sld (pc := 234) C hX dL_law_234 ?_
        refine J.sload_n (pc := 235) C dL_law_235 rfl rfl ?_
        refine J.iload_n (pc := 236) C dL_law_236 rfl rfl ?_
        refine J.bipush (pc := 237) C dL_law_237 kb_6 ?_
        refine J.iadd (pc := 239) C dL_law_239 ?_
        refine J.sld (pc := 240) C hX dL_law_240 ?_
        refine J.vW (pc := 241) C mv_X7_thing wm_RL_18 (fun l => c_X7_thing l g S a1 (xs (x3 + 1).toNatClampNeg) (xs (x3 + 2).toNatClampNeg) (xs (x3 + 3).toNatClampNeg) (xs (x3 + 4).toNatClampNeg) (xs (x3 + 5).toNatClampNeg) (xs (x3 + 6).toNatClampNeg)) ⟨⟨Nat.le_of_ble_eq_true rfl, Nat.le_of_ble_eq_true rfl⟩, rfl, rfl⟩ rfl ⟨Nat.le_of_ble_eq_true rfl, Nat.le_of_ble_eq_true rfl⟩ rfl cat_n (Nat.le_of_ble_eq_true rfl) dL_law_241 (fun r9 S_10 => ?_)
        refine J.aload_n (pc := 244) C (x := a2) dL_law_244 rfl rfl ?_
        refine J.sload_n (pc := 245) C dL_law_245 rfl rfl ?_
        refine J.iload_n (pc := 246) C dL_law_246 rfl rfl ?_
        refine J.iconst (pc := 247) C dL_law_247 ki_1 ?_
        refine J.iadd (pc := 248) C dL_law_248 ?_
        refine J.sld (pc := 249) C hX dL_law_249 ?_
        refine J.sload_n (pc := 250) C dL_law_250 rfl rfl ?_
        refine J.iload_n (pc := 251) C dL_law_251 rfl rfl ?_
        refine J.iconst (pc := 252) C dL_law_252 ki_2 ?_
        refine J.iadd (pc := 253) C dL_law_253 ?_
        refine J.sld (pc := 254) C hX dL_law_254 ?_
        refine J.sload_n (pc := 255) C dL_law_255 rfl rfl ?_
        refine J.iload_n (pc := 256) C dL_law_256 rfl rfl ?_
        refine J.iconst (pc := 257) C dL_law_257 ki_3 ?_
        refine J.iadd (pc := 258) C dL_law_258 ?_
        refine J.sld (pc := 259) C hX dL_law_259 ?_
        refine J.sload_n (pc := 260) C dL_law_260 rfl rfl ?_
        refine J.iload_n (pc := 261) C dL_law_261 rfl rfl ?_
        refine J.iconst (pc := 262) C dL_law_262 ki_4 ?_
        refine J.iadd (pc := 263) C dL_law_263 ?_
        refine J.sld (pc := 264) C hX dL_law_264 ?_
        refine J.sload_n (pc := 265) C dL_law_265 rfl rfl ?_
        refine J.iload_n (pc := 266) C dL_law_266 rfl rfl ?_
        refine J.iconst (pc := 267) C dL_law_267 ki_5 ?_
        refine J.iadd (pc := 268) C dL_law_268 ?_
        refine J.sld (pc := 269) C hX dL_law_269 ?_
        refine J.sload_n (pc := 270) C dL_law_270 rfl rfl ?_
        refine J.iload_n (pc := 271) C dL_law_271 rfl rfl ?_
        refine J.bipush (pc := 272) C dL_law_272 kb_6 ?_
        refine J.iadd (pc := 274) C dL_law_274 ?_
        refine J.sld (pc := 275) C hX dL_law_275 ?_
        refine J.vW (pc := 276) C mv_X8_thing wm_RL_22 (fun l => c_X8_thing l g S_10 a2 (xs (x3 + 1).toNatClampNeg) (xs (x3 + 2).toNatClampNeg) (xs (x3 + 3).toNatClampNeg) (xs (x3 + 4).toNatClampNeg) (xs (x3 + 5).toNatClampNeg) (xs (x3 + 6).toNatClampNeg)) ⟨⟨Nat.le_of_ble_eq_true rfl, Nat.le_of_ble_eq_true rfl⟩, rfl, rfl⟩ rfl ⟨Nat.le_of_ble_eq_true rfl, Nat.le_of_ble_eq_true rfl⟩ rfl (cat_i cat_n) (Nat.le_of_ble_eq_true rfl) dL_law_276 (fun r11 S_12 => ?_)
        refine J.icmp_eq (pc := 279) C (tgt := 1134) dL_law_279 rfl ?_ ?_
        · refine J.iinc (pc := 1134) C (lv' := [(0, .ref b), (1, rv g a1), (2, rv g a2), (3, .int (x3 + 7))]) dL_law_1134 rfl (Nat.le_of_ble_eq_true rfl) ki_7 rfl ?_
          refine J.goto (pc := 1137) C (tgt := 18) dL_law_1137 rfl ?_
          exact (hk18 _ _)
        · refine J.iconst (pc := 282) C dL_law_282 ki_0 ?_
          exact J.lret0
      · refine J.ite (fun h2 => ?_) (fun h2 => ?_)
        · refine J.tswIn (pc := 33) C (tgt := 284) 2 dL_law_33 h2 (by decide) (by decide) rfl rfl ?_
          refine J.aload_n (pc := 284) C (x := a1) dL_law_284 rfl rfl ?_
          refine J.sload_n (pc := 285) C dL_law_285 rfl rfl ?_
          refine J.iload_n (pc := 286) C dL_law_286 rfl rfl ?_
          refine J.iconst (pc := 287) C dL_law_287 ki_1 ?_
          refine J.iadd (pc := 288) C dL_law_288 ?_
          refine J.sld (pc := 289) C hX dL_law_289 ?_
          refine J.sload_n (pc := 290) C dL_law_290 rfl rfl ?_
          refine J.iload_n (pc := 291) C dL_law_291 rfl rfl ?_
          refine J.iconst (pc := 292) C dL_law_292 ki_2 ?_
          refine J.iadd (pc := 293) C dL_law_293 ?_
          refine J.sld (pc := 294) C hX dL_law_294 ?_
          refine J.vW (pc := 295) C mv_X7_turn wm_RL_23 (fun l => c_X7_turn l g S a1 (xs (x3 + 1).toNatClampNeg) (xs (x3 + 2).toNatClampNeg)) ⟨⟨Nat.le_of_ble_eq_true rfl, Nat.le_of_ble_eq_true rfl⟩, rfl, rfl⟩ rfl ⟨Nat.le_of_ble_eq_true rfl, Nat.le_of_ble_eq_true rfl⟩ rfl cat_n (Nat.le_of_ble_eq_true rfl) dL_law_295 (fun r13 S_14 => ?_)
          refine J.aload_n (pc := 298) C (x := a2) dL_law_298 rfl rfl ?_
          refine J.sload_n (pc := 299) C dL_law_299 rfl rfl ?_
          refine J.iload_n (pc := 300) C dL_law_300 rfl rfl ?_
          refine J.iconst (pc := 301) C dL_law_301 ki_1 ?_
          refine J.iadd (pc := 302) C dL_law_302 ?_
          refine J.sld (pc := 303) C hX dL_law_303 ?_
          refine J.sload_n (pc := 304) C dL_law_304 rfl rfl ?_
          refine J.iload_n (pc := 305) C dL_law_305 rfl rfl ?_
          refine J.iconst (pc := 306) C dL_law_306 ki_2 ?_
          refine J.iadd (pc := 307) C dL_law_307 ?_
          refine J.sld (pc := 308) C hX dL_law_308 ?_
          refine J.vW (pc := 309) C mv_X8_turn wm_RL_26 (fun l => c_X8_turn l g S_14 a2 (xs (x3 + 1).toNatClampNeg) (xs (x3 + 2).toNatClampNeg)) ⟨⟨Nat.le_of_ble_eq_true rfl, Nat.le_of_ble_eq_true rfl⟩, rfl, rfl⟩ rfl ⟨Nat.le_of_ble_eq_true rfl, Nat.le_of_ble_eq_true rfl⟩ rfl (cat_i cat_n) (Nat.le_of_ble_eq_true rfl) dL_law_309 (fun r15 S_16 => ?_)
          refine J.icmp_eq (pc := 312) C (tgt := 1134) dL_law_312 rfl ?_ ?_
          · refine J.iinc (pc := 1134) C (lv' := [(0, .ref b), (1, rv g a1), (2, rv g a2), (3, .int (x3 + 7))]) dL_law_1134 rfl (Nat.le_of_ble_eq_true rfl) ki_7 rfl ?_
            refine J.goto (pc := 1137) C (tgt := 18) dL_law_1137 rfl ?_
            exact (hk18 _ _)
          · refine J.iconst (pc := 315) C dL_law_315 ki_0 ?_
            exact J.lret0
        · refine J.ite (fun h3 => ?_) (fun h3 => ?_)
          · refine J.tswIn (pc := 33) C (tgt := 317) 3 dL_law_33 h3 (by decide) (by decide) rfl rfl ?_
            refine J.aload_n (pc := 317) C (x := a1) dL_law_317 rfl rfl ?_
            refine J.sload_n (pc := 318) C dL_law_318 rfl rfl ?_
            refine J.iload_n (pc := 319) C dL_law_319 rfl rfl ?_
            refine J.iconst (pc := 320) C dL_law_320 ki_1 ?_
            refine J.iadd (pc := 321) C dL_law_321 ?_
            refine J.sld (pc := 322) C hX dL_law_322 ?_
            refine J.sload_n (pc := 323) C dL_law_323 rfl rfl ?_
            refine J.iload_n (pc := 324) C dL_law_324 rfl rfl ?_
            refine J.iconst (pc := 325) C dL_law_325 ki_2 ?_
            refine J.iadd (pc := 326) C dL_law_326 ?_
            refine J.sld (pc := 327) C hX dL_law_327 ?_
            refine J.vI (pc := 328) C mv_X7_thingOf wm_RL_27 (fun l => c_X7_thingOf l g S a1 (xs (x3 + 1).toNatClampNeg) (xs (x3 + 2).toNatClampNeg)) ⟨⟨Nat.le_of_ble_eq_true rfl, Nat.le_of_ble_eq_true rfl⟩, rfl, rfl⟩ rfl ⟨Nat.le_of_ble_eq_true rfl, Nat.le_of_ble_eq_true rfl⟩ rfl cat_n (Nat.le_of_ble_eq_true rfl) dL_law_328 (fun r17 => ?_)
            refine J.aload_n (pc := 331) C (x := a2) dL_law_331 rfl rfl ?_
            refine J.sload_n (pc := 332) C dL_law_332 rfl rfl ?_
            refine J.iload_n (pc := 333) C dL_law_333 rfl rfl ?_
            refine J.iconst (pc := 334) C dL_law_334 ki_1 ?_
            refine J.iadd (pc := 335) C dL_law_335 ?_
            refine J.sld (pc := 336) C hX dL_law_336 ?_
            refine J.sload_n (pc := 337) C dL_law_337 rfl rfl ?_
            refine J.iload_n (pc := 338) C dL_law_338 rfl rfl ?_
            refine J.iconst (pc := 339) C dL_law_339 ki_2 ?_
            refine J.iadd (pc := 340) C dL_law_340 ?_
            refine J.sld (pc := 341) C hX dL_law_341 ?_
            refine J.vI (pc := 342) C mv_X8_thingOf wm_RL_30 (fun l => c_X8_thingOf l g S a2 (xs (x3 + 1).toNatClampNeg) (xs (x3 + 2).toNatClampNeg)) ⟨⟨Nat.le_of_ble_eq_true rfl, Nat.le_of_ble_eq_true rfl⟩, rfl, rfl⟩ rfl ⟨Nat.le_of_ble_eq_true rfl, Nat.le_of_ble_eq_true rfl⟩ rfl (cat_i cat_n) (Nat.le_of_ble_eq_true rfl) dL_law_342 (fun r18 => ?_)
            refine J.icmp_eq (pc := 345) C (tgt := 1134) dL_law_345 rfl ?_ ?_
            · refine J.iinc (pc := 1134) C (lv' := [(0, .ref b), (1, rv g a1), (2, rv g a2), (3, .int (x3 + 7))]) dL_law_1134 rfl (Nat.le_of_ble_eq_true rfl) ki_7 rfl ?_
              refine J.goto (pc := 1137) C (tgt := 18) dL_law_1137 rfl ?_
              exact (hk18 _ _)
            · refine J.iconst (pc := 348) C dL_law_348 ki_0 ?_
              exact J.lret0
          · refine J.ite (fun h4 => ?_) (fun h4 => ?_)
            · refine J.tswIn (pc := 33) C (tgt := 350) 4 dL_law_33 h4 (by decide) (by decide) rfl rfl ?_
              refine J.aload_n (pc := 350) C (x := a1) dL_law_350 rfl rfl ?_
              refine J.sload_n (pc := 351) C dL_law_351 rfl rfl ?_
              refine J.iload_n (pc := 352) C dL_law_352 rfl rfl ?_
              refine J.iconst (pc := 353) C dL_law_353 ki_1 ?_
              refine J.iadd (pc := 354) C dL_law_354 ?_
              refine J.sld (pc := 355) C hX dL_law_355 ?_
              refine J.sload_n (pc := 356) C dL_law_356 rfl rfl ?_
              refine J.iload_n (pc := 357) C dL_law_357 rfl rfl ?_
              refine J.iconst (pc := 358) C dL_law_358 ki_2 ?_
              refine J.iadd (pc := 359) C dL_law_359 ?_
              refine J.sld (pc := 360) C hX dL_law_360 ?_
              refine J.vW (pc := 361) C mv_X7_blind wm_RL_31 (fun l => c_X7_blind l g S a1 (xs (x3 + 1).toNatClampNeg) (xs (x3 + 2).toNatClampNeg)) ⟨⟨Nat.le_of_ble_eq_true rfl, Nat.le_of_ble_eq_true rfl⟩, rfl, rfl⟩ rfl ⟨Nat.le_of_ble_eq_true rfl, Nat.le_of_ble_eq_true rfl⟩ rfl cat_n (Nat.le_of_ble_eq_true rfl) dL_law_361 (fun r19 S_20 => ?_)
              refine J.aload_n (pc := 364) C (x := a2) dL_law_364 rfl rfl ?_
              refine J.sload_n (pc := 365) C dL_law_365 rfl rfl ?_
              refine J.iload_n (pc := 366) C dL_law_366 rfl rfl ?_
              refine J.iconst (pc := 367) C dL_law_367 ki_1 ?_
              refine J.iadd (pc := 368) C dL_law_368 ?_
              refine J.sld (pc := 369) C hX dL_law_369 ?_
              refine J.sload_n (pc := 370) C dL_law_370 rfl rfl ?_
              refine J.iload_n (pc := 371) C dL_law_371 rfl rfl ?_
              refine J.iconst (pc := 372) C dL_law_372 ki_2 ?_
              refine J.iadd (pc := 373) C dL_law_373 ?_
              refine J.sld (pc := 374) C hX dL_law_374 ?_
              refine J.vW (pc := 375) C mv_X8_blind wm_RL_34 (fun l => c_X8_blind l g S_20 a2 (xs (x3 + 1).toNatClampNeg) (xs (x3 + 2).toNatClampNeg)) ⟨⟨Nat.le_of_ble_eq_true rfl, Nat.le_of_ble_eq_true rfl⟩, rfl, rfl⟩ rfl ⟨Nat.le_of_ble_eq_true rfl, Nat.le_of_ble_eq_true rfl⟩ rfl (cat_i cat_n) (Nat.le_of_ble_eq_true rfl) dL_law_375 (fun r21 S_22 => ?_)
              refine J.icmp_eq (pc := 378) C (tgt := 1134) dL_law_378 rfl ?_ ?_
              · refine J.iinc (pc := 1134) C (lv' := [(0, .ref b), (1, rv g a1), (2, rv g a2), (3, .int (x3 + 7))]) dL_law_1134 rfl (Nat.le_of_ble_eq_true rfl) ki_7 rfl ?_
                refine J.goto (pc := 1137) C (tgt := 18) dL_law_1137 rfl ?_
                exact (hk18 _ _)
              · refine J.iconst (pc := 381) C dL_law_381 ki_0 ?_
                exact J.lret0
            · refine J.ite (fun h5 => ?_) (fun h5 => ?_)
              · refine J.tswIn (pc := 33) C (tgt := 383) 5 dL_law_33 h5 (by decide) (by decide) rfl rfl ?_
                refine J.aload_n (pc := 383) C (x := a1) dL_law_383 rfl rfl ?_
                refine J.sload_n (pc := 384) C dL_law_384 rfl rfl ?_
                refine J.iload_n (pc := 385) C dL_law_385 rfl rfl ?_
                refine J.iconst (pc := 386) C dL_law_386 ki_1 ?_
                refine J.iadd (pc := 387) C dL_law_387 ?_
                refine J.sld (pc := 388) C hX dL_law_388 ?_
                refine J.sload_n (pc := 389) C dL_law_389 rfl rfl ?_
                refine J.iload_n (pc := 390) C dL_law_390 rfl rfl ?_
                refine J.iconst (pc := 391) C dL_law_391 ki_2 ?_
                refine J.iadd (pc := 392) C dL_law_392 ?_
                refine J.sld (pc := 393) C hX dL_law_393 ?_
                refine J.sload_n (pc := 394) C dL_law_394 rfl rfl ?_
                refine J.iload_n (pc := 395) C dL_law_395 rfl rfl ?_
                refine J.iconst (pc := 396) C dL_law_396 ki_3 ?_
                refine J.iadd (pc := 397) C dL_law_397 ?_
                refine J.sld (pc := 398) C hX dL_law_398 ?_
                refine J.vW (pc := 399) C mv_X7_shows wm_RL_35 (fun l => c_X7_shows l g S a1 (xs (x3 + 1).toNatClampNeg) (xs (x3 + 2).toNatClampNeg) (xs (x3 + 3).toNatClampNeg)) ⟨⟨Nat.le_of_ble_eq_true rfl, Nat.le_of_ble_eq_true rfl⟩, rfl, rfl⟩ rfl ⟨Nat.le_of_ble_eq_true rfl, Nat.le_of_ble_eq_true rfl⟩ rfl cat_n (Nat.le_of_ble_eq_true rfl) dL_law_399 (fun r23 S_24 => ?_)
                refine J.aload_n (pc := 402) C (x := a2) dL_law_402 rfl rfl ?_
                refine J.sload_n (pc := 403) C dL_law_403 rfl rfl ?_
                refine J.iload_n (pc := 404) C dL_law_404 rfl rfl ?_
                refine J.iconst (pc := 405) C dL_law_405 ki_1 ?_
                refine J.iadd (pc := 406) C dL_law_406 ?_
                refine J.sld (pc := 407) C hX dL_law_407 ?_
                refine J.sload_n (pc := 408) C dL_law_408 rfl rfl ?_
                refine J.iload_n (pc := 409) C dL_law_409 rfl rfl ?_
                refine J.iconst (pc := 410) C dL_law_410 ki_2 ?_
                refine J.iadd (pc := 411) C dL_law_411 ?_
                refine J.sld (pc := 412) C hX dL_law_412 ?_
                refine J.sload_n (pc := 413) C dL_law_413 rfl rfl ?_
                refine J.iload_n (pc := 414) C dL_law_414 rfl rfl ?_
                refine J.iconst (pc := 415) C dL_law_415 ki_3 ?_
                refine J.iadd (pc := 416) C dL_law_416 ?_
                refine J.sld (pc := 417) C hX dL_law_417 ?_
                refine J.vI (pc := 418) C mv_X8_shows wm_RL_39 (fun l => c_X8_shows l g S_24 a2 (xs (x3 + 1).toNatClampNeg) (xs (x3 + 2).toNatClampNeg) (xs (x3 + 3).toNatClampNeg)) ⟨⟨Nat.le_of_ble_eq_true rfl, Nat.le_of_ble_eq_true rfl⟩, rfl, rfl⟩ rfl ⟨Nat.le_of_ble_eq_true rfl, Nat.le_of_ble_eq_true rfl⟩ rfl (cat_i cat_n) (Nat.le_of_ble_eq_true rfl) dL_law_418 (fun r25 => ?_)
                refine J.icmp_eq (pc := 421) C (tgt := 1134) dL_law_421 rfl ?_ ?_
                · refine J.iinc (pc := 1134) C (lv' := [(0, .ref b), (1, rv g a1), (2, rv g a2), (3, .int (x3 + 7))]) dL_law_1134 rfl (Nat.le_of_ble_eq_true rfl) ki_7 rfl ?_
                  refine J.goto (pc := 1137) C (tgt := 18) dL_law_1137 rfl ?_
                  exact (hk18 _ _)
                · refine J.iconst (pc := 424) C dL_law_424 ki_0 ?_
                  exact J.lret0
              · refine J.ite (fun h6 => ?_) (fun h6 => ?_)
                · refine J.tswIn (pc := 33) C (tgt := 426) 6 dL_law_33 h6 (by decide) (by decide) rfl rfl ?_
                  refine J.aload_n (pc := 426) C (x := a1) dL_law_426 rfl rfl ?_
                  refine J.vW (pc := 427) C mv_X7_shoot wm_RL_40 (fun l => c_X7_shoot l g S a1) ⟨⟨Nat.le_of_ble_eq_true rfl, Nat.le_of_ble_eq_true rfl⟩, rfl, rfl⟩ rfl ⟨Nat.le_of_ble_eq_true rfl, Nat.le_of_ble_eq_true rfl⟩ rfl cat_n (Nat.le_of_ble_eq_true rfl) dL_law_427 (fun r26 S_27 => ?_)
                  refine J.aload_n (pc := 430) C (x := a2) dL_law_430 rfl rfl ?_
                  refine J.vW (pc := 431) C mv_X8_shoot wm_RL_44 (fun l => c_X8_shoot l g S_27 a2) ⟨⟨Nat.le_of_ble_eq_true rfl, Nat.le_of_ble_eq_true rfl⟩, rfl, rfl⟩ rfl ⟨Nat.le_of_ble_eq_true rfl, Nat.le_of_ble_eq_true rfl⟩ rfl (cat_i cat_n) (Nat.le_of_ble_eq_true rfl) dL_law_431 (fun r28 S_29 => ?_)
                  refine J.icmp_eq (pc := 434) C (tgt := 1134) dL_law_434 rfl ?_ ?_
                  · refine J.iinc (pc := 1134) C (lv' := [(0, .ref b), (1, rv g a1), (2, rv g a2), (3, .int (x3 + 7))]) dL_law_1134 rfl (Nat.le_of_ble_eq_true rfl) ki_7 rfl ?_
                    refine J.goto (pc := 1137) C (tgt := 18) dL_law_1137 rfl ?_
                    exact (hk18 _ _)
                  · refine J.iconst (pc := 437) C dL_law_437 ki_0 ?_
                    exact J.lret0
                · refine J.ite (fun h7 => ?_) (fun h7 => ?_)
                  · refine J.tswIn (pc := 33) C (tgt := 439) 7 dL_law_33 h7 (by decide) (by decide) rfl rfl ?_
                    refine J.aload_n (pc := 439) C (x := a1) dL_law_439 rfl rfl ?_
                    refine J.sload_n (pc := 440) C dL_law_440 rfl rfl ?_
                    refine J.iload_n (pc := 441) C dL_law_441 rfl rfl ?_
                    refine J.iconst (pc := 442) C dL_law_442 ki_1 ?_
                    refine J.iadd (pc := 443) C dL_law_443 ?_
                    refine J.sld (pc := 444) C hX dL_law_444 ?_
                    refine J.vW (pc := 445) C mv_X7_forget wm_RL_45 (fun l => c_X7_forget l g S a1 (xs (x3 + 1).toNatClampNeg)) ⟨⟨Nat.le_of_ble_eq_true rfl, Nat.le_of_ble_eq_true rfl⟩, rfl, rfl⟩ rfl ⟨Nat.le_of_ble_eq_true rfl, Nat.le_of_ble_eq_true rfl⟩ rfl cat_n (Nat.le_of_ble_eq_true rfl) dL_law_445 (fun r30 S_31 => ?_)
                    refine J.aload_n (pc := 448) C (x := a2) dL_law_448 rfl rfl ?_
                    refine J.sload_n (pc := 449) C dL_law_449 rfl rfl ?_
                    refine J.iload_n (pc := 450) C dL_law_450 rfl rfl ?_
                    refine J.iconst (pc := 451) C dL_law_451 ki_1 ?_
                    refine J.iadd (pc := 452) C dL_law_452 ?_
                    refine J.sld (pc := 453) C hX dL_law_453 ?_
                    refine J.vW (pc := 454) C mv_X8_forget wm_RL_49 (fun l => c_X8_forget l g S_31 a2 (xs (x3 + 1).toNatClampNeg)) ⟨⟨Nat.le_of_ble_eq_true rfl, Nat.le_of_ble_eq_true rfl⟩, rfl, rfl⟩ rfl ⟨Nat.le_of_ble_eq_true rfl, Nat.le_of_ble_eq_true rfl⟩ rfl (cat_i cat_n) (Nat.le_of_ble_eq_true rfl) dL_law_454 (fun r32 S_33 => ?_)
                    refine J.icmp_eq (pc := 457) C (tgt := 1134) dL_law_457 rfl ?_ ?_
                    · refine J.iinc (pc := 1134) C (lv' := [(0, .ref b), (1, rv g a1), (2, rv g a2), (3, .int (x3 + 7))]) dL_law_1134 rfl (Nat.le_of_ble_eq_true rfl) ki_7 rfl ?_
                      refine J.goto (pc := 1137) C (tgt := 18) dL_law_1137 rfl ?_
                      exact (hk18 _ _)
                    · refine J.iconst (pc := 460) C dL_law_460 ki_0 ?_
                      exact J.lret0
                  · refine J.ite (fun h8 => ?_) (fun h8 => ?_)
                    · refine J.tswIn (pc := 33) C (tgt := 462) 8 dL_law_33 h8 (by decide) (by decide) rfl rfl ?_
                      refine J.aload_n (pc := 462) C (x := a1) dL_law_462 rfl rfl ?_
                      refine J.sload_n (pc := 463) C dL_law_463 rfl rfl ?_
                      refine J.iload_n (pc := 464) C dL_law_464 rfl rfl ?_
                      refine J.iconst (pc := 465) C dL_law_465 ki_1 ?_
                      refine J.iadd (pc := 466) C dL_law_466 ?_
                      refine J.sld (pc := 467) C hX dL_law_467 ?_
                      refine J.sload_n (pc := 468) C dL_law_468 rfl rfl ?_
                      refine J.iload_n (pc := 469) C dL_law_469 rfl rfl ?_
                      refine J.iconst (pc := 470) C dL_law_470 ki_2 ?_
                      refine J.iadd (pc := 471) C dL_law_471 ?_
                      refine J.sld (pc := 472) C hX dL_law_472 ?_
                      refine J.vI (pc := 473) C mv_X7_frameOf wm_RL_50 (fun l => c_X7_frameOf l g S a1 (xs (x3 + 1).toNatClampNeg) (xs (x3 + 2).toNatClampNeg)) ⟨⟨Nat.le_of_ble_eq_true rfl, Nat.le_of_ble_eq_true rfl⟩, rfl, rfl⟩ rfl ⟨Nat.le_of_ble_eq_true rfl, Nat.le_of_ble_eq_true rfl⟩ rfl cat_n (Nat.le_of_ble_eq_true rfl) dL_law_473 (fun r34 => ?_)
                      refine J.aload_n (pc := 476) C (x := a2) dL_law_476 rfl rfl ?_
                      refine J.sload_n (pc := 477) C dL_law_477 rfl rfl ?_
                      refine J.iload_n (pc := 478) C dL_law_478 rfl rfl ?_
                      refine J.iconst (pc := 479) C dL_law_479 ki_1 ?_
                      refine J.iadd (pc := 480) C dL_law_480 ?_
                      refine J.sld (pc := 481) C hX dL_law_481 ?_
                      refine J.sload_n (pc := 482) C dL_law_482 rfl rfl ?_
                      refine J.iload_n (pc := 483) C dL_law_483 rfl rfl ?_
                      refine J.iconst (pc := 484) C dL_law_484 ki_2 ?_
                      refine J.iadd (pc := 485) C dL_law_485 ?_
                      refine J.sld (pc := 486) C hX dL_law_486 ?_
                      refine J.vI (pc := 487) C mv_X8_frameOf wm_RL_53 (fun l => c_X8_frameOf l g S a2 (xs (x3 + 1).toNatClampNeg) (xs (x3 + 2).toNatClampNeg)) ⟨⟨Nat.le_of_ble_eq_true rfl, Nat.le_of_ble_eq_true rfl⟩, rfl, rfl⟩ rfl ⟨Nat.le_of_ble_eq_true rfl, Nat.le_of_ble_eq_true rfl⟩ rfl (cat_i cat_n) (Nat.le_of_ble_eq_true rfl) dL_law_487 (fun r35 => ?_)
                      refine J.icmp_eq (pc := 490) C (tgt := 1134) dL_law_490 rfl ?_ ?_
                      · refine J.iinc (pc := 1134) C (lv' := [(0, .ref b), (1, rv g a1), (2, rv g a2), (3, .int (x3 + 7))]) dL_law_1134 rfl (Nat.le_of_ble_eq_true rfl) ki_7 rfl ?_
                        refine J.goto (pc := 1137) C (tgt := 18) dL_law_1137 rfl ?_
                        exact (hk18 _ _)
                      · refine J.iconst (pc := 493) C dL_law_493 ki_0 ?_
                        exact J.lret0
                    · refine J.ite (fun h9 => ?_) (fun h9 => ?_)
                      · refine J.tswIn (pc := 33) C (tgt := 495) 9 dL_law_33 h9 (by decide) (by decide) rfl rfl ?_
                        refine J.aload_n (pc := 495) C (x := a1) dL_law_495 rfl rfl ?_
                        refine J.sload_n (pc := 496) C dL_law_496 rfl rfl ?_
                        refine J.iload_n (pc := 497) C dL_law_497 rfl rfl ?_
                        refine J.iconst (pc := 498) C dL_law_498 ki_1 ?_
                        refine J.iadd (pc := 499) C dL_law_499 ?_
                        refine J.sld (pc := 500) C hX dL_law_500 ?_
                        refine J.sload_n (pc := 501) C dL_law_501 rfl rfl ?_
                        refine J.iload_n (pc := 502) C dL_law_502 rfl rfl ?_
                        refine J.iconst (pc := 503) C dL_law_503 ki_2 ?_
                        refine J.iadd (pc := 504) C dL_law_504 ?_
                        refine J.sld (pc := 505) C hX dL_law_505 ?_
                        refine J.sload_n (pc := 506) C dL_law_506 rfl rfl ?_
                        refine J.iload_n (pc := 507) C dL_law_507 rfl rfl ?_
                        refine J.iconst (pc := 508) C dL_law_508 ki_3 ?_
                        refine J.iadd (pc := 509) C dL_law_509 ?_
                        refine J.sld (pc := 510) C hX dL_law_510 ?_
                        refine J.vI (pc := 511) C mv_X7_pixel wm_RL_54 (fun l => c_X7_pixel l g S a1 (xs (x3 + 1).toNatClampNeg) (xs (x3 + 2).toNatClampNeg) (xs (x3 + 3).toNatClampNeg)) ⟨⟨Nat.le_of_ble_eq_true rfl, Nat.le_of_ble_eq_true rfl⟩, rfl, rfl⟩ rfl ⟨Nat.le_of_ble_eq_true rfl, Nat.le_of_ble_eq_true rfl⟩ rfl cat_n (Nat.le_of_ble_eq_true rfl) dL_law_511 (fun r36 => ?_)
                        refine J.aload_n (pc := 514) C (x := a2) dL_law_514 rfl rfl ?_
                        refine J.sload_n (pc := 515) C dL_law_515 rfl rfl ?_
                        refine J.iload_n (pc := 516) C dL_law_516 rfl rfl ?_
                        refine J.iconst (pc := 517) C dL_law_517 ki_1 ?_
                        refine J.iadd (pc := 518) C dL_law_518 ?_
                        refine J.sld (pc := 519) C hX dL_law_519 ?_
                        refine J.sload_n (pc := 520) C dL_law_520 rfl rfl ?_
                        refine J.iload_n (pc := 521) C dL_law_521 rfl rfl ?_
                        refine J.iconst (pc := 522) C dL_law_522 ki_2 ?_
                        refine J.iadd (pc := 523) C dL_law_523 ?_
                        refine J.sld (pc := 524) C hX dL_law_524 ?_
                        refine J.sload_n (pc := 525) C dL_law_525 rfl rfl ?_
                        refine J.iload_n (pc := 526) C dL_law_526 rfl rfl ?_
                        refine J.iconst (pc := 527) C dL_law_527 ki_3 ?_
                        refine J.iadd (pc := 528) C dL_law_528 ?_
                        refine J.sld (pc := 529) C hX dL_law_529 ?_
                        refine J.vI (pc := 530) C mv_X8_pixel wm_RL_57 (fun l => c_X8_pixel l g S a2 (xs (x3 + 1).toNatClampNeg) (xs (x3 + 2).toNatClampNeg) (xs (x3 + 3).toNatClampNeg)) ⟨⟨Nat.le_of_ble_eq_true rfl, Nat.le_of_ble_eq_true rfl⟩, rfl, rfl⟩ rfl ⟨Nat.le_of_ble_eq_true rfl, Nat.le_of_ble_eq_true rfl⟩ rfl (cat_i cat_n) (Nat.le_of_ble_eq_true rfl) dL_law_530 (fun r37 => ?_)
                        refine J.icmp_eq (pc := 533) C (tgt := 1134) dL_law_533 rfl ?_ ?_
                        · refine J.iinc (pc := 1134) C (lv' := [(0, .ref b), (1, rv g a1), (2, rv g a2), (3, .int (x3 + 7))]) dL_law_1134 rfl (Nat.le_of_ble_eq_true rfl) ki_7 rfl ?_
                          refine J.goto (pc := 1137) C (tgt := 18) dL_law_1137 rfl ?_
                          exact (hk18 _ _)
                        · refine J.iconst (pc := 536) C dL_law_536 ki_0 ?_
                          exact J.lret0
                      · refine J.ite (fun h10 => ?_) (fun h10 => ?_)
                        · refine J.tswIn (pc := 33) C (tgt := 538) 10 dL_law_33 h10 (by decide) (by decide) rfl rfl ?_
                          refine J.aload_n (pc := 538) C (x := a1) dL_law_538 rfl rfl ?_
                          refine J.sload_n (pc := 539) C dL_law_539 rfl rfl ?_
                          refine J.iload_n (pc := 540) C dL_law_540 rfl rfl ?_
                          refine J.iconst (pc := 541) C dL_law_541 ki_1 ?_
                          refine J.iadd (pc := 542) C dL_law_542 ?_
                          refine J.sld (pc := 543) C hX dL_law_543 ?_
                          refine J.sload_n (pc := 544) C dL_law_544 rfl rfl ?_
                          refine J.iload_n (pc := 545) C dL_law_545 rfl rfl ?_
                          refine J.iconst (pc := 546) C dL_law_546 ki_2 ?_
                          refine J.iadd (pc := 547) C dL_law_547 ?_
                          refine J.sld (pc := 548) C hX dL_law_548 ?_
                          refine J.vI (pc := 549) C mv_X7_edges wm_RL_58 (fun l => c_X7_edges l g S a1 (xs (x3 + 1).toNatClampNeg) (xs (x3 + 2).toNatClampNeg)) ⟨⟨Nat.le_of_ble_eq_true rfl, Nat.le_of_ble_eq_true rfl⟩, rfl, rfl⟩ rfl ⟨Nat.le_of_ble_eq_true rfl, Nat.le_of_ble_eq_true rfl⟩ rfl cat_n (Nat.le_of_ble_eq_true rfl) dL_law_549 (fun r38 => ?_)
                          refine J.aload_n (pc := 552) C (x := a2) dL_law_552 rfl rfl ?_
                          refine J.sload_n (pc := 553) C dL_law_553 rfl rfl ?_
                          refine J.iload_n (pc := 554) C dL_law_554 rfl rfl ?_
                          refine J.iconst (pc := 555) C dL_law_555 ki_1 ?_
                          refine J.iadd (pc := 556) C dL_law_556 ?_
                          refine J.sld (pc := 557) C hX dL_law_557 ?_
                          refine J.sload_n (pc := 558) C dL_law_558 rfl rfl ?_
                          refine J.iload_n (pc := 559) C dL_law_559 rfl rfl ?_
                          refine J.iconst (pc := 560) C dL_law_560 ki_2 ?_
                          refine J.iadd (pc := 561) C dL_law_561 ?_
                          refine J.sld (pc := 562) C hX dL_law_562 ?_
                          refine J.vI (pc := 563) C mv_X8_edges wm_RL_61 (fun l => c_X8_edges l g S a2 (xs (x3 + 1).toNatClampNeg) (xs (x3 + 2).toNatClampNeg)) ⟨⟨Nat.le_of_ble_eq_true rfl, Nat.le_of_ble_eq_true rfl⟩, rfl, rfl⟩ rfl ⟨Nat.le_of_ble_eq_true rfl, Nat.le_of_ble_eq_true rfl⟩ rfl (cat_i cat_n) (Nat.le_of_ble_eq_true rfl) dL_law_563 (fun r39 => ?_)
                          refine J.icmp_eq (pc := 566) C (tgt := 1134) dL_law_566 rfl ?_ ?_
                          · refine J.iinc (pc := 1134) C (lv' := [(0, .ref b), (1, rv g a1), (2, rv g a2), (3, .int (x3 + 7))]) dL_law_1134 rfl (Nat.le_of_ble_eq_true rfl) ki_7 rfl ?_
                            refine J.goto (pc := 1137) C (tgt := 18) dL_law_1137 rfl ?_
                            exact (hk18 _ _)
                          · refine J.iconst (pc := 569) C dL_law_569 ki_0 ?_
                            exact J.lret0
                        · refine J.ite (fun h11 => ?_) (fun h11 => ?_)
                          · refine J.tswIn (pc := 33) C (tgt := 571) 11 dL_law_33 h11 (by decide) (by decide) rfl rfl ?_
                            refine J.aload_n (pc := 571) C (x := a1) dL_law_571 rfl rfl ?_
                            refine J.sload_n (pc := 572) C dL_law_572 rfl rfl ?_
                            refine J.iload_n (pc := 573) C dL_law_573 rfl rfl ?_
                            refine J.iconst (pc := 574) C dL_law_574 ki_1 ?_
                            refine J.iadd (pc := 575) C dL_law_575 ?_
                            refine J.sld (pc := 576) C hX dL_law_576 ?_
                            refine J.vW (pc := 577) C mv_X7_pass wm_RL_62 (fun l => c_X7_pass l g S a1 (xs (x3 + 1).toNatClampNeg)) ⟨⟨Nat.le_of_ble_eq_true rfl, Nat.le_of_ble_eq_true rfl⟩, rfl, rfl⟩ rfl ⟨Nat.le_of_ble_eq_true rfl, Nat.le_of_ble_eq_true rfl⟩ rfl cat_n (Nat.le_of_ble_eq_true rfl) dL_law_577 (fun r40 S_41 => ?_)
                            refine J.aload_n (pc := 580) C (x := a2) dL_law_580 rfl rfl ?_
                            refine J.sload_n (pc := 581) C dL_law_581 rfl rfl ?_
                            refine J.iload_n (pc := 582) C dL_law_582 rfl rfl ?_
                            refine J.iconst (pc := 583) C dL_law_583 ki_1 ?_
                            refine J.iadd (pc := 584) C dL_law_584 ?_
                            refine J.sld (pc := 585) C hX dL_law_585 ?_
                            refine J.vW (pc := 586) C mv_X8_pass wm_RL_65 (fun l => c_X8_pass l g S_41 a2 (xs (x3 + 1).toNatClampNeg)) ⟨⟨Nat.le_of_ble_eq_true rfl, Nat.le_of_ble_eq_true rfl⟩, rfl, rfl⟩ rfl ⟨Nat.le_of_ble_eq_true rfl, Nat.le_of_ble_eq_true rfl⟩ rfl (cat_i cat_n) (Nat.le_of_ble_eq_true rfl) dL_law_586 (fun r42 S_43 => ?_)
                            refine J.icmp_eq (pc := 589) C (tgt := 1134) dL_law_589 rfl ?_ ?_
                            · refine J.iinc (pc := 1134) C (lv' := [(0, .ref b), (1, rv g a1), (2, rv g a2), (3, .int (x3 + 7))]) dL_law_1134 rfl (Nat.le_of_ble_eq_true rfl) ki_7 rfl ?_
                              refine J.goto (pc := 1137) C (tgt := 18) dL_law_1137 rfl ?_
                              exact (hk18 _ _)
                            · refine J.iconst (pc := 592) C dL_law_592 ki_0 ?_
                              exact J.lret0
                          · refine J.ite (fun h12 => ?_) (fun h12 => ?_)
                            · refine J.tswIn (pc := 33) C (tgt := 594) 12 dL_law_33 h12 (by decide) (by decide) rfl rfl ?_
                              refine J.aload_n (pc := 594) C (x := a1) dL_law_594 rfl rfl ?_
                              refine J.sload_n (pc := 595) C dL_law_595 rfl rfl ?_
                              refine J.iload_n (pc := 596) C dL_law_596 rfl rfl ?_
                              refine J.iconst (pc := 597) C dL_law_597 ki_1 ?_
                              refine J.iadd (pc := 598) C dL_law_598 ?_
                              refine J.sld (pc := 599) C hX dL_law_599 ?_
                              refine J.sload_n (pc := 600) C dL_law_600 rfl rfl ?_
                              refine J.iload_n (pc := 601) C dL_law_601 rfl rfl ?_
                              refine J.iconst (pc := 602) C dL_law_602 ki_2 ?_
                              refine J.iadd (pc := 603) C dL_law_603 ?_
                              refine J.sld (pc := 604) C hX dL_law_604 ?_
                              refine J.sload_n (pc := 605) C dL_law_605 rfl rfl ?_
                              refine J.iload_n (pc := 606) C dL_law_606 rfl rfl ?_
                              refine J.iconst (pc := 607) C dL_law_607 ki_3 ?_
                              refine J.iadd (pc := 608) C dL_law_608 ?_
                              refine J.sld (pc := 609) C hX dL_law_609 ?_
                              refine J.vW (pc := 610) C mv_X7_vote wm_RL_66 (fun l => c_X7_vote l g S a1 (xs (x3 + 1).toNatClampNeg) (xs (x3 + 2).toNatClampNeg) (xs (x3 + 3).toNatClampNeg)) ⟨⟨Nat.le_of_ble_eq_true rfl, Nat.le_of_ble_eq_true rfl⟩, rfl, rfl⟩ rfl ⟨Nat.le_of_ble_eq_true rfl, Nat.le_of_ble_eq_true rfl⟩ rfl cat_n (Nat.le_of_ble_eq_true rfl) dL_law_610 (fun r44 S_45 => ?_)
                              refine J.aload_n (pc := 613) C (x := a2) dL_law_613 rfl rfl ?_
                              refine J.sload_n (pc := 614) C dL_law_614 rfl rfl ?_
                              refine J.iload_n (pc := 615) C dL_law_615 rfl rfl ?_
                              refine J.iconst (pc := 616) C dL_law_616 ki_1 ?_
                              refine J.iadd (pc := 617) C dL_law_617 ?_
                              refine J.sld (pc := 618) C hX dL_law_618 ?_
                              refine J.sload_n (pc := 619) C dL_law_619 rfl rfl ?_
                              refine J.iload_n (pc := 620) C dL_law_620 rfl rfl ?_
                              refine J.iconst (pc := 621) C dL_law_621 ki_2 ?_
                              refine J.iadd (pc := 622) C dL_law_622 ?_
                              refine J.sld (pc := 623) C hX dL_law_623 ?_
                              refine J.sload_n (pc := 624) C dL_law_624 rfl rfl ?_
                              refine J.iload_n (pc := 625) C dL_law_625 rfl rfl ?_
                              refine J.iconst (pc := 626) C dL_law_626 ki_3 ?_
                              refine J.iadd (pc := 627) C dL_law_627 ?_
                              refine J.sld (pc := 628) C hX dL_law_628 ?_
                              refine J.vI (pc := 629) C mv_X8_vote wm_RL_69 (fun l => c_X8_vote l g S_45 a2 (xs (x3 + 1).toNatClampNeg) (xs (x3 + 2).toNatClampNeg) (xs (x3 + 3).toNatClampNeg)) ⟨⟨Nat.le_of_ble_eq_true rfl, Nat.le_of_ble_eq_true rfl⟩, rfl, rfl⟩ rfl ⟨Nat.le_of_ble_eq_true rfl, Nat.le_of_ble_eq_true rfl⟩ rfl (cat_i cat_n) (Nat.le_of_ble_eq_true rfl) dL_law_629 (fun r46 => ?_)
                              refine J.icmp_eq (pc := 632) C (tgt := 1134) dL_law_632 rfl ?_ ?_
                              · refine J.iinc (pc := 1134) C (lv' := [(0, .ref b), (1, rv g a1), (2, rv g a2), (3, .int (x3 + 7))]) dL_law_1134 rfl (Nat.le_of_ble_eq_true rfl) ki_7 rfl ?_
                                refine J.goto (pc := 1137) C (tgt := 18) dL_law_1137 rfl ?_
                                exact (hk18 _ _)
                              · refine J.iconst (pc := 635) C dL_law_635 ki_0 ?_
                                exact J.lret0
                            · refine J.ite (fun h13 => ?_) (fun h13 => ?_)
                              · refine J.tswIn (pc := 33) C (tgt := 637) 13 dL_law_33 h13 (by decide) (by decide) rfl rfl ?_
                                refine J.aload_n (pc := 637) C (x := a1) dL_law_637 rfl rfl ?_
                                refine J.sload_n (pc := 638) C dL_law_638 rfl rfl ?_
                                refine J.iload_n (pc := 639) C dL_law_639 rfl rfl ?_
                                refine J.iconst (pc := 640) C dL_law_640 ki_1 ?_
                                refine J.iadd (pc := 641) C dL_law_641 ?_
                                refine J.sld (pc := 642) C hX dL_law_642 ?_
                                refine J.sload_n (pc := 643) C dL_law_643 rfl rfl ?_
                                refine J.iload_n (pc := 644) C dL_law_644 rfl rfl ?_
                                refine J.iconst (pc := 645) C dL_law_645 ki_2 ?_
                                refine J.iadd (pc := 646) C dL_law_646 ?_
                                refine J.sld (pc := 647) C hX dL_law_647 ?_
                                refine J.vW (pc := 648) C mv_X7_shift wm_RL_70 (fun l => c_X7_shift l g S a1 (xs (x3 + 1).toNatClampNeg) (xs (x3 + 2).toNatClampNeg)) ⟨⟨Nat.le_of_ble_eq_true rfl, Nat.le_of_ble_eq_true rfl⟩, rfl, rfl⟩ rfl ⟨Nat.le_of_ble_eq_true rfl, Nat.le_of_ble_eq_true rfl⟩ rfl cat_n (Nat.le_of_ble_eq_true rfl) dL_law_648 (fun r47 S_48 => ?_)
                                refine J.aload_n (pc := 651) C (x := a2) dL_law_651 rfl rfl ?_
                                refine J.sload_n (pc := 652) C dL_law_652 rfl rfl ?_
                                refine J.iload_n (pc := 653) C dL_law_653 rfl rfl ?_
                                refine J.iconst (pc := 654) C dL_law_654 ki_1 ?_
                                refine J.iadd (pc := 655) C dL_law_655 ?_
                                refine J.sld (pc := 656) C hX dL_law_656 ?_
                                refine J.sload_n (pc := 657) C dL_law_657 rfl rfl ?_
                                refine J.iload_n (pc := 658) C dL_law_658 rfl rfl ?_
                                refine J.iconst (pc := 659) C dL_law_659 ki_2 ?_
                                refine J.iadd (pc := 660) C dL_law_660 ?_
                                refine J.sld (pc := 661) C hX dL_law_661 ?_
                                refine J.vW (pc := 662) C mv_X8_shift wm_RL_73 (fun l => c_X8_shift l g S_48 a2 (xs (x3 + 1).toNatClampNeg) (xs (x3 + 2).toNatClampNeg)) ⟨⟨Nat.le_of_ble_eq_true rfl, Nat.le_of_ble_eq_true rfl⟩, rfl, rfl⟩ rfl ⟨Nat.le_of_ble_eq_true rfl, Nat.le_of_ble_eq_true rfl⟩ rfl (cat_i cat_n) (Nat.le_of_ble_eq_true rfl) dL_law_662 (fun r49 S_50 => ?_)
                                refine J.icmp_eq (pc := 665) C (tgt := 1134) dL_law_665 rfl ?_ ?_
                                · refine J.iinc (pc := 1134) C (lv' := [(0, .ref b), (1, rv g a1), (2, rv g a2), (3, .int (x3 + 7))]) dL_law_1134 rfl (Nat.le_of_ble_eq_true rfl) ki_7 rfl ?_
                                  refine J.goto (pc := 1137) C (tgt := 18) dL_law_1137 rfl ?_
                                  exact (hk18 _ _)
                                · refine J.iconst (pc := 668) C dL_law_668 ki_0 ?_
                                  exact J.lret0
                              · refine J.ite (fun h14 => ?_) (fun h14 => ?_)
                                · refine J.tswIn (pc := 33) C (tgt := 670) 14 dL_law_33 h14 (by decide) (by decide) rfl rfl ?_
                                  refine J.aload_n (pc := 670) C (x := a1) dL_law_670 rfl rfl ?_
                                  refine J.sload_n (pc := 671) C dL_law_671 rfl rfl ?_
                                  refine J.iload_n (pc := 672) C dL_law_672 rfl rfl ?_
                                  refine J.iconst (pc := 673) C dL_law_673 ki_1 ?_
                                  refine J.iadd (pc := 674) C dL_law_674 ?_
                                  refine J.sld (pc := 675) C hX dL_law_675 ?_
                                  refine J.sload_n (pc := 676) C dL_law_676 rfl rfl ?_
                                  refine J.iload_n (pc := 677) C dL_law_677 rfl rfl ?_
                                  refine J.iconst (pc := 678) C dL_law_678 ki_2 ?_
                                  refine J.iadd (pc := 679) C dL_law_679 ?_
                                  refine J.sld (pc := 680) C hX dL_law_680 ?_
                                  refine J.sload_n (pc := 681) C dL_law_681 rfl rfl ?_
                                  refine J.iload_n (pc := 682) C dL_law_682 rfl rfl ?_
                                  refine J.iconst (pc := 683) C dL_law_683 ki_3 ?_
                                  refine J.iadd (pc := 684) C dL_law_684 ?_
                                  refine J.sld (pc := 685) C hX dL_law_685 ?_
                                  refine J.vW (pc := 686) C mv_X7_voters wm_RL_74 (fun l => c_X7_voters l g S a1 (xs (x3 + 1).toNatClampNeg) (xs (x3 + 2).toNatClampNeg) (xs (x3 + 3).toNatClampNeg)) ⟨⟨Nat.le_of_ble_eq_true rfl, Nat.le_of_ble_eq_true rfl⟩, rfl, rfl⟩ rfl ⟨Nat.le_of_ble_eq_true rfl, Nat.le_of_ble_eq_true rfl⟩ rfl cat_n (Nat.le_of_ble_eq_true rfl) dL_law_686 (fun r51 S_52 => ?_)
                                  refine J.aload_n (pc := 689) C (x := a2) dL_law_689 rfl rfl ?_
                                  refine J.sload_n (pc := 690) C dL_law_690 rfl rfl ?_
                                  refine J.iload_n (pc := 691) C dL_law_691 rfl rfl ?_
                                  refine J.iconst (pc := 692) C dL_law_692 ki_1 ?_
                                  refine J.iadd (pc := 693) C dL_law_693 ?_
                                  refine J.sld (pc := 694) C hX dL_law_694 ?_
                                  refine J.sload_n (pc := 695) C dL_law_695 rfl rfl ?_
                                  refine J.iload_n (pc := 696) C dL_law_696 rfl rfl ?_
                                  refine J.iconst (pc := 697) C dL_law_697 ki_2 ?_
                                  refine J.iadd (pc := 698) C dL_law_698 ?_
                                  refine J.sld (pc := 699) C hX dL_law_699 ?_
                                  refine J.sload_n (pc := 700) C dL_law_700 rfl rfl ?_
                                  refine J.iload_n (pc := 701) C dL_law_701 rfl rfl ?_
                                  refine J.iconst (pc := 702) C dL_law_702 ki_3 ?_
                                  refine J.iadd (pc := 703) C dL_law_703 ?_
                                  refine J.sld (pc := 704) C hX dL_law_704 ?_
                                  refine J.vI (pc := 705) C mv_X8_voters wm_RL_77 (fun l => c_X8_voters l g S_52 a2 (xs (x3 + 1).toNatClampNeg) (xs (x3 + 2).toNatClampNeg) (xs (x3 + 3).toNatClampNeg)) ⟨⟨Nat.le_of_ble_eq_true rfl, Nat.le_of_ble_eq_true rfl⟩, rfl, rfl⟩ rfl ⟨Nat.le_of_ble_eq_true rfl, Nat.le_of_ble_eq_true rfl⟩ rfl (cat_i cat_n) (Nat.le_of_ble_eq_true rfl) dL_law_705 (fun r53 => ?_)
                                  refine J.icmp_eq (pc := 708) C (tgt := 1134) dL_law_708 rfl ?_ ?_
                                  · refine J.iinc (pc := 1134) C (lv' := [(0, .ref b), (1, rv g a1), (2, rv g a2), (3, .int (x3 + 7))]) dL_law_1134 rfl (Nat.le_of_ble_eq_true rfl) ki_7 rfl ?_
                                    refine J.goto (pc := 1137) C (tgt := 18) dL_law_1137 rfl ?_
                                    exact (hk18 _ _)
                                  · refine J.iconst (pc := 711) C dL_law_711 ki_0 ?_
                                    exact J.lret0
                                · refine J.ite (fun h15 => ?_) (fun h15 => ?_)
                                  · refine J.tswIn (pc := 33) C (tgt := 713) 15 dL_law_33 h15 (by decide) (by decide) rfl rfl ?_
                                    refine J.aload_n (pc := 713) C (x := a1) dL_law_713 rfl rfl ?_
                                    refine J.sload_n (pc := 714) C dL_law_714 rfl rfl ?_
                                    refine J.iload_n (pc := 715) C dL_law_715 rfl rfl ?_
                                    refine J.iconst (pc := 716) C dL_law_716 ki_1 ?_
                                    refine J.iadd (pc := 717) C dL_law_717 ?_
                                    refine J.sld (pc := 718) C hX dL_law_718 ?_
                                    refine J.sload_n (pc := 719) C dL_law_719 rfl rfl ?_
                                    refine J.iload_n (pc := 720) C dL_law_720 rfl rfl ?_
                                    refine J.iconst (pc := 721) C dL_law_721 ki_2 ?_
                                    refine J.iadd (pc := 722) C dL_law_722 ?_
                                    refine J.sld (pc := 723) C hX dL_law_723 ?_
                                    refine J.vW (pc := 724) C mv_X7_dissent wm_RL_78 (fun l => c_X7_dissent l g S a1 (xs (x3 + 1).toNatClampNeg) (xs (x3 + 2).toNatClampNeg)) ⟨⟨Nat.le_of_ble_eq_true rfl, Nat.le_of_ble_eq_true rfl⟩, rfl, rfl⟩ rfl ⟨Nat.le_of_ble_eq_true rfl, Nat.le_of_ble_eq_true rfl⟩ rfl cat_n (Nat.le_of_ble_eq_true rfl) dL_law_724 (fun r54 S_55 => ?_)
                                    refine J.aload_n (pc := 727) C (x := a2) dL_law_727 rfl rfl ?_
                                    refine J.sload_n (pc := 728) C dL_law_728 rfl rfl ?_
                                    refine J.iload_n (pc := 729) C dL_law_729 rfl rfl ?_
                                    refine J.iconst (pc := 730) C dL_law_730 ki_1 ?_
                                    refine J.iadd (pc := 731) C dL_law_731 ?_
                                    refine J.sld (pc := 732) C hX dL_law_732 ?_
                                    refine J.sload_n (pc := 733) C dL_law_733 rfl rfl ?_
                                    refine J.iload_n (pc := 734) C dL_law_734 rfl rfl ?_
                                    refine J.iconst (pc := 735) C dL_law_735 ki_2 ?_
                                    refine J.iadd (pc := 736) C dL_law_736 ?_
                                    refine J.sld (pc := 737) C hX dL_law_737 ?_
                                    refine J.vW (pc := 738) C mv_X8_dissent wm_RL_81 (fun l => c_X8_dissent l g S_55 a2 (xs (x3 + 1).toNatClampNeg) (xs (x3 + 2).toNatClampNeg)) ⟨⟨Nat.le_of_ble_eq_true rfl, Nat.le_of_ble_eq_true rfl⟩, rfl, rfl⟩ rfl ⟨Nat.le_of_ble_eq_true rfl, Nat.le_of_ble_eq_true rfl⟩ rfl (cat_i cat_n) (Nat.le_of_ble_eq_true rfl) dL_law_738 (fun r56 S_57 => ?_)
                                    refine J.icmp_eq (pc := 741) C (tgt := 1134) dL_law_741 rfl ?_ ?_
                                    · refine J.iinc (pc := 1134) C (lv' := [(0, .ref b), (1, rv g a1), (2, rv g a2), (3, .int (x3 + 7))]) dL_law_1134 rfl (Nat.le_of_ble_eq_true rfl) ki_7 rfl ?_
                                      refine J.goto (pc := 1137) C (tgt := 18) dL_law_1137 rfl ?_
                                      exact (hk18 _ _)
                                    · refine J.iconst (pc := 744) C dL_law_744 ki_0 ?_
                                      exact J.lret0
                                  · refine J.ite (fun h16 => ?_) (fun h16 => ?_)
                                    · refine J.tswIn (pc := 33) C (tgt := 746) 16 dL_law_33 h16 (by decide) (by decide) rfl rfl ?_
                                      refine J.aload_n (pc := 746) C (x := a1) dL_law_746 rfl rfl ?_
                                      refine J.sload_n (pc := 747) C dL_law_747 rfl rfl ?_
                                      refine J.iload_n (pc := 748) C dL_law_748 rfl rfl ?_
                                      refine J.iconst (pc := 749) C dL_law_749 ki_1 ?_
                                      refine J.iadd (pc := 750) C dL_law_750 ?_
                                      refine J.sld (pc := 751) C hX dL_law_751 ?_
                                      refine J.sload_n (pc := 752) C dL_law_752 rfl rfl ?_
                                      refine J.iload_n (pc := 753) C dL_law_753 rfl rfl ?_
                                      refine J.iconst (pc := 754) C dL_law_754 ki_2 ?_
                                      refine J.iadd (pc := 755) C dL_law_755 ?_
                                      refine J.sld (pc := 756) C hX dL_law_756 ?_
                                      refine J.vW (pc := 757) C mv_X7_speed wm_RL_82 (fun l => c_X7_speed l g S a1 (xs (x3 + 1).toNatClampNeg) (xs (x3 + 2).toNatClampNeg)) ⟨⟨Nat.le_of_ble_eq_true rfl, Nat.le_of_ble_eq_true rfl⟩, rfl, rfl⟩ rfl ⟨Nat.le_of_ble_eq_true rfl, Nat.le_of_ble_eq_true rfl⟩ rfl cat_n (Nat.le_of_ble_eq_true rfl) dL_law_757 (fun r58 S_59 => ?_)
                                      refine J.aload_n (pc := 760) C (x := a2) dL_law_760 rfl rfl ?_
                                      refine J.sload_n (pc := 761) C dL_law_761 rfl rfl ?_
                                      refine J.iload_n (pc := 762) C dL_law_762 rfl rfl ?_
                                      refine J.iconst (pc := 763) C dL_law_763 ki_1 ?_
                                      refine J.iadd (pc := 764) C dL_law_764 ?_
                                      refine J.sld (pc := 765) C hX dL_law_765 ?_
                                      refine J.sload_n (pc := 766) C dL_law_766 rfl rfl ?_
                                      refine J.iload_n (pc := 767) C dL_law_767 rfl rfl ?_
                                      refine J.iconst (pc := 768) C dL_law_768 ki_2 ?_
                                      refine J.iadd (pc := 769) C dL_law_769 ?_
                                      refine J.sld (pc := 770) C hX dL_law_770 ?_
                                      refine J.vW (pc := 771) C mv_X8_speed wm_RL_85 (fun l => c_X8_speed l g S_59 a2 (xs (x3 + 1).toNatClampNeg) (xs (x3 + 2).toNatClampNeg)) ⟨⟨Nat.le_of_ble_eq_true rfl, Nat.le_of_ble_eq_true rfl⟩, rfl, rfl⟩ rfl ⟨Nat.le_of_ble_eq_true rfl, Nat.le_of_ble_eq_true rfl⟩ rfl (cat_i cat_n) (Nat.le_of_ble_eq_true rfl) dL_law_771 (fun r60 S_61 => ?_)
                                      refine J.icmp_eq (pc := 774) C (tgt := 1134) dL_law_774 rfl ?_ ?_
                                      · refine J.iinc (pc := 1134) C (lv' := [(0, .ref b), (1, rv g a1), (2, rv g a2), (3, .int (x3 + 7))]) dL_law_1134 rfl (Nat.le_of_ble_eq_true rfl) ki_7 rfl ?_
                                        refine J.goto (pc := 1137) C (tgt := 18) dL_law_1137 rfl ?_
                                        exact (hk18 _ _)
                                      · refine J.iconst (pc := 777) C dL_law_777 ki_0 ?_
                                        exact J.lret0
                                    · refine J.ite (fun h17 => ?_) (fun h17 => ?_)
                                      · refine J.tswIn (pc := 33) C (tgt := 779) 17 dL_law_33 h17 (by decide) (by decide) rfl rfl ?_
                                        refine J.aload_n (pc := 779) C (x := a1) dL_law_779 rfl rfl ?_
                                        refine J.sload_n (pc := 780) C dL_law_780 rfl rfl ?_
                                        refine J.iload_n (pc := 781) C dL_law_781 rfl rfl ?_
                                        refine J.iconst (pc := 782) C dL_law_782 ki_1 ?_
                                        refine J.iadd (pc := 783) C dL_law_783 ?_
                                        refine J.sld (pc := 784) C hX dL_law_784 ?_
                                        refine J.vW (pc := 785) C mv_X7_slant wm_RL_86 (fun l => c_X7_slant l g S a1 (xs (x3 + 1).toNatClampNeg)) ⟨⟨Nat.le_of_ble_eq_true rfl, Nat.le_of_ble_eq_true rfl⟩, rfl, rfl⟩ rfl ⟨Nat.le_of_ble_eq_true rfl, Nat.le_of_ble_eq_true rfl⟩ rfl cat_n (Nat.le_of_ble_eq_true rfl) dL_law_785 (fun r62 S_63 => ?_)
                                        refine J.aload_n (pc := 788) C (x := a2) dL_law_788 rfl rfl ?_
                                        refine J.sload_n (pc := 789) C dL_law_789 rfl rfl ?_
                                        refine J.iload_n (pc := 790) C dL_law_790 rfl rfl ?_
                                        refine J.iconst (pc := 791) C dL_law_791 ki_1 ?_
                                        refine J.iadd (pc := 792) C dL_law_792 ?_
                                        refine J.sld (pc := 793) C hX dL_law_793 ?_
                                        refine J.vW (pc := 794) C mv_X8_slant wm_RL_89 (fun l => c_X8_slant l g S_63 a2 (xs (x3 + 1).toNatClampNeg)) ⟨⟨Nat.le_of_ble_eq_true rfl, Nat.le_of_ble_eq_true rfl⟩, rfl, rfl⟩ rfl ⟨Nat.le_of_ble_eq_true rfl, Nat.le_of_ble_eq_true rfl⟩ rfl (cat_i cat_n) (Nat.le_of_ble_eq_true rfl) dL_law_794 (fun r64 S_65 => ?_)
                                        refine J.icmp_eq (pc := 797) C (tgt := 1134) dL_law_797 rfl ?_ ?_
                                        · refine J.iinc (pc := 1134) C (lv' := [(0, .ref b), (1, rv g a1), (2, rv g a2), (3, .int (x3 + 7))]) dL_law_1134 rfl (Nat.le_of_ble_eq_true rfl) ki_7 rfl ?_
                                          refine J.goto (pc := 1137) C (tgt := 18) dL_law_1137 rfl ?_
                                          exact (hk18 _ _)
                                        · refine J.iconst (pc := 800) C dL_law_800 ki_0 ?_
                                          exact J.lret0
                                      · refine J.ite (fun h18 => ?_) (fun h18 => ?_)
                                        · refine J.tswIn (pc := 33) C (tgt := 802) 18 dL_law_33 h18 (by decide) (by decide) rfl rfl ?_
                                          refine J.aload_n (pc := 802) C (x := a1) dL_law_802 rfl rfl ?_
                                          refine J.sload_n (pc := 803) C dL_law_803 rfl rfl ?_
                                          refine J.iload_n (pc := 804) C dL_law_804 rfl rfl ?_
                                          refine J.iconst (pc := 805) C dL_law_805 ki_1 ?_
                                          refine J.iadd (pc := 806) C dL_law_806 ?_
                                          refine J.sld (pc := 807) C hX dL_law_807 ?_
                                          refine J.vW (pc := 808) C mv_X7_slantSpeed wm_RL_90 (fun l => c_X7_slantSpeed l g S a1 (xs (x3 + 1).toNatClampNeg)) ⟨⟨Nat.le_of_ble_eq_true rfl, Nat.le_of_ble_eq_true rfl⟩, rfl, rfl⟩ rfl ⟨Nat.le_of_ble_eq_true rfl, Nat.le_of_ble_eq_true rfl⟩ rfl cat_n (Nat.le_of_ble_eq_true rfl) dL_law_808 (fun r66 S_67 => ?_)
                                          refine J.aload_n (pc := 811) C (x := a2) dL_law_811 rfl rfl ?_
                                          refine J.sload_n (pc := 812) C dL_law_812 rfl rfl ?_
                                          refine J.iload_n (pc := 813) C dL_law_813 rfl rfl ?_
                                          refine J.iconst (pc := 814) C dL_law_814 ki_1 ?_
                                          refine J.iadd (pc := 815) C dL_law_815 ?_
                                          refine J.sld (pc := 816) C hX dL_law_816 ?_
                                          refine J.vW (pc := 817) C mv_X8_slantSpeed wm_RL_93 (fun l => c_X8_slantSpeed l g S_67 a2 (xs (x3 + 1).toNatClampNeg)) ⟨⟨Nat.le_of_ble_eq_true rfl, Nat.le_of_ble_eq_true rfl⟩, rfl, rfl⟩ rfl ⟨Nat.le_of_ble_eq_true rfl, Nat.le_of_ble_eq_true rfl⟩ rfl (cat_i cat_n) (Nat.le_of_ble_eq_true rfl) dL_law_817 (fun r68 S_69 => ?_)
                                          refine J.icmp_eq (pc := 820) C (tgt := 1134) dL_law_820 rfl ?_ ?_
                                          · refine J.iinc (pc := 1134) C (lv' := [(0, .ref b), (1, rv g a1), (2, rv g a2), (3, .int (x3 + 7))]) dL_law_1134 rfl (Nat.le_of_ble_eq_true rfl) ki_7 rfl ?_
                                            refine J.goto (pc := 1137) C (tgt := 18) dL_law_1137 rfl ?_
                                            exact (hk18 _ _)
                                          · refine J.iconst (pc := 823) C dL_law_823 ki_0 ?_
                                            exact J.lret0
                                        · refine J.ite (fun h19 => ?_) (fun h19 => ?_)
                                          · refine J.tswIn (pc := 33) C (tgt := 825) 19 dL_law_33 h19 (by decide) (by decide) rfl rfl ?_
                                            refine J.aload_n (pc := 825) C (x := a1) dL_law_825 rfl rfl ?_
                                            refine J.sload_n (pc := 826) C dL_law_826 rfl rfl ?_
                                            refine J.iload_n (pc := 827) C dL_law_827 rfl rfl ?_
                                            refine J.iconst (pc := 828) C dL_law_828 ki_1 ?_
                                            refine J.iadd (pc := 829) C dL_law_829 ?_
                                            refine J.sld (pc := 830) C hX dL_law_830 ?_
                                            refine J.sload_n (pc := 831) C dL_law_831 rfl rfl ?_
                                            refine J.iload_n (pc := 832) C dL_law_832 rfl rfl ?_
                                            refine J.iconst (pc := 833) C dL_law_833 ki_2 ?_
                                            refine J.iadd (pc := 834) C dL_law_834 ?_
                                            refine J.sld (pc := 835) C hX dL_law_835 ?_
                                            refine J.vW (pc := 836) C mv_X7_weighed wm_RL_94 (fun l => c_X7_weighed l g S a1 (xs (x3 + 1).toNatClampNeg) (xs (x3 + 2).toNatClampNeg)) ⟨⟨Nat.le_of_ble_eq_true rfl, Nat.le_of_ble_eq_true rfl⟩, rfl, rfl⟩ rfl ⟨Nat.le_of_ble_eq_true rfl, Nat.le_of_ble_eq_true rfl⟩ rfl cat_n (Nat.le_of_ble_eq_true rfl) dL_law_836 (fun r70 S_71 => ?_)
                                            refine J.aload_n (pc := 839) C (x := a2) dL_law_839 rfl rfl ?_
                                            refine J.sload_n (pc := 840) C dL_law_840 rfl rfl ?_
                                            refine J.iload_n (pc := 841) C dL_law_841 rfl rfl ?_
                                            refine J.iconst (pc := 842) C dL_law_842 ki_1 ?_
                                            refine J.iadd (pc := 843) C dL_law_843 ?_
                                            refine J.sld (pc := 844) C hX dL_law_844 ?_
                                            refine J.sload_n (pc := 845) C dL_law_845 rfl rfl ?_
                                            refine J.iload_n (pc := 846) C dL_law_846 rfl rfl ?_
                                            refine J.iconst (pc := 847) C dL_law_847 ki_2 ?_
                                            refine J.iadd (pc := 848) C dL_law_848 ?_
                                            refine J.sld (pc := 849) C hX dL_law_849 ?_
                                            refine J.vW (pc := 850) C mv_X8_weighed wm_RL_97 (fun l => c_X8_weighed l g S_71 a2 (xs (x3 + 1).toNatClampNeg) (xs (x3 + 2).toNatClampNeg)) ⟨⟨Nat.le_of_ble_eq_true rfl, Nat.le_of_ble_eq_true rfl⟩, rfl, rfl⟩ rfl ⟨Nat.le_of_ble_eq_true rfl, Nat.le_of_ble_eq_true rfl⟩ rfl (cat_i cat_n) (Nat.le_of_ble_eq_true rfl) dL_law_850 (fun r72 S_73 => ?_)
                                            refine J.icmp_eq (pc := 853) C (tgt := 1134) dL_law_853 rfl ?_ ?_
                                            · refine J.iinc (pc := 1134) C (lv' := [(0, .ref b), (1, rv g a1), (2, rv g a2), (3, .int (x3 + 7))]) dL_law_1134 rfl (Nat.le_of_ble_eq_true rfl) ki_7 rfl ?_
                                              refine J.goto (pc := 1137) C (tgt := 18) dL_law_1137 rfl ?_
                                              exact (hk18 _ _)
                                            · refine J.iconst (pc := 856) C dL_law_856 ki_0 ?_
                                              exact J.lret0
                                          · refine J.ite (fun h20 => ?_) (fun h20 => ?_)
                                            · refine J.tswIn (pc := 33) C (tgt := 858) 20 dL_law_33 h20 (by decide) (by decide) rfl rfl ?_
                                              refine J.aload_n (pc := 858) C (x := a1) dL_law_858 rfl rfl ?_
                                              refine J.sload_n (pc := 859) C dL_law_859 rfl rfl ?_
                                              refine J.iload_n (pc := 860) C dL_law_860 rfl rfl ?_
                                              refine J.iconst (pc := 861) C dL_law_861 ki_1 ?_
                                              refine J.iadd (pc := 862) C dL_law_862 ?_
                                              refine J.sld (pc := 863) C hX dL_law_863 ?_
                                              refine J.sload_n (pc := 864) C dL_law_864 rfl rfl ?_
                                              refine J.iload_n (pc := 865) C dL_law_865 rfl rfl ?_
                                              refine J.iconst (pc := 866) C dL_law_866 ki_2 ?_
                                              refine J.iadd (pc := 867) C dL_law_867 ?_
                                              refine J.sld (pc := 868) C hX dL_law_868 ?_
                                              refine J.vW (pc := 869) C mv_X7_judge wm_RL_98 (fun l => c_X7_judge l g S a1 (xs (x3 + 1).toNatClampNeg) (xs (x3 + 2).toNatClampNeg)) ⟨⟨Nat.le_of_ble_eq_true rfl, Nat.le_of_ble_eq_true rfl⟩, rfl, rfl⟩ rfl ⟨Nat.le_of_ble_eq_true rfl, Nat.le_of_ble_eq_true rfl⟩ rfl cat_n (Nat.le_of_ble_eq_true rfl) dL_law_869 (fun r74 S_75 => ?_)
                                              refine J.aload_n (pc := 872) C (x := a2) dL_law_872 rfl rfl ?_
                                              refine J.sload_n (pc := 873) C dL_law_873 rfl rfl ?_
                                              refine J.iload_n (pc := 874) C dL_law_874 rfl rfl ?_
                                              refine J.iconst (pc := 875) C dL_law_875 ki_1 ?_
                                              refine J.iadd (pc := 876) C dL_law_876 ?_
                                              refine J.sld (pc := 877) C hX dL_law_877 ?_
                                              refine J.sload_n (pc := 878) C dL_law_878 rfl rfl ?_
                                              refine J.iload_n (pc := 879) C dL_law_879 rfl rfl ?_
                                              refine J.iconst (pc := 880) C dL_law_880 ki_2 ?_
                                              refine J.iadd (pc := 881) C dL_law_881 ?_
                                              refine J.sld (pc := 882) C hX dL_law_882 ?_
                                              refine J.vW (pc := 883) C mv_X8_judge wm_RL_101 (fun l => c_X8_judge l g S_75 a2 (xs (x3 + 1).toNatClampNeg) (xs (x3 + 2).toNatClampNeg)) ⟨⟨Nat.le_of_ble_eq_true rfl, Nat.le_of_ble_eq_true rfl⟩, rfl, rfl⟩ rfl ⟨Nat.le_of_ble_eq_true rfl, Nat.le_of_ble_eq_true rfl⟩ rfl (cat_i cat_n) (Nat.le_of_ble_eq_true rfl) dL_law_883 (fun r76 S_77 => ?_)
                                              refine J.icmp_eq (pc := 886) C (tgt := 1134) dL_law_886 rfl ?_ ?_
                                              · refine J.iinc (pc := 1134) C (lv' := [(0, .ref b), (1, rv g a1), (2, rv g a2), (3, .int (x3 + 7))]) dL_law_1134 rfl (Nat.le_of_ble_eq_true rfl) ki_7 rfl ?_
                                                refine J.goto (pc := 1137) C (tgt := 18) dL_law_1137 rfl ?_
                                                exact (hk18 _ _)
                                              · refine J.iconst (pc := 889) C dL_law_889 ki_0 ?_
                                                exact J.lret0
                                            · refine J.ite (fun h21 => ?_) (fun h21 => ?_)
                                              · refine J.tswIn (pc := 33) C (tgt := 891) 21 dL_law_33 h21 (by decide) (by decide) rfl rfl ?_
                                                refine J.aload_n (pc := 891) C (x := a1) dL_law_891 rfl rfl ?_
                                                refine J.sload_n (pc := 892) C dL_law_892 rfl rfl ?_
                                                refine J.iload_n (pc := 893) C dL_law_893 rfl rfl ?_
                                                refine J.iconst (pc := 894) C dL_law_894 ki_1 ?_
                                                refine J.iadd (pc := 895) C dL_law_895 ?_
                                                refine J.sld (pc := 896) C hX dL_law_896 ?_
                                                refine J.sload_n (pc := 897) C dL_law_897 rfl rfl ?_
                                                refine J.iload_n (pc := 898) C dL_law_898 rfl rfl ?_
                                                refine J.iconst (pc := 899) C dL_law_899 ki_2 ?_
                                                refine J.iadd (pc := 900) C dL_law_900 ?_
                                                refine J.sld (pc := 901) C hX dL_law_901 ?_
                                                refine J.vI (pc := 902) C mv_X7_rowOf wm_RL_102 (fun l => c_X7_rowOf l g S a1 (xs (x3 + 1).toNatClampNeg) (xs (x3 + 2).toNatClampNeg)) ⟨⟨Nat.le_of_ble_eq_true rfl, Nat.le_of_ble_eq_true rfl⟩, rfl, rfl⟩ rfl ⟨Nat.le_of_ble_eq_true rfl, Nat.le_of_ble_eq_true rfl⟩ rfl cat_n (Nat.le_of_ble_eq_true rfl) dL_law_902 (fun r78 => ?_)
                                                refine J.aload_n (pc := 905) C (x := a2) dL_law_905 rfl rfl ?_
                                                refine J.sload_n (pc := 906) C dL_law_906 rfl rfl ?_
                                                refine J.iload_n (pc := 907) C dL_law_907 rfl rfl ?_
                                                refine J.iconst (pc := 908) C dL_law_908 ki_1 ?_
                                                refine J.iadd (pc := 909) C dL_law_909 ?_
                                                refine J.sld (pc := 910) C hX dL_law_910 ?_
                                                refine J.sload_n (pc := 911) C dL_law_911 rfl rfl ?_
                                                refine J.iload_n (pc := 912) C dL_law_912 rfl rfl ?_
                                                refine J.iconst (pc := 913) C dL_law_913 ki_2 ?_
                                                refine J.iadd (pc := 914) C dL_law_914 ?_
                                                refine J.sld (pc := 915) C hX dL_law_915 ?_
                                                refine J.vI (pc := 916) C mv_X8_rowOf wm_RL_105 (fun l => c_X8_rowOf l g S a2 (xs (x3 + 1).toNatClampNeg) (xs (x3 + 2).toNatClampNeg)) ⟨⟨Nat.le_of_ble_eq_true rfl, Nat.le_of_ble_eq_true rfl⟩, rfl, rfl⟩ rfl ⟨Nat.le_of_ble_eq_true rfl, Nat.le_of_ble_eq_true rfl⟩ rfl (cat_i cat_n) (Nat.le_of_ble_eq_true rfl) dL_law_916 (fun r79 => ?_)
                                                refine J.icmp_eq (pc := 919) C (tgt := 1134) dL_law_919 rfl ?_ ?_
                                                · refine J.iinc (pc := 1134) C (lv' := [(0, .ref b), (1, rv g a1), (2, rv g a2), (3, .int (x3 + 7))]) dL_law_1134 rfl (Nat.le_of_ble_eq_true rfl) ki_7 rfl ?_
                                                  refine J.goto (pc := 1137) C (tgt := 18) dL_law_1137 rfl ?_
                                                  exact (hk18 _ _)
                                                · refine J.iconst (pc := 922) C dL_law_922 ki_0 ?_
                                                  exact J.lret0
                                              · refine J.ite (fun h22 => ?_) (fun h22 => ?_)
                                                · refine J.tswIn (pc := 33) C (tgt := 924) 22 dL_law_33 h22 (by decide) (by decide) rfl rfl ?_
                                                  refine J.aload_n (pc := 924) C (x := a1) dL_law_924 rfl rfl ?_
                                                  refine J.sload_n (pc := 925) C dL_law_925 rfl rfl ?_
                                                  refine J.iload_n (pc := 926) C dL_law_926 rfl rfl ?_
                                                  refine J.iconst (pc := 927) C dL_law_927 ki_1 ?_
                                                  refine J.iadd (pc := 928) C dL_law_928 ?_
                                                  refine J.sld (pc := 929) C hX dL_law_929 ?_
                                                  refine J.sload_n (pc := 930) C dL_law_930 rfl rfl ?_
                                                  refine J.iload_n (pc := 931) C dL_law_931 rfl rfl ?_
                                                  refine J.iconst (pc := 932) C dL_law_932 ki_2 ?_
                                                  refine J.iadd (pc := 933) C dL_law_933 ?_
                                                  refine J.sld (pc := 934) C hX dL_law_934 ?_
                                                  refine J.vW (pc := 935) C mv_X7_bestWait wm_RL_106 (fun l => c_X7_bestWait l g S a1 (xs (x3 + 1).toNatClampNeg) (xs (x3 + 2).toNatClampNeg)) ⟨⟨Nat.le_of_ble_eq_true rfl, Nat.le_of_ble_eq_true rfl⟩, rfl, rfl⟩ rfl ⟨Nat.le_of_ble_eq_true rfl, Nat.le_of_ble_eq_true rfl⟩ rfl cat_n (Nat.le_of_ble_eq_true rfl) dL_law_935 (fun r80 S_81 => ?_)
                                                  refine J.aload_n (pc := 938) C (x := a2) dL_law_938 rfl rfl ?_
                                                  refine J.sload_n (pc := 939) C dL_law_939 rfl rfl ?_
                                                  refine J.iload_n (pc := 940) C dL_law_940 rfl rfl ?_
                                                  refine J.iconst (pc := 941) C dL_law_941 ki_1 ?_
                                                  refine J.iadd (pc := 942) C dL_law_942 ?_
                                                  refine J.sld (pc := 943) C hX dL_law_943 ?_
                                                  refine J.sload_n (pc := 944) C dL_law_944 rfl rfl ?_
                                                  refine J.iload_n (pc := 945) C dL_law_945 rfl rfl ?_
                                                  refine J.iconst (pc := 946) C dL_law_946 ki_2 ?_
                                                  refine J.iadd (pc := 947) C dL_law_947 ?_
                                                  refine J.sld (pc := 948) C hX dL_law_948 ?_
                                                  refine J.vW (pc := 949) C mv_X8_bestWait wm_RL_109 (fun l => c_X8_bestWait l g S_81 a2 (xs (x3 + 1).toNatClampNeg) (xs (x3 + 2).toNatClampNeg)) ⟨⟨Nat.le_of_ble_eq_true rfl, Nat.le_of_ble_eq_true rfl⟩, rfl, rfl⟩ rfl ⟨Nat.le_of_ble_eq_true rfl, Nat.le_of_ble_eq_true rfl⟩ rfl (cat_i cat_n) (Nat.le_of_ble_eq_true rfl) dL_law_949 (fun r82 S_83 => ?_)
                                                  refine J.icmp_eq (pc := 952) C (tgt := 1134) dL_law_952 rfl ?_ ?_
                                                  · refine J.iinc (pc := 1134) C (lv' := [(0, .ref b), (1, rv g a1), (2, rv g a2), (3, .int (x3 + 7))]) dL_law_1134 rfl (Nat.le_of_ble_eq_true rfl) ki_7 rfl ?_
                                                    refine J.goto (pc := 1137) C (tgt := 18) dL_law_1137 rfl ?_
                                                    exact (hk18 _ _)
                                                  · refine J.iconst (pc := 955) C dL_law_955 ki_0 ?_
                                                    exact J.lret0
                                                · refine J.ite (fun h23 => ?_) (fun h23 => ?_)
                                                  · refine J.tswIn (pc := 33) C (tgt := 957) 23 dL_law_33 h23 (by decide) (by decide) rfl rfl ?_
                                                    refine J.aload_n (pc := 957) C (x := a1) dL_law_957 rfl rfl ?_
                                                    refine J.sload_n (pc := 958) C dL_law_958 rfl rfl ?_
                                                    refine J.iload_n (pc := 959) C dL_law_959 rfl rfl ?_
                                                    refine J.iconst (pc := 960) C dL_law_960 ki_1 ?_
                                                    refine J.iadd (pc := 961) C dL_law_961 ?_
                                                    refine J.sld (pc := 962) C hX dL_law_962 ?_
                                                    refine J.sload_n (pc := 963) C dL_law_963 rfl rfl ?_
                                                    refine J.iload_n (pc := 964) C dL_law_964 rfl rfl ?_
                                                    refine J.iconst (pc := 965) C dL_law_965 ki_2 ?_
                                                    refine J.iadd (pc := 966) C dL_law_966 ?_
                                                    refine J.sld (pc := 967) C hX dL_law_967 ?_
                                                    refine J.vW (pc := 968) C mv_X7_motions wm_RL_110 (fun l => c_X7_motions l g S a1 (xs (x3 + 1).toNatClampNeg) (xs (x3 + 2).toNatClampNeg)) ⟨⟨Nat.le_of_ble_eq_true rfl, Nat.le_of_ble_eq_true rfl⟩, rfl, rfl⟩ rfl ⟨Nat.le_of_ble_eq_true rfl, Nat.le_of_ble_eq_true rfl⟩ rfl cat_n (Nat.le_of_ble_eq_true rfl) dL_law_968 (fun r84 S_85 => ?_)
                                                    refine J.aload_n (pc := 971) C (x := a2) dL_law_971 rfl rfl ?_
                                                    refine J.sload_n (pc := 972) C dL_law_972 rfl rfl ?_
                                                    refine J.iload_n (pc := 973) C dL_law_973 rfl rfl ?_
                                                    refine J.iconst (pc := 974) C dL_law_974 ki_1 ?_
                                                    refine J.iadd (pc := 975) C dL_law_975 ?_
                                                    refine J.sld (pc := 976) C hX dL_law_976 ?_
                                                    refine J.sload_n (pc := 977) C dL_law_977 rfl rfl ?_
                                                    refine J.iload_n (pc := 978) C dL_law_978 rfl rfl ?_
                                                    refine J.iconst (pc := 979) C dL_law_979 ki_2 ?_
                                                    refine J.iadd (pc := 980) C dL_law_980 ?_
                                                    refine J.sld (pc := 981) C hX dL_law_981 ?_
                                                    refine J.vW (pc := 982) C mv_X8_motions wm_RL_113 (fun l => c_X8_motions l g S_85 a2 (xs (x3 + 1).toNatClampNeg) (xs (x3 + 2).toNatClampNeg)) ⟨⟨Nat.le_of_ble_eq_true rfl, Nat.le_of_ble_eq_true rfl⟩, rfl, rfl⟩ rfl ⟨Nat.le_of_ble_eq_true rfl, Nat.le_of_ble_eq_true rfl⟩ rfl (cat_i cat_n) (Nat.le_of_ble_eq_true rfl) dL_law_982 (fun r86 S_87 => ?_)
                                                    refine J.icmp_eq (pc := 985) C (tgt := 1134) dL_law_985 rfl ?_ ?_
                                                    · refine J.iinc (pc := 1134) C (lv' := [(0, .ref b), (1, rv g a1), (2, rv g a2), (3, .int (x3 + 7))]) dL_law_1134 rfl (Nat.le_of_ble_eq_true rfl) ki_7 rfl ?_
                                                      refine J.goto (pc := 1137) C (tgt := 18) dL_law_1137 rfl ?_
                                                      exact (hk18 _ _)
                                                    · refine J.iconst (pc := 988) C dL_law_988 ki_0 ?_
                                                      exact J.lret0
                                                  · refine J.ite (fun h24 => ?_) (fun h24 => ?_)
                                                    · refine J.tswIn (pc := 33) C (tgt := 990) 24 dL_law_33 h24 (by decide) (by decide) rfl rfl ?_
                                                      refine J.aload_n (pc := 990) C (x := a1) dL_law_990 rfl rfl ?_
                                                      refine J.vW (pc := 991) C mv_X7_periods wm_RL_114 (fun l => c_X7_periods l g S a1) ⟨⟨Nat.le_of_ble_eq_true rfl, Nat.le_of_ble_eq_true rfl⟩, rfl, rfl⟩ rfl ⟨Nat.le_of_ble_eq_true rfl, Nat.le_of_ble_eq_true rfl⟩ rfl cat_n (Nat.le_of_ble_eq_true rfl) dL_law_991 (fun r88 S_89 => ?_)
                                                      refine J.aload_n (pc := 994) C (x := a2) dL_law_994 rfl rfl ?_
                                                      refine J.vW (pc := 995) C mv_X8_periods wm_RL_117 (fun l => c_X8_periods l g S_89 a2) ⟨⟨Nat.le_of_ble_eq_true rfl, Nat.le_of_ble_eq_true rfl⟩, rfl, rfl⟩ rfl ⟨Nat.le_of_ble_eq_true rfl, Nat.le_of_ble_eq_true rfl⟩ rfl (cat_i cat_n) (Nat.le_of_ble_eq_true rfl) dL_law_995 (fun r90 S_91 => ?_)
                                                      refine J.icmp_eq (pc := 998) C (tgt := 1134) dL_law_998 rfl ?_ ?_
                                                      · refine J.iinc (pc := 1134) C (lv' := [(0, .ref b), (1, rv g a1), (2, rv g a2), (3, .int (x3 + 7))]) dL_law_1134 rfl (Nat.le_of_ble_eq_true rfl) ki_7 rfl ?_
                                                        refine J.goto (pc := 1137) C (tgt := 18) dL_law_1137 rfl ?_
                                                        exact (hk18 _ _)
                                                      · refine J.iconst (pc := 1001) C dL_law_1001 ki_0 ?_
                                                        exact J.lret0
                                                    · refine J.ite (fun h25 => ?_) (fun h25 => ?_)
                                                      · refine J.tswIn (pc := 33) C (tgt := 1003) 25 dL_law_33 h25 (by decide) (by decide) rfl rfl ?_
                                                        refine J.aload_n (pc := 1003) C (x := a1) dL_law_1003 rfl rfl ?_
                                                        refine J.sload_n (pc := 1004) C dL_law_1004 rfl rfl ?_
                                                        refine J.iload_n (pc := 1005) C dL_law_1005 rfl rfl ?_
                                                        refine J.iconst (pc := 1006) C dL_law_1006 ki_1 ?_
                                                        refine J.iadd (pc := 1007) C dL_law_1007 ?_
                                                        refine J.sld (pc := 1008) C hX dL_law_1008 ?_
                                                        refine J.vW (pc := 1009) C mv_X7_fitting wm_RL_118 (fun l => c_X7_fitting l g S a1 (xs (x3 + 1).toNatClampNeg)) ⟨⟨Nat.le_of_ble_eq_true rfl, Nat.le_of_ble_eq_true rfl⟩, rfl, rfl⟩ rfl ⟨Nat.le_of_ble_eq_true rfl, Nat.le_of_ble_eq_true rfl⟩ rfl cat_n (Nat.le_of_ble_eq_true rfl) dL_law_1009 (fun r92 S_93 => ?_)
                                                        refine J.aload_n (pc := 1012) C (x := a2) dL_law_1012 rfl rfl ?_
                                                        refine J.sload_n (pc := 1013) C dL_law_1013 rfl rfl ?_
                                                        refine J.iload_n (pc := 1014) C dL_law_1014 rfl rfl ?_
                                                        refine J.iconst (pc := 1015) C dL_law_1015 ki_1 ?_
                                                        refine J.iadd (pc := 1016) C dL_law_1016 ?_
                                                        refine J.sld (pc := 1017) C hX dL_law_1017 ?_
                                                        refine J.vI (pc := 1018) C mv_X8_fitting wm_RL_121 (fun l => c_X8_fitting l g S_93 a2 (xs (x3 + 1).toNatClampNeg)) ⟨⟨Nat.le_of_ble_eq_true rfl, Nat.le_of_ble_eq_true rfl⟩, rfl, rfl⟩ rfl ⟨Nat.le_of_ble_eq_true rfl, Nat.le_of_ble_eq_true rfl⟩ rfl (cat_i cat_n) (Nat.le_of_ble_eq_true rfl) dL_law_1018 (fun r94 => ?_)
                                                        refine J.icmp_eq (pc := 1021) C (tgt := 1134) dL_law_1021 rfl ?_ ?_
                                                        · refine J.iinc (pc := 1134) C (lv' := [(0, .ref b), (1, rv g a1), (2, rv g a2), (3, .int (x3 + 7))]) dL_law_1134 rfl (Nat.le_of_ble_eq_true rfl) ki_7 rfl ?_
                                                          refine J.goto (pc := 1137) C (tgt := 18) dL_law_1137 rfl ?_
                                                          exact (hk18 _ _)
                                                        · refine J.iconst (pc := 1024) C dL_law_1024 ki_0 ?_
                                                          exact J.lret0
                                                      · refine J.ite (fun h26 => ?_) (fun h26 => ?_)
                                                        · refine J.tswIn (pc := 33) C (tgt := 1026) 26 dL_law_33 h26 (by decide) (by decide) rfl rfl ?_
                                                          refine J.aload_n (pc := 1026) C (x := a1) dL_law_1026 rfl rfl ?_
                                                          refine J.sload_n (pc := 1027) C dL_law_1027 rfl rfl ?_
                                                          refine J.iload_n (pc := 1028) C dL_law_1028 rfl rfl ?_
                                                          refine J.iconst (pc := 1029) C dL_law_1029 ki_1 ?_
                                                          refine J.iadd (pc := 1030) C dL_law_1030 ?_
                                                          refine J.sld (pc := 1031) C hX dL_law_1031 ?_
                                                          refine J.vI (pc := 1032) C mv_X7_count wm_RL_122 (fun l => c_X7_count l g S a1 (xs (x3 + 1).toNatClampNeg)) ⟨⟨Nat.le_of_ble_eq_true rfl, Nat.le_of_ble_eq_true rfl⟩, rfl, rfl⟩ rfl ⟨Nat.le_of_ble_eq_true rfl, Nat.le_of_ble_eq_true rfl⟩ rfl cat_n (Nat.le_of_ble_eq_true rfl) dL_law_1032 (fun r95 => ?_)
                                                          refine J.aload_n (pc := 1035) C (x := a2) dL_law_1035 rfl rfl ?_
                                                          refine J.sload_n (pc := 1036) C dL_law_1036 rfl rfl ?_
                                                          refine J.iload_n (pc := 1037) C dL_law_1037 rfl rfl ?_
                                                          refine J.iconst (pc := 1038) C dL_law_1038 ki_1 ?_
                                                          refine J.iadd (pc := 1039) C dL_law_1039 ?_
                                                          refine J.sld (pc := 1040) C hX dL_law_1040 ?_
                                                          refine J.vI (pc := 1041) C mv_X8_count wm_RL_125 (fun l => c_X8_count l g S a2 (xs (x3 + 1).toNatClampNeg)) ⟨⟨Nat.le_of_ble_eq_true rfl, Nat.le_of_ble_eq_true rfl⟩, rfl, rfl⟩ rfl ⟨Nat.le_of_ble_eq_true rfl, Nat.le_of_ble_eq_true rfl⟩ rfl (cat_i cat_n) (Nat.le_of_ble_eq_true rfl) dL_law_1041 (fun r96 => ?_)
                                                          refine J.icmp_eq (pc := 1044) C (tgt := 1134) dL_law_1044 rfl ?_ ?_
                                                          · refine J.iinc (pc := 1134) C (lv' := [(0, .ref b), (1, rv g a1), (2, rv g a2), (3, .int (x3 + 7))]) dL_law_1134 rfl (Nat.le_of_ble_eq_true rfl) ki_7 rfl ?_
                                                            refine J.goto (pc := 1137) C (tgt := 18) dL_law_1137 rfl ?_
                                                            exact (hk18 _ _)
                                                          · refine J.iconst (pc := 1047) C dL_law_1047 ki_0 ?_
                                                            exact J.lret0
                                                        · refine J.ite (fun h27 => ?_) (fun h27 => ?_)
                                                          · refine J.tswIn (pc := 33) C (tgt := 1049) 27 dL_law_33 h27 (by decide) (by decide) rfl rfl ?_
                                                            refine J.aload_n (pc := 1049) C (x := a1) dL_law_1049 rfl rfl ?_
                                                            refine J.vW (pc := 1050) C mv_X7_undo wm_RL_126 (fun l => c_X7_undo l g S a1) ⟨⟨Nat.le_of_ble_eq_true rfl, Nat.le_of_ble_eq_true rfl⟩, rfl, rfl⟩ rfl ⟨Nat.le_of_ble_eq_true rfl, Nat.le_of_ble_eq_true rfl⟩ rfl cat_n (Nat.le_of_ble_eq_true rfl) dL_law_1050 (fun r97 S_98 => ?_)
                                                            refine J.aload_n (pc := 1053) C (x := a2) dL_law_1053 rfl rfl ?_
                                                            refine J.vW (pc := 1054) C mv_X8_undo wm_RL_129 (fun l => c_X8_undo l g S_98 a2) ⟨⟨Nat.le_of_ble_eq_true rfl, Nat.le_of_ble_eq_true rfl⟩, rfl, rfl⟩ rfl ⟨Nat.le_of_ble_eq_true rfl, Nat.le_of_ble_eq_true rfl⟩ rfl (cat_i cat_n) (Nat.le_of_ble_eq_true rfl) dL_law_1054 (fun r99 S_100 => ?_)
                                                            refine J.icmp_eq (pc := 1057) C (tgt := 1134) dL_law_1057 rfl ?_ ?_
                                                            · refine J.iinc (pc := 1134) C (lv' := [(0, .ref b), (1, rv g a1), (2, rv g a2), (3, .int (x3 + 7))]) dL_law_1134 rfl (Nat.le_of_ble_eq_true rfl) ki_7 rfl ?_
                                                              refine J.goto (pc := 1137) C (tgt := 18) dL_law_1137 rfl ?_
                                                              exact (hk18 _ _)
                                                            · refine J.iconst (pc := 1060) C dL_law_1060 ki_0 ?_
                                                              exact J.lret0
                                                          · refine J.ite (fun h28 => ?_) (fun h28 => ?_)
                                                            · refine J.tswIn (pc := 33) C (tgt := 1062) 28 dL_law_33 h28 (by decide) (by decide) rfl rfl ?_
                                                              refine J.aload_n (pc := 1062) C (x := a1) dL_law_1062 rfl rfl ?_
                                                              refine J.sload_n (pc := 1063) C dL_law_1063 rfl rfl ?_
                                                              refine J.iload_n (pc := 1064) C dL_law_1064 rfl rfl ?_
                                                              refine J.iconst (pc := 1065) C dL_law_1065 ki_1 ?_
                                                              refine J.iadd (pc := 1066) C dL_law_1066 ?_
                                                              refine J.sld (pc := 1067) C hX dL_law_1067 ?_
                                                              refine J.vW (pc := 1068) C mv_X7_type wm_RL_130 (fun l => c_X7_type l g S a1 (xs (x3 + 1).toNatClampNeg)) ⟨⟨Nat.le_of_ble_eq_true rfl, Nat.le_of_ble_eq_true rfl⟩, rfl, rfl⟩ rfl ⟨Nat.le_of_ble_eq_true rfl, Nat.le_of_ble_eq_true rfl⟩ rfl cat_n (Nat.le_of_ble_eq_true rfl) dL_law_1068 (fun r101 S_102 => ?_)
                                                              refine J.aload_n (pc := 1071) C (x := a2) dL_law_1071 rfl rfl ?_
                                                              refine J.sload_n (pc := 1072) C dL_law_1072 rfl rfl ?_
                                                              refine J.iload_n (pc := 1073) C dL_law_1073 rfl rfl ?_
                                                              refine J.iconst (pc := 1074) C dL_law_1074 ki_1 ?_
                                                              refine J.iadd (pc := 1075) C dL_law_1075 ?_
                                                              refine J.sld (pc := 1076) C hX dL_law_1076 ?_
                                                              refine J.vW (pc := 1077) C mv_X8_type wm_RL_133 (fun l => c_X8_type l g S_102 a2 (xs (x3 + 1).toNatClampNeg)) ⟨⟨Nat.le_of_ble_eq_true rfl, Nat.le_of_ble_eq_true rfl⟩, rfl, rfl⟩ rfl ⟨Nat.le_of_ble_eq_true rfl, Nat.le_of_ble_eq_true rfl⟩ rfl (cat_i cat_n) (Nat.le_of_ble_eq_true rfl) dL_law_1077 (fun r103 S_104 => ?_)
                                                              refine J.icmp_eq (pc := 1080) C (tgt := 1134) dL_law_1080 rfl ?_ ?_
                                                              · refine J.iinc (pc := 1134) C (lv' := [(0, .ref b), (1, rv g a1), (2, rv g a2), (3, .int (x3 + 7))]) dL_law_1134 rfl (Nat.le_of_ble_eq_true rfl) ki_7 rfl ?_
                                                                refine J.goto (pc := 1137) C (tgt := 18) dL_law_1137 rfl ?_
                                                                exact (hk18 _ _)
                                                              · refine J.iconst (pc := 1083) C dL_law_1083 ki_0 ?_
                                                                exact J.lret0
                                                            · refine J.ite (fun h29 => ?_) (fun h29 => ?_)
                                                              · refine J.tswIn (pc := 33) C (tgt := 1085) 29 dL_law_33 h29 (by decide) (by decide) rfl rfl ?_
                                                                refine J.aload_n (pc := 1085) C (x := a1) dL_law_1085 rfl rfl ?_
                                                                refine J.vW (pc := 1086) C mv_X7_clearText wm_RL_134 (fun l => c_X7_clearText l g S a1) ⟨⟨Nat.le_of_ble_eq_true rfl, Nat.le_of_ble_eq_true rfl⟩, rfl, rfl⟩ rfl ⟨Nat.le_of_ble_eq_true rfl, Nat.le_of_ble_eq_true rfl⟩ rfl cat_n (Nat.le_of_ble_eq_true rfl) dL_law_1086 (fun r105 S_106 => ?_)
                                                                refine J.aload_n (pc := 1089) C (x := a2) dL_law_1089 rfl rfl ?_
                                                                refine J.vW (pc := 1090) C mv_X8_clearText wm_RL_137 (fun l => c_X8_clearText l g S_106 a2) ⟨⟨Nat.le_of_ble_eq_true rfl, Nat.le_of_ble_eq_true rfl⟩, rfl, rfl⟩ rfl ⟨Nat.le_of_ble_eq_true rfl, Nat.le_of_ble_eq_true rfl⟩ rfl (cat_i cat_n) (Nat.le_of_ble_eq_true rfl) dL_law_1090 (fun r107 S_108 => ?_)
                                                                refine J.icmp_eq (pc := 1093) C (tgt := 1134) dL_law_1093 rfl ?_ ?_
                                                                · refine J.iinc (pc := 1134) C (lv' := [(0, .ref b), (1, rv g a1), (2, rv g a2), (3, .int (x3 + 7))]) dL_law_1134 rfl (Nat.le_of_ble_eq_true rfl) ki_7 rfl ?_
                                                                  refine J.goto (pc := 1137) C (tgt := 18) dL_law_1137 rfl ?_
                                                                  exact (hk18 _ _)
                                                                · refine J.iconst (pc := 1096) C dL_law_1096 ki_0 ?_
                                                                  exact J.lret0
                                                              · refine J.ite (fun h30 => ?_) (fun h30 => ?_)
                                                                · refine J.tswIn (pc := 33) C (tgt := 1098) 30 dL_law_33 h30 (by decide) (by decide) rfl rfl ?_
                                                                  refine J.aload_n (pc := 1098) C (x := a1) dL_law_1098 rfl rfl ?_
                                                                  refine J.sload_n (pc := 1099) C dL_law_1099 rfl rfl ?_
                                                                  refine J.iload_n (pc := 1100) C dL_law_1100 rfl rfl ?_
                                                                  refine J.iconst (pc := 1101) C dL_law_1101 ki_1 ?_
                                                                  refine J.iadd (pc := 1102) C dL_law_1102 ?_
                                                                  refine J.sld (pc := 1103) C hX dL_law_1103 ?_
                                                                  refine J.vW (pc := 1104) C mv_X7_fault wm_RL_138 (fun l => c_X7_fault l g S a1 (xs (x3 + 1).toNatClampNeg)) ⟨⟨Nat.le_of_ble_eq_true rfl, Nat.le_of_ble_eq_true rfl⟩, rfl, rfl⟩ rfl ⟨Nat.le_of_ble_eq_true rfl, Nat.le_of_ble_eq_true rfl⟩ rfl cat_n (Nat.le_of_ble_eq_true rfl) dL_law_1104 (fun r109 S_110 => ?_)
                                                                  refine J.aload_n (pc := 1107) C (x := a2) dL_law_1107 rfl rfl ?_
                                                                  refine J.sload_n (pc := 1108) C dL_law_1108 rfl rfl ?_
                                                                  refine J.iload_n (pc := 1109) C dL_law_1109 rfl rfl ?_
                                                                  refine J.iconst (pc := 1110) C dL_law_1110 ki_1 ?_
                                                                  refine J.iadd (pc := 1111) C dL_law_1111 ?_
                                                                  refine J.sld (pc := 1112) C hX dL_law_1112 ?_
                                                                  refine J.vW (pc := 1113) C mv_X8_fault wm_RL_141 (fun l => c_X8_fault l g S_110 a2 (xs (x3 + 1).toNatClampNeg)) ⟨⟨Nat.le_of_ble_eq_true rfl, Nat.le_of_ble_eq_true rfl⟩, rfl, rfl⟩ rfl ⟨Nat.le_of_ble_eq_true rfl, Nat.le_of_ble_eq_true rfl⟩ rfl (cat_i cat_n) (Nat.le_of_ble_eq_true rfl) dL_law_1113 (fun r111 S_112 => ?_)
                                                                  refine J.icmp_eq (pc := 1116) C (tgt := 1134) dL_law_1116 rfl ?_ ?_
                                                                  · refine J.iinc (pc := 1134) C (lv' := [(0, .ref b), (1, rv g a1), (2, rv g a2), (3, .int (x3 + 7))]) dL_law_1134 rfl (Nat.le_of_ble_eq_true rfl) ki_7 rfl ?_
                                                                    refine J.goto (pc := 1137) C (tgt := 18) dL_law_1137 rfl ?_
                                                                    exact (hk18 _ _)
                                                                  · refine J.iconst (pc := 1119) C dL_law_1119 ki_0 ?_
                                                                    exact J.lret0
                                                                · refine J.ite (fun h31 => ?_) (fun h31 => ?_)
                                                                  · refine J.tswIn (pc := 33) C (tgt := 1121) 31 dL_law_33 h31 (by decide) (by decide) rfl rfl ?_
                                                                    refine J.aload_n (pc := 1121) C (x := a1) dL_law_1121 rfl rfl ?_
                                                                    refine J.vW (pc := 1122) C mv_X7_play wm_RL_142 (fun l => c_X7_play l g S a1) ⟨⟨Nat.le_of_ble_eq_true rfl, Nat.le_of_ble_eq_true rfl⟩, rfl, rfl⟩ rfl ⟨Nat.le_of_ble_eq_true rfl, Nat.le_of_ble_eq_true rfl⟩ rfl cat_n (Nat.le_of_ble_eq_true rfl) dL_law_1122 (fun r113 S_114 => ?_)
                                                                    refine J.aload_n (pc := 1125) C (x := a2) dL_law_1125 rfl rfl ?_
                                                                    refine J.vW (pc := 1126) C mv_X8_play wm_RL_145 (fun l => c_X8_play l g S_114 a2) ⟨⟨Nat.le_of_ble_eq_true rfl, Nat.le_of_ble_eq_true rfl⟩, rfl, rfl⟩ rfl ⟨Nat.le_of_ble_eq_true rfl, Nat.le_of_ble_eq_true rfl⟩ rfl (cat_i cat_n) (Nat.le_of_ble_eq_true rfl) dL_law_1126 (fun r115 S_116 => ?_)
                                                                    refine J.icmp_eq (pc := 1129) C (tgt := 1134) dL_law_1129 rfl ?_ ?_
                                                                    · refine J.iinc (pc := 1134) C (lv' := [(0, .ref b), (1, rv g a1), (2, rv g a2), (3, .int (x3 + 7))]) dL_law_1134 rfl (Nat.le_of_ble_eq_true rfl) ki_7 rfl ?_
                                                                      refine J.goto (pc := 1137) C (tgt := 18) dL_law_1137 rfl ?_
                                                                      exact (hk18 _ _)
                                                                    · refine J.iconst (pc := 1132) C dL_law_1132 ki_0 ?_
                                                                      exact J.lret0
                                                                  · refine J.tswOut (pc := 33) C (tgt := 1134) dL_law_33 (by have e0 := lv_neT h0 (a := 0) rfl; have e1 := lv_neT h1 (a := 1) rfl; have e2 := lv_neT h2 (a := 2) rfl; have e3 := lv_neT h3 (a := 3) rfl; have e4 := lv_neT h4 (a := 4) rfl; have e5 := lv_neT h5 (a := 5) rfl; have e6 := lv_neT h6 (a := 6) rfl; have e7 := lv_neT h7 (a := 7) rfl; have e8 := lv_neT h8 (a := 8) rfl; have e9 := lv_neT h9 (a := 9) rfl; have e10 := lv_neT h10 (a := 10) rfl; have e11 := lv_neT h11 (a := 11) rfl; have e12 := lv_neT h12 (a := 12) rfl; have e13 := lv_neT h13 (a := 13) rfl; have e14 := lv_neT h14 (a := 14) rfl; have e15 := lv_neT h15 (a := 15) rfl; have e16 := lv_neT h16 (a := 16) rfl; have e17 := lv_neT h17 (a := 17) rfl; have e18 := lv_neT h18 (a := 18) rfl; have e19 := lv_neT h19 (a := 19) rfl; have e20 := lv_neT h20 (a := 20) rfl; have e21 := lv_neT h21 (a := 21) rfl; have e22 := lv_neT h22 (a := 22) rfl; have e23 := lv_neT h23 (a := 23) rfl; have e24 := lv_neT h24 (a := 24) rfl; have e25 := lv_neT h25 (a := 25) rfl; have e26 := lv_neT h26 (a := 26) rfl; have e27 := lv_neT h27 (a := 27) rfl; have e28 := lv_neT h28 (a := 28) rfl; have e29 := lv_neT h29 (a := 29) rfl; have e30 := lv_neT h30 (a := 30) rfl; have e31 := lv_neT h31 (a := 31) rfl; omega) rfl ?_
                                                                    refine J.iinc (pc := 1134) C (lv' := [(0, .ref b), (1, rv g a1), (2, rv g a2), (3, .int (x3 + 7))]) dL_law_1134 rfl (Nat.le_of_ble_eq_true rfl) ki_7 rfl ?_
                                                                    refine J.goto (pc := 1137) C (tgt := 18) dL_law_1137 rfl ?_
                                                                    exact (hk18 _ _)
def f_L_law (xs : Nat → Int32) (L : Nat) (S : St) : Option Int32 :=
  (chk (kd S.2.2 = 7 ∧ nok 4 600000 7302250 S.2.2 8) (vlt (newS S) fun S_1 =>
  (chk (okc S_1 7 S.2.2) (chk (rok2 4 600000 7302250 119 4957 S_1.2.2) (bnd (f_X7_init S_1 S.2.2) fun S_2 =>
  (chk (S_2.2.2 = S_1.2.2 + 119 ∧ slT S_2.2.2 = slT S_1.2.2 + 4957)
  (chk (kd S_2.2.2 = 8 ∧ nok 4 600000 7302250 S_2.2.2 18) (vlt (newS S_2) fun S_3 =>
  (chk (okc S_3 8 S_2.2.2) (chk (rok2 4 600000 7302250 6 5305 S_3.2.2) (bnd (f_X8_init S_3 S_2.2.2) fun S_4 =>
  (chk (S_4.2.2 = S_3.2.2 + 6 ∧ slT S_4.2.2 = slT S_3.2.2 + 5305)
  (chk (S_4.2.2 = 131) (wl2 (f_L_law_B18 xs L S.2.2 S_2.2.2 (fun (S_117 : St) => (some 1))) FU S_4 0))))))))))))))
set_option maxRecDepth 100000 in
set_option maxHeartbeats 4000000 in
theorem c_L_law {X : CT} {g : GG} {b L : Nat} {xs : Nat → Int32} (hX : SX X g b L xs) (C : CX X g code RL ret 4 room_1) (S : St) : J X g (Ql X b) (cfC 4) 0 [(0, .ref b)] [] S (f_L_law xs L S) := by
  unfold f_L_law
  refine J.new (ci := 7) (N := 8) C rfl rfl wl_RL_7 wi_X7 wz_RX7 dL_law_0 (fun S_1 _ => ?_)
  refine J.dup (pc := 3) C dL_law_3 (rv_cat g _) ?_
  refine J.ctor (pc := 4) C mi_X7_init wm_RL_9 (fun l => c_X7_init l g S_1 S.2.2) ⟨Nat.le_of_ble_eq_true rfl, Nat.le_of_ble_eq_true rfl⟩ rfl rfl (cat_r cat_n) (Nat.le_of_ble_eq_true rfl) dL_law_4 (fun S_2 => ?_)
  refine J.astore_n (pc := 7) C (lv' := [(0, .ref b), (1, rv g S.2.2)]) dL_law_7 rfl (Nat.le_of_ble_eq_true rfl) rfl ?_
  refine J.new (ci := 8) (N := 18) C rfl rfl wl_RL_10 wi_X8 wz_RX8 dL_law_8 (fun S_3 _ => ?_)
  refine J.dup (pc := 11) C dL_law_11 (rv_cat g _) ?_
  refine J.ctor (pc := 12) C mi_X8_init wm_RL_12 (fun l => c_X8_init l g S_3 S_2.2.2) ⟨Nat.le_of_ble_eq_true rfl, Nat.le_of_ble_eq_true rfl⟩ rfl rfl (cat_r cat_n) (Nat.le_of_ble_eq_true rfl) dL_law_12 (fun S_4 => ?_)
  refine J.astore_n (pc := 15) C (lv' := [(0, .ref b), (1, rv g S.2.2), (2, rv g S_2.2.2)]) dL_law_15 rfl (Nat.le_of_ble_eq_true rfl) rfl ?_
  refine J.iconst (pc := 16) C dL_law_16 ki_0 ?_
  refine J.istore_n (pc := 17) C (lv' := [(0, .ref b), (1, rv g S.2.2), (2, rv g S_2.2.2), (3, .int 0)]) dL_law_17 rfl (Nat.le_of_ble_eq_true rfl) rfl ?_
  refine J.toCw (w := (127, 10288)) 131 (by decide +kernel) ?_
  refine w_L_law_B18 hX C _ _ _ (fun S_117 => ?_) FU _ _
  refine J.iconst (pc := 1140) C dL_law_1140 ki_1 ?_
  exact J.lret1 (pc := 1141) C hX ⟨Nat.le_of_ble_eq_true rfl, Nat.le_of_ble_eq_true rfl⟩ dL_law_1141
