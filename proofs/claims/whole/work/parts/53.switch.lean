def mL_sw (L : Nat) (xs : Nat → Int32) (x3 : Int32) (MC : cM) (MR : rM) : Option (cM × rM) := zgd (zin x3 L) (if xs (nx x3) &&& 63 = 0 then mL_0 L xs x3 MC MR else if xs (nx x3) &&& 63 = 1 then mL_1 L xs x3 MC MR else if xs (nx x3) &&& 63 = 2 then mL_2 L xs x3 MC MR else if xs (nx x3) &&& 63 = 3 then mL_3 L xs x3 MC MR else if xs (nx x3) &&& 63 = 4 then mL_4 L xs x3 MC MR else if xs (nx x3) &&& 63 = 5 then mL_5 L xs x3 MC MR else if xs (nx x3) &&& 63 = 6 then mL_6 L xs x3 MC MR else if xs (nx x3) &&& 63 = 7 then mL_7 L xs x3 MC MR else if xs (nx x3) &&& 63 = 8 then mL_8 L xs x3 MC MR else if xs (nx x3) &&& 63 = 9 then mL_9 L xs x3 MC MR else if xs (nx x3) &&& 63 = 10 then mL_10 L xs x3 MC MR else if xs (nx x3) &&& 63 = 11 then mL_11 L xs x3 MC MR else if xs (nx x3) &&& 63 = 12 then mL_12 L xs x3 MC MR else if xs (nx x3) &&& 63 = 13 then mL_13 L xs x3 MC MR else if xs (nx x3) &&& 63 = 14 then mL_14 L xs x3 MC MR else if xs (nx x3) &&& 63 = 15 then mL_15 L xs x3 MC MR else if xs (nx x3) &&& 63 = 16 then mL_16 L xs x3 MC MR else if xs (nx x3) &&& 63 = 17 then mL_17 L xs x3 MC MR else if xs (nx x3) &&& 63 = 18 then mL_18 L xs x3 MC MR else if xs (nx x3) &&& 63 = 19 then mL_19 L xs x3 MC MR else if xs (nx x3) &&& 63 = 20 then mL_20 L xs x3 MC MR else if xs (nx x3) &&& 63 = 21 then mL_21 L xs x3 MC MR else if xs (nx x3) &&& 63 = 22 then mL_22 L xs x3 MC MR else if xs (nx x3) &&& 63 = 23 then mL_23 L xs x3 MC MR else if xs (nx x3) &&& 63 = 24 then mL_24 L xs x3 MC MR else if xs (nx x3) &&& 63 = 25 then mL_25 L xs x3 MC MR else if xs (nx x3) &&& 63 = 26 then mL_26 L xs x3 MC MR else if xs (nx x3) &&& 63 = 27 then mL_27 L xs x3 MC MR else if xs (nx x3) &&& 63 = 28 then mL_28 L xs x3 MC MR else if xs (nx x3) &&& 63 = 29 then mL_29 L xs x3 MC MR else if xs (nx x3) &&& 63 = 30 then mL_30 L xs x3 MC MR else if xs (nx x3) &&& 63 = 31 then mL_31 L xs x3 MC MR else if xs (nx x3) &&& 63 = 32 then mL_32 L xs x3 MC MR else if xs (nx x3) &&& 63 = 33 then mL_33 L xs x3 MC MR else if xs (nx x3) &&& 63 = 34 then mL_34 L xs x3 MC MR else if xs (nx x3) &&& 63 = 35 then mL_35 L xs x3 MC MR else if xs (nx x3) &&& 63 = 36 then mL_36 L xs x3 MC MR else if xs (nx x3) &&& 63 = 37 then mL_37 L xs x3 MC MR else if xs (nx x3) &&& 63 = 38 then mL_38 L xs x3 MC MR else if xs (nx x3) &&& 63 = 39 then mL_39 L xs x3 MC MR else if xs (nx x3) &&& 63 = 40 then mL_40 L xs x3 MC MR else if xs (nx x3) &&& 63 = 41 then mL_41 L xs x3 MC MR else if xs (nx x3) &&& 63 = 42 then mL_42 L xs x3 MC MR else if xs (nx x3) &&& 63 = 43 then mL_43 L xs x3 MC MR else some (MC, MR))
set_option maxHeartbeats 4000000 in
theorem mL_sw_ok {p : Program} {l : Launch} {e : Env} {s : State} {m : MethodId} {args : Array Value} {below : List Frame} {meth : Method} {c : Code} {Q : State → Prop} {D : va_G} {ad : zR → Nat} {ca : Nat → ClassId} {A : Nat → Prop} {base n k : Nat} {L : Nat} {xs : Nat → Int32} {x3 : Int32} {MC MC' : cM} {MR MR' : rM} (hW : zWh zUA base ad A) (Z : zOK (zCm p l e room_1 s m args below meth c Q code 4 R_law tbL (zGL D ad ca A))) (hX : va_X (ad (2200, 0)) L xs s s.heap ∧ ad (2200, 0) < s.heap.size ∧ ¬ A (ad (2200, 0))) (hnk : n ≤ room_1.cells ∧ k ≤ room_1.slots) (h : mL_sw L xs x3 MC MR = some (MC', MR')) (K : zGo (zCm p l e room_1 s m args below meth c Q code 4 R_law tbL (zGL D ad ca A)) n k (1669, [(0, .inr (.inr (some (2200, 0)))), (1, .inr (.inr (some (11, 0)))), (2, .inr (.inr (some (12, 0)))), (3, .inl x3)], [], zmix MC' MR')) : zGo (zCm p l e room_1 s m args below meth c Q code 4 R_law tbL (zGL D ad ca A)) n k (27, [(0, .inr (.inr (some (2200, 0)))), (1, .inr (.inr (some (11, 0)))), (2, .inr (.inr (some (12, 0)))), (3, .inl x3)], [], zmix MC MR) := by
  unfold mL_sw at h
  obtain ⟨hg, h⟩ := zgd_inv h
  refine zblq Z rfl [(.aload 0, 1), (.iload 3, 1)] (S' := (29, [(0, .inr (.inr (some (2200, 0)))), (1, .inr (.inr (some (11, 0)))), (2, .inr (.inr (some (12, 0)))), (3, .inl x3)], [.inl x3, .inr (.inr (some (2200, 0)))], zmix MC MR)) (b := true) (by decide +kernel) rfl rfl ?_
  refine c_sld Z hX hg (by decide +kernel) ?_
  refine zblq Z rfl [(.iconst 63, 2), (.iand, 1)] (S' := (33, [(0, .inr (.inr (some (2200, 0)))), (1, .inr (.inr (some (11, 0)))), (2, .inr (.inr (some (12, 0)))), (3, .inl x3)], [.inl (xs (nx x3) &&& 63)], zmix MC MR)) (b := true) (by decide +kernel) rfl rfl ?_
  have hd : decode code 33 = .ok (.tableswitch 1636 0 43 #[191, 224, 283, 326, 369, 402, 435, 468, 491, 504, 537, 560, 583, 606, 669, 682, 695, 708, 751, 784, 807, 840, 863, 876, 899, 962, 1005, 1038, 1072, 1135, 1148, 1191, 1224, 1247, 1270, 1329, 1362, 1405, 1428, 1441, 1474, 1537, 1550, 1613], 191) := by decide +kernel
  by_cases hs0 : xs (nx x3) &&& 63 = (0 : Int32)
  · replace h := zite_t h hs0
    refine zsw_in Z (v := 0) (tgt := 224) (off := 191) hs0 hd (by decide +kernel) (by decide) ?_
    exact mL_0_ok hW Z hX hnk h K
  replace h := zite_f h hs0
  by_cases hs1 : xs (nx x3) &&& 63 = (1 : Int32)
  · replace h := zite_t h hs1
    refine zsw_in Z (v := 1) (tgt := 257) (off := 224) hs1 hd (by decide +kernel) (by decide) ?_
    exact mL_1_ok hW Z hX hnk h K
  replace h := zite_f h hs1
  by_cases hs2 : xs (nx x3) &&& 63 = (2 : Int32)
  · replace h := zite_t h hs2
    refine zsw_in Z (v := 2) (tgt := 316) (off := 283) hs2 hd (by decide +kernel) (by decide) ?_
    exact mL_2_ok hW Z hX hnk h K
  replace h := zite_f h hs2
  by_cases hs3 : xs (nx x3) &&& 63 = (3 : Int32)
  · replace h := zite_t h hs3
    refine zsw_in Z (v := 3) (tgt := 359) (off := 326) hs3 hd (by decide +kernel) (by decide) ?_
    exact mL_3_ok hW Z hX hnk h K
  replace h := zite_f h hs3
  by_cases hs4 : xs (nx x3) &&& 63 = (4 : Int32)
  · replace h := zite_t h hs4
    refine zsw_in Z (v := 4) (tgt := 402) (off := 369) hs4 hd (by decide +kernel) (by decide) ?_
    exact mL_4_ok hW Z hX hnk h K
  replace h := zite_f h hs4
  by_cases hs5 : xs (nx x3) &&& 63 = (5 : Int32)
  · replace h := zite_t h hs5
    refine zsw_in Z (v := 5) (tgt := 435) (off := 402) hs5 hd (by decide +kernel) (by decide) ?_
    exact mL_5_ok hW Z hX hnk h K
  replace h := zite_f h hs5
  by_cases hs6 : xs (nx x3) &&& 63 = (6 : Int32)
  · replace h := zite_t h hs6
    refine zsw_in Z (v := 6) (tgt := 468) (off := 435) hs6 hd (by decide +kernel) (by decide) ?_
    exact mL_6_ok hW Z hX hnk h K
  replace h := zite_f h hs6
  by_cases hs7 : xs (nx x3) &&& 63 = (7 : Int32)
  · replace h := zite_t h hs7
    refine zsw_in Z (v := 7) (tgt := 501) (off := 468) hs7 hd (by decide +kernel) (by decide) ?_
    exact mL_7_ok hW Z hX hnk h K
  replace h := zite_f h hs7
  by_cases hs8 : xs (nx x3) &&& 63 = (8 : Int32)
  · replace h := zite_t h hs8
    refine zsw_in Z (v := 8) (tgt := 524) (off := 491) hs8 hd (by decide +kernel) (by decide) ?_
    exact mL_8_ok hW Z hX hnk h K
  replace h := zite_f h hs8
  by_cases hs9 : xs (nx x3) &&& 63 = (9 : Int32)
  · replace h := zite_t h hs9
    refine zsw_in Z (v := 9) (tgt := 537) (off := 504) hs9 hd (by decide +kernel) (by decide) ?_
    exact mL_9_ok hW Z hX hnk h K
  replace h := zite_f h hs9
  by_cases hs10 : xs (nx x3) &&& 63 = (10 : Int32)
  · replace h := zite_t h hs10
    refine zsw_in Z (v := 10) (tgt := 570) (off := 537) hs10 hd (by decide +kernel) (by decide) ?_
    exact mL_10_ok hW Z hX hnk h K
  replace h := zite_f h hs10
  by_cases hs11 : xs (nx x3) &&& 63 = (11 : Int32)
  · replace h := zite_t h hs11
    refine zsw_in Z (v := 11) (tgt := 593) (off := 560) hs11 hd (by decide +kernel) (by decide) ?_
    exact mL_11_ok hW Z hX hnk h K
  replace h := zite_f h hs11
  by_cases hs12 : xs (nx x3) &&& 63 = (12 : Int32)
  · replace h := zite_t h hs12
    refine zsw_in Z (v := 12) (tgt := 616) (off := 583) hs12 hd (by decide +kernel) (by decide) ?_
    exact mL_12_ok hW Z hX hnk h K
  replace h := zite_f h hs12
  by_cases hs13 : xs (nx x3) &&& 63 = (13 : Int32)
  · replace h := zite_t h hs13
    refine zsw_in Z (v := 13) (tgt := 639) (off := 606) hs13 hd (by decide +kernel) (by decide) ?_
    exact mL_13_ok hW Z hX hnk h K
  replace h := zite_f h hs13
  by_cases hs14 : xs (nx x3) &&& 63 = (14 : Int32)
  · replace h := zite_t h hs14
    refine zsw_in Z (v := 14) (tgt := 702) (off := 669) hs14 hd (by decide +kernel) (by decide) ?_
    exact mL_14_ok hW Z hX hnk h K
  replace h := zite_f h hs14
  by_cases hs15 : xs (nx x3) &&& 63 = (15 : Int32)
  · replace h := zite_t h hs15
    refine zsw_in Z (v := 15) (tgt := 715) (off := 682) hs15 hd (by decide +kernel) (by decide) ?_
    exact mL_15_ok hW Z hX hnk h K
  replace h := zite_f h hs15
  by_cases hs16 : xs (nx x3) &&& 63 = (16 : Int32)
  · replace h := zite_t h hs16
    refine zsw_in Z (v := 16) (tgt := 728) (off := 695) hs16 hd (by decide +kernel) (by decide) ?_
    exact mL_16_ok hW Z hX hnk h K
  replace h := zite_f h hs16
  by_cases hs17 : xs (nx x3) &&& 63 = (17 : Int32)
  · replace h := zite_t h hs17
    refine zsw_in Z (v := 17) (tgt := 741) (off := 708) hs17 hd (by decide +kernel) (by decide) ?_
    exact mL_17_ok hW Z hX hnk h K
  replace h := zite_f h hs17
  by_cases hs18 : xs (nx x3) &&& 63 = (18 : Int32)
  · replace h := zite_t h hs18
    refine zsw_in Z (v := 18) (tgt := 784) (off := 751) hs18 hd (by decide +kernel) (by decide) ?_
    exact mL_18_ok hW Z hX hnk h K
  replace h := zite_f h hs18
  by_cases hs19 : xs (nx x3) &&& 63 = (19 : Int32)
  · replace h := zite_t h hs19
    refine zsw_in Z (v := 19) (tgt := 817) (off := 784) hs19 hd (by decide +kernel) (by decide) ?_
    exact mL_19_ok hW Z hX hnk h K
  replace h := zite_f h hs19
  by_cases hs20 : xs (nx x3) &&& 63 = (20 : Int32)
  · replace h := zite_t h hs20
    refine zsw_in Z (v := 20) (tgt := 840) (off := 807) hs20 hd (by decide +kernel) (by decide) ?_
    exact mL_20_ok hW Z hX hnk h K
  replace h := zite_f h hs20
  by_cases hs21 : xs (nx x3) &&& 63 = (21 : Int32)
  · replace h := zite_t h hs21
    refine zsw_in Z (v := 21) (tgt := 873) (off := 840) hs21 hd (by decide +kernel) (by decide) ?_
    exact mL_21_ok hW Z hX hnk h K
  replace h := zite_f h hs21
  by_cases hs22 : xs (nx x3) &&& 63 = (22 : Int32)
  · replace h := zite_t h hs22
    refine zsw_in Z (v := 22) (tgt := 896) (off := 863) hs22 hd (by decide +kernel) (by decide) ?_
    exact mL_22_ok hW Z hX hnk h K
  replace h := zite_f h hs22
  by_cases hs23 : xs (nx x3) &&& 63 = (23 : Int32)
  · replace h := zite_t h hs23
    refine zsw_in Z (v := 23) (tgt := 909) (off := 876) hs23 hd (by decide +kernel) (by decide) ?_
    exact mL_23_ok hW Z hX hnk h K
  replace h := zite_f h hs23
  by_cases hs24 : xs (nx x3) &&& 63 = (24 : Int32)
  · replace h := zite_t h hs24
    refine zsw_in Z (v := 24) (tgt := 932) (off := 899) hs24 hd (by decide +kernel) (by decide) ?_
    exact mL_24_ok hW Z hX hnk h K
  replace h := zite_f h hs24
  by_cases hs25 : xs (nx x3) &&& 63 = (25 : Int32)
  · replace h := zite_t h hs25
    refine zsw_in Z (v := 25) (tgt := 995) (off := 962) hs25 hd (by decide +kernel) (by decide) ?_
    exact mL_25_ok hW Z hX hnk h K
  replace h := zite_f h hs25
  by_cases hs26 : xs (nx x3) &&& 63 = (26 : Int32)
  · replace h := zite_t h hs26
    refine zsw_in Z (v := 26) (tgt := 1038) (off := 1005) hs26 hd (by decide +kernel) (by decide) ?_
    exact mL_26_ok hW Z hX hnk h K
  replace h := zite_f h hs26
  by_cases hs27 : xs (nx x3) &&& 63 = (27 : Int32)
  · replace h := zite_t h hs27
    refine zsw_in Z (v := 27) (tgt := 1071) (off := 1038) hs27 hd (by decide +kernel) (by decide) ?_
    exact mL_27_ok hW Z hX hnk h K
  replace h := zite_f h hs27
  by_cases hs28 : xs (nx x3) &&& 63 = (28 : Int32)
  · replace h := zite_t h hs28
    refine zsw_in Z (v := 28) (tgt := 1105) (off := 1072) hs28 hd (by decide +kernel) (by decide) ?_
    exact mL_28_ok hW Z hX hnk h K
  replace h := zite_f h hs28
  by_cases hs29 : xs (nx x3) &&& 63 = (29 : Int32)
  · replace h := zite_t h hs29
    refine zsw_in Z (v := 29) (tgt := 1168) (off := 1135) hs29 hd (by decide +kernel) (by decide) ?_
    exact mL_29_ok hW Z hX hnk h K
  replace h := zite_f h hs29
  by_cases hs30 : xs (nx x3) &&& 63 = (30 : Int32)
  · replace h := zite_t h hs30
    refine zsw_in Z (v := 30) (tgt := 1181) (off := 1148) hs30 hd (by decide +kernel) (by decide) ?_
    exact mL_30_ok hW Z hX hnk h K
  replace h := zite_f h hs30
  by_cases hs31 : xs (nx x3) &&& 63 = (31 : Int32)
  · replace h := zite_t h hs31
    refine zsw_in Z (v := 31) (tgt := 1224) (off := 1191) hs31 hd (by decide +kernel) (by decide) ?_
    exact mL_31_ok hW Z hX hnk h K
  replace h := zite_f h hs31
  by_cases hs32 : xs (nx x3) &&& 63 = (32 : Int32)
  · replace h := zite_t h hs32
    refine zsw_in Z (v := 32) (tgt := 1257) (off := 1224) hs32 hd (by decide +kernel) (by decide) ?_
    exact mL_32_ok hW Z hX hnk h K
  replace h := zite_f h hs32
  by_cases hs33 : xs (nx x3) &&& 63 = (33 : Int32)
  · replace h := zite_t h hs33
    refine zsw_in Z (v := 33) (tgt := 1280) (off := 1247) hs33 hd (by decide +kernel) (by decide) ?_
    exact mL_33_ok hW Z hX hnk h K
  replace h := zite_f h hs33
  by_cases hs34 : xs (nx x3) &&& 63 = (34 : Int32)
  · replace h := zite_t h hs34
    refine zsw_in Z (v := 34) (tgt := 1303) (off := 1270) hs34 hd (by decide +kernel) (by decide) ?_
    exact mL_34_ok hW Z hX hnk h K
  replace h := zite_f h hs34
  by_cases hs35 : xs (nx x3) &&& 63 = (35 : Int32)
  · replace h := zite_t h hs35
    refine zsw_in Z (v := 35) (tgt := 1362) (off := 1329) hs35 hd (by decide +kernel) (by decide) ?_
    exact mL_35_ok hW Z hX hnk h K
  replace h := zite_f h hs35
  by_cases hs36 : xs (nx x3) &&& 63 = (36 : Int32)
  · replace h := zite_t h hs36
    refine zsw_in Z (v := 36) (tgt := 1395) (off := 1362) hs36 hd (by decide +kernel) (by decide) ?_
    exact mL_36_ok hW Z hX hnk h K
  replace h := zite_f h hs36
  by_cases hs37 : xs (nx x3) &&& 63 = (37 : Int32)
  · replace h := zite_t h hs37
    refine zsw_in Z (v := 37) (tgt := 1438) (off := 1405) hs37 hd (by decide +kernel) (by decide) ?_
    exact mL_37_ok hW Z hX hnk h K
  replace h := zite_f h hs37
  by_cases hs38 : xs (nx x3) &&& 63 = (38 : Int32)
  · replace h := zite_t h hs38
    refine zsw_in Z (v := 38) (tgt := 1461) (off := 1428) hs38 hd (by decide +kernel) (by decide) ?_
    exact mL_38_ok hW Z hX hnk h K
  replace h := zite_f h hs38
  by_cases hs39 : xs (nx x3) &&& 63 = (39 : Int32)
  · replace h := zite_t h hs39
    refine zsw_in Z (v := 39) (tgt := 1474) (off := 1441) hs39 hd (by decide +kernel) (by decide) ?_
    exact mL_39_ok hW Z hX hnk h K
  replace h := zite_f h hs39
  by_cases hs40 : xs (nx x3) &&& 63 = (40 : Int32)
  · replace h := zite_t h hs40
    refine zsw_in Z (v := 40) (tgt := 1507) (off := 1474) hs40 hd (by decide +kernel) (by decide) ?_
    exact mL_40_ok hW Z hX hnk h K
  replace h := zite_f h hs40
  by_cases hs41 : xs (nx x3) &&& 63 = (41 : Int32)
  · replace h := zite_t h hs41
    refine zsw_in Z (v := 41) (tgt := 1570) (off := 1537) hs41 hd (by decide +kernel) (by decide) ?_
    exact mL_41_ok hW Z hX hnk h K
  replace h := zite_f h hs41
  by_cases hs42 : xs (nx x3) &&& 63 = (42 : Int32)
  · replace h := zite_t h hs42
    refine zsw_in Z (v := 42) (tgt := 1583) (off := 1550) hs42 hd (by decide +kernel) (by decide) ?_
    exact mL_42_ok hW Z hX hnk h K
  replace h := zite_f h hs42
  by_cases hs43 : xs (nx x3) &&& 63 = (43 : Int32)
  · replace h := zite_t h hs43
    refine zsw_in Z (v := 43) (tgt := 1646) (off := 1613) hs43 hd (by decide +kernel) (by decide) ?_
    exact mL_43_ok hW Z hX hnk h K
  replace h := zite_f h hs43
  refine zsw_out Z hd (zsw_far 44 (by decide) (fun j hj => match j, hj with | 0, _ => hs0 | 1, _ => hs1 | 2, _ => hs2 | 3, _ => hs3 | 4, _ => hs4 | 5, _ => hs5 | 6, _ => hs6 | 7, _ => hs7 | 8, _ => hs8 | 9, _ => hs9 | 10, _ => hs10 | 11, _ => hs11 | 12, _ => hs12 | 13, _ => hs13 | 14, _ => hs14 | 15, _ => hs15 | 16, _ => hs16 | 17, _ => hs17 | 18, _ => hs18 | 19, _ => hs19 | 20, _ => hs20 | 21, _ => hs21 | 22, _ => hs22 | 23, _ => hs23 | 24, _ => hs24 | 25, _ => hs25 | 26, _ => hs26 | 27, _ => hs27 | 28, _ => hs28 | 29, _ => hs29 | 30, _ => hs30 | 31, _ => hs31 | 32, _ => hs32 | 33, _ => hs33 | 34, _ => hs34 | 35, _ => hs35 | 36, _ => hs36 | 37, _ => hs37 | 38, _ => hs38 | 39, _ => hs39 | 40, _ => hs40 | 41, _ => hs41 | 42, _ => hs42 | 43, _ => hs43 | j + 44, h => absurd h (by omega))) (by decide : (33 : Int) + 1636 = (1669 : Int)) ?_
  cases h
  exact K
