def zUR : List zR := [(12, 0), (1301, 0), (1302, 0), (1303, 0), (1304, 0), (1305, 0), (1306, 0), (1307, 0), (1308, 0), (1309, 0), (1310, 0), (1311, 0), (1312, 0), (1314, 0), (1315, 0), (1316, 0), (1317, 0), (1319, 0), (1321, 0), (1322, 0), (1323, 0), (1324, 0), (1325, 0), (1326, 0), (1327, 0), (1329, 0), (1339, 0), (1343, 0), (1344, 0), (1345, 0), (1346, 0), (1347, 0), (1348, 0), (1350, 0), (1352, 0), (1353, 0), (1354, 0), (1355, 0), (1356, 0), (1357, 0), (1358, 0), (1362, 0), (1363, 0), (1364, 0), (1365, 0), (1366, 0), (1368, 0), (1369, 0), (1370, 0), (1373, 0), (1374, 0), (1375, 0)]
def tbK12 : zT := ([(7, 12, 1), (13, 12, 2), (16, 12, 3), (19, 12, 4), (22, 12, 5), (25, 12, 6), (28, 12, 7), (31, 12, 8), (34, 12, 9), (37, 12, 10), (40, 12, 11), (43, 12, 12), (46, 12, 14), (49, 12, 15), (52, 12, 16), (55, 12, 17), (59, 12, 19), (62, 12, 21), (65, 12, 22), (68, 12, 23), (71, 12, 24), (74, 12, 25), (77, 12, 26), (80, 12, 27), (83, 12, 29), (86, 12, 39), (89, 12, 43), (92, 12, 44), (95, 12, 45), (98, 12, 46), (101, 12, 47), (104, 12, 48), (107, 12, 50), (110, 12, 52), (113, 12, 53), (116, 12, 54), (119, 12, 55), (122, 12, 56), (125, 12, 57), (128, 12, 58), (131, 12, 62), (134, 12, 63), (137, 12, 64), (140, 12, 65), (143, 12, 66), (146, 12, 67), (150, 12, 68), (153, 12, 69), (156, 12, 70), (159, 12, 73), (162, 12, 74), (165, 12, 75)], [], [])
theorem tk12_7 : zfw RX12 (7, 12, 1) ∈ zt := zt_of (zq_6 (List.mem_of_getElem? (i := 159) rfl)) rfl
theorem tk12_13 : zfw RX12 (13, 12, 2) ∈ zt := zt_of (zq_6 (List.mem_of_getElem? (i := 160) rfl)) rfl
theorem tk12_16 : zfw RX12 (16, 12, 3) ∈ zt := zt_of (zq_6 (List.mem_of_getElem? (i := 161) rfl)) rfl
theorem tk12_19 : zfw RX12 (19, 12, 4) ∈ zt := zt_of (zq_6 (List.mem_of_getElem? (i := 162) rfl)) rfl
theorem tk12_22 : zfw RX12 (22, 12, 5) ∈ zt := zt_of (zq_6 (List.mem_of_getElem? (i := 163) rfl)) rfl
theorem tk12_25 : zfw RX12 (25, 12, 6) ∈ zt := zt_of (zq_6 (List.mem_of_getElem? (i := 164) rfl)) rfl
theorem tk12_28 : zfw RX12 (28, 12, 7) ∈ zt := zt_of (zq_6 (List.mem_of_getElem? (i := 165) rfl)) rfl
theorem tk12_31 : zfw RX12 (31, 12, 8) ∈ zt := zt_of (zq_6 (List.mem_of_getElem? (i := 166) rfl)) rfl
theorem tk12_34 : zfw RX12 (34, 12, 9) ∈ zt := zt_of (zq_6 (List.mem_of_getElem? (i := 167) rfl)) rfl
theorem tk12_37 : zfw RX12 (37, 12, 10) ∈ zt := zt_of (zq_6 (List.mem_of_getElem? (i := 168) rfl)) rfl
theorem tk12_40 : zfw RX12 (40, 12, 11) ∈ zt := zt_of (zq_6 (List.mem_of_getElem? (i := 169) rfl)) rfl
theorem tk12_43 : zfw RX12 (43, 12, 12) ∈ zt := zt_of (zq_6 (List.mem_of_getElem? (i := 170) rfl)) rfl
theorem tk12_46 : zfw RX12 (46, 12, 14) ∈ zt := zt_of (zq_6 (List.mem_of_getElem? (i := 172) rfl)) rfl
theorem tk12_49 : zfw RX12 (49, 12, 15) ∈ zt := zt_of (zq_6 (List.mem_of_getElem? (i := 173) rfl)) rfl
theorem tk12_52 : zfw RX12 (52, 12, 16) ∈ zt := zt_of (zq_6 (List.mem_of_getElem? (i := 174) rfl)) rfl
theorem tk12_55 : zfw RX12 (55, 12, 17) ∈ zt := zt_of (zq_6 (List.mem_of_getElem? (i := 175) rfl)) rfl
theorem tk12_59 : zfw RX12 (59, 12, 19) ∈ zt := zt_of (zq_6 (List.mem_of_getElem? (i := 177) rfl)) rfl
theorem tk12_62 : zfw RX12 (62, 12, 21) ∈ zt := zt_of (zq_6 (List.mem_of_getElem? (i := 179) rfl)) rfl
theorem tk12_65 : zfw RX12 (65, 12, 22) ∈ zt := zt_of (zq_6 (List.mem_of_getElem? (i := 180) rfl)) rfl
theorem tk12_68 : zfw RX12 (68, 12, 23) ∈ zt := zt_of (zq_6 (List.mem_of_getElem? (i := 181) rfl)) rfl
theorem tk12_71 : zfw RX12 (71, 12, 24) ∈ zt := zt_of (zq_6 (List.mem_of_getElem? (i := 182) rfl)) rfl
theorem tk12_74 : zfw RX12 (74, 12, 25) ∈ zt := zt_of (zq_6 (List.mem_of_getElem? (i := 183) rfl)) rfl
theorem tk12_77 : zfw RX12 (77, 12, 26) ∈ zt := zt_of (zq_6 (List.mem_of_getElem? (i := 184) rfl)) rfl
theorem tk12_80 : zfw RX12 (80, 12, 27) ∈ zt := zt_of (zq_6 (List.mem_of_getElem? (i := 185) rfl)) rfl
theorem tk12_83 : zfw RX12 (83, 12, 29) ∈ zt := zt_of (zq_6 (List.mem_of_getElem? (i := 187) rfl)) rfl
theorem tk12_86 : zfw RX12 (86, 12, 39) ∈ zt := zt_of (zq_6 (List.mem_of_getElem? (i := 197) rfl)) rfl
theorem tk12_89 : zfw RX12 (89, 12, 43) ∈ zt := zt_of (zq_6 (List.mem_of_getElem? (i := 201) rfl)) rfl
theorem tk12_92 : zfw RX12 (92, 12, 44) ∈ zt := zt_of (zq_6 (List.mem_of_getElem? (i := 202) rfl)) rfl
theorem tk12_95 : zfw RX12 (95, 12, 45) ∈ zt := zt_of (zq_6 (List.mem_of_getElem? (i := 203) rfl)) rfl
theorem tk12_98 : zfw RX12 (98, 12, 46) ∈ zt := zt_of (zq_6 (List.mem_of_getElem? (i := 204) rfl)) rfl
theorem tk12_101 : zfw RX12 (101, 12, 47) ∈ zt := zt_of (zq_6 (List.mem_of_getElem? (i := 205) rfl)) rfl
theorem tk12_104 : zfw RX12 (104, 12, 48) ∈ zt := zt_of (zq_6 (List.mem_of_getElem? (i := 206) rfl)) rfl
theorem tk12_107 : zfw RX12 (107, 12, 50) ∈ zt := zt_of (zq_6 (List.mem_of_getElem? (i := 208) rfl)) rfl
theorem tk12_110 : zfw RX12 (110, 12, 52) ∈ zt := zt_of (zq_6 (List.mem_of_getElem? (i := 210) rfl)) rfl
theorem tk12_113 : zfw RX12 (113, 12, 53) ∈ zt := zt_of (zq_6 (List.mem_of_getElem? (i := 211) rfl)) rfl
theorem tk12_116 : zfw RX12 (116, 12, 54) ∈ zt := zt_of (zq_6 (List.mem_of_getElem? (i := 212) rfl)) rfl
theorem tk12_119 : zfw RX12 (119, 12, 55) ∈ zt := zt_of (zq_6 (List.mem_of_getElem? (i := 213) rfl)) rfl
theorem tk12_122 : zfw RX12 (122, 12, 56) ∈ zt := zt_of (zq_6 (List.mem_of_getElem? (i := 214) rfl)) rfl
theorem tk12_125 : zfw RX12 (125, 12, 57) ∈ zt := zt_of (zq_6 (List.mem_of_getElem? (i := 215) rfl)) rfl
theorem tk12_128 : zfw RX12 (128, 12, 58) ∈ zt := zt_of (zq_6 (List.mem_of_getElem? (i := 216) rfl)) rfl
theorem tk12_131 : zfw RX12 (131, 12, 62) ∈ zt := zt_of (zq_6 (List.mem_of_getElem? (i := 220) rfl)) rfl
theorem tk12_134 : zfw RX12 (134, 12, 63) ∈ zt := zt_of (zq_6 (List.mem_of_getElem? (i := 221) rfl)) rfl
theorem tk12_137 : zfw RX12 (137, 12, 64) ∈ zt := zt_of (zq_6 (List.mem_of_getElem? (i := 222) rfl)) rfl
theorem tk12_140 : zfw RX12 (140, 12, 65) ∈ zt := zt_of (zq_6 (List.mem_of_getElem? (i := 223) rfl)) rfl
theorem tk12_143 : zfw RX12 (143, 12, 66) ∈ zt := zt_of (zq_6 (List.mem_of_getElem? (i := 224) rfl)) rfl
theorem tk12_146 : zfw RX12 (146, 12, 67) ∈ zt := zt_of (zq_6 (List.mem_of_getElem? (i := 225) rfl)) rfl
theorem tk12_150 : zfw RX12 (150, 12, 68) ∈ zt := zt_of (zq_6 (List.mem_of_getElem? (i := 226) rfl)) rfl
theorem tk12_153 : zfw RX12 (153, 12, 69) ∈ zt := zt_of (zq_6 (List.mem_of_getElem? (i := 227) rfl)) rfl
theorem tk12_156 : zfw RX12 (156, 12, 70) ∈ zt := zt_of (zq_6 (List.mem_of_getElem? (i := 228) rfl)) rfl
theorem tk12_159 : zfw RX12 (159, 12, 73) ∈ zt := zt_of (zq_6 (List.mem_of_getElem? (i := 231) rfl)) rfl
theorem tk12_162 : zfw RX12 (162, 12, 74) ∈ zt := zt_of (zq_6 (List.mem_of_getElem? (i := 232) rfl)) rfl
theorem tk12_165 : zfw RX12 (165, 12, 75) ∈ zt := zt_of (zq_6 (List.mem_of_getElem? (i := 233) rfl)) rfl
theorem tbK12_ok : zTok RX12 tbK12 := ⟨List.forall_mem_cons.mpr ⟨tk12_7, List.forall_mem_cons.mpr ⟨tk12_13, List.forall_mem_cons.mpr ⟨tk12_16, List.forall_mem_cons.mpr ⟨tk12_19, List.forall_mem_cons.mpr ⟨tk12_22, List.forall_mem_cons.mpr ⟨tk12_25, List.forall_mem_cons.mpr ⟨tk12_28, List.forall_mem_cons.mpr ⟨tk12_31, List.forall_mem_cons.mpr ⟨tk12_34, List.forall_mem_cons.mpr ⟨tk12_37, List.forall_mem_cons.mpr ⟨tk12_40, List.forall_mem_cons.mpr ⟨tk12_43, List.forall_mem_cons.mpr ⟨tk12_46, List.forall_mem_cons.mpr ⟨tk12_49, List.forall_mem_cons.mpr ⟨tk12_52, List.forall_mem_cons.mpr ⟨tk12_55, List.forall_mem_cons.mpr ⟨tk12_59, List.forall_mem_cons.mpr ⟨tk12_62, List.forall_mem_cons.mpr ⟨tk12_65, List.forall_mem_cons.mpr ⟨tk12_68, List.forall_mem_cons.mpr ⟨tk12_71, List.forall_mem_cons.mpr ⟨tk12_74, List.forall_mem_cons.mpr ⟨tk12_77, List.forall_mem_cons.mpr ⟨tk12_80, List.forall_mem_cons.mpr ⟨tk12_83, List.forall_mem_cons.mpr ⟨tk12_86, List.forall_mem_cons.mpr ⟨tk12_89, List.forall_mem_cons.mpr ⟨tk12_92, List.forall_mem_cons.mpr ⟨tk12_95, List.forall_mem_cons.mpr ⟨tk12_98, List.forall_mem_cons.mpr ⟨tk12_101, List.forall_mem_cons.mpr ⟨tk12_104, List.forall_mem_cons.mpr ⟨tk12_107, List.forall_mem_cons.mpr ⟨tk12_110, List.forall_mem_cons.mpr ⟨tk12_113, List.forall_mem_cons.mpr ⟨tk12_116, List.forall_mem_cons.mpr ⟨tk12_119, List.forall_mem_cons.mpr ⟨tk12_122, List.forall_mem_cons.mpr ⟨tk12_125, List.forall_mem_cons.mpr ⟨tk12_128, List.forall_mem_cons.mpr ⟨tk12_131, List.forall_mem_cons.mpr ⟨tk12_134, List.forall_mem_cons.mpr ⟨tk12_137, List.forall_mem_cons.mpr ⟨tk12_140, List.forall_mem_cons.mpr ⟨tk12_143, List.forall_mem_cons.mpr ⟨tk12_146, List.forall_mem_cons.mpr ⟨tk12_150, List.forall_mem_cons.mpr ⟨tk12_153, List.forall_mem_cons.mpr ⟨tk12_156, List.forall_mem_cons.mpr ⟨tk12_159, List.forall_mem_cons.mpr ⟨tk12_162, List.forall_mem_cons.mpr ⟨tk12_165, fun _ h => absurd h List.not_mem_nil⟩⟩⟩⟩⟩⟩⟩⟩⟩⟩⟩⟩⟩⟩⟩⟩⟩⟩⟩⟩⟩⟩⟩⟩⟩⟩⟩⟩⟩⟩⟩⟩⟩⟩⟩⟩⟩⟩⟩⟩⟩⟩⟩⟩⟩⟩⟩⟩⟩⟩⟩⟩, fun _ h => absurd h List.not_mem_nil, fun _ h => absurd h List.not_mem_nil⟩
theorem ol12_1 : Cond.methodLink RX12 1 Lib.objectInit ∈ zt := zt_of (zq_6 (List.mem_of_getElem? (i := 157) rfl)) rfl
def mk12_pre (M : zM) : zM := zwI (zwI (zwI (zwI (zwI (zwF (zclr (zwF (zclr (zwF (zclr (zwF (zclr (zwF (zclr (zwF (zclr (zwI (zwF (zclr (zwF (zclr (zwF (zclr (zwF (zclr (zwF (zclr (zwF (zclr (zwF (zclr (zwF (zclr (zwF (zclr (zwF (zclr (zwF (zclr (zwF (zclr (zwF (zclr (zwF (zclr (zwF (zclr (zwF (zclr (zwF (zclr (zwF (zclr (zwF (zclr (zwF (zclr (zwF (zclr (zwF (zclr (zwF (zclr (zwF (zclr (zwF (zclr (zwF (zclr (zwF (zclr (zwF (zclr (zwF (zclr (zwF (zclr (zwF (zclr (zwF (zclr (zwF (zclr (zwF (zclr (zwF (zclr (zwF (zclr (zwF (zclr (zwF (zclr (zwF (zclr (zwF (zclr (zwF (zclr (zwF (zclr (zwF (zclr (zwF (zclr (zwF (zclr M 1301 0) 12 0 1 (1301, 0)) 1302 0) 12 0 2 (1302, 0)) 1303 0) 12 0 3 (1303, 0)) 1304 0) 12 0 4 (1304, 0)) 1305 0) 12 0 5 (1305, 0)) 1306 0) 12 0 6 (1306, 0)) 1307 0) 12 0 7 (1307, 0)) 1308 0) 12 0 8 (1308, 0)) 1309 0) 12 0 9 (1309, 0)) 1310 0) 12 0 10 (1310, 0)) 1311 0) 12 0 11 (1311, 0)) 1312 0) 12 0 12 (1312, 0)) 1314 0) 12 0 14 (1314, 0)) 1315 0) 12 0 15 (1315, 0)) 1316 0) 12 0 16 (1316, 0)) 1317 0) 12 0 17 (1317, 0)) 1319 0) 12 0 19 (1319, 0)) 1321 0) 12 0 21 (1321, 0)) 1322 0) 12 0 22 (1322, 0)) 1323 0) 12 0 23 (1323, 0)) 1324 0) 12 0 24 (1324, 0)) 1325 0) 12 0 25 (1325, 0)) 1326 0) 12 0 26 (1326, 0)) 1327 0) 12 0 27 (1327, 0)) 1329 0) 12 0 29 (1329, 0)) 1339 0) 12 0 39 (1339, 0)) 1343 0) 12 0 43 (1343, 0)) 1344 0) 12 0 44 (1344, 0)) 1345 0) 12 0 45 (1345, 0)) 1346 0) 12 0 46 (1346, 0)) 1347 0) 12 0 47 (1347, 0)) 1348 0) 12 0 48 (1348, 0)) 1350 0) 12 0 50 (1350, 0)) 1352 0) 12 0 52 (1352, 0)) 1353 0) 12 0 53 (1353, 0)) 1354 0) 12 0 54 (1354, 0)) 1355 0) 12 0 55 (1355, 0)) 1356 0) 12 0 56 (1356, 0)) 1357 0) 12 0 57 (1357, 0)) 1358 0) 12 0 58 (1358, 0)) 1362 0) 12 0 62 (1362, 0)) 1363 0) 12 0 63 (1363, 0)) 1364 0) 12 0 64 (1364, 0)) 1365 0) 12 0 65 (1365, 0)) 1366 0) 12 0 66 (1366, 0)) 12 0 67 (4 : Int32)) 1368 0) 12 0 68 (1368, 0)) 1369 0) 12 0 69 (1369, 0)) 1370 0) 12 0 70 (1370, 0)) 1373 0) 12 0 73 (1373, 0)) 1374 0) 12 0 74 (1374, 0)) 1375 0) 12 0 75 (1375, 0)) 1312 0 1 (1 : Int32)) 1312 0 2 (5 : Int32)) 1312 0 3 (2 : Int32)) 1312 0 4 (1 : Int32)) 1312 0 5 (2 : Int32)
theorem zin_nI {j n : Nat} (h : j < n) (hn : n < 2 ^ 31) : zin (nI j) n = true := by
  unfold zin
  rw [decide_eq_false (nI_pos (by omega)), nI_clamp (by omega)]
  exact zblt_t.mpr h
theorem zfl_comm {M : zM} {k1 i1 n1 k2 i2 n2 : Nat} {v w : Int32} (hk : k1 ≠ k2) : zwI (zwI (zfl (zfl M k1 i1 n1 v) k2 i2 n2 w) k1 i1 n1 v) k2 i2 n2 w = zwI (zfl (zwI (zfl M k1 i1 n1 v) k1 i1 n1 v) k2 i2 n2 w) k2 i2 n2 w := by
  congr 1
  unfold zwI zfl
  congr 1
  funext k i s
  unfold zuI
  by_cases h1 : k = k1
  · subst h1
    simp [hk]
  · simp [h1]
set_option maxRecDepth 100000 in
theorem ctM_l1 {p : Program} {l : Launch} {e : Env} {R : Room} {s : State} {m : MethodId} {args : Array Value} {below : List Frame} {meth : Method} {c : Code} {Q : State → Prop} {D : va_G} {ad : zR → Nat} {ca : Nat → ClassId} {A : Nat → Prop} {n k : Nat} {M : zM} (Z : zOK (zCm p l e R s m args below meth c Q cX12_init 2 RX12 tbK12 (zGt zUR D ad ca A 52))) (hFloudness : M.2.2 12 0 44 = some (1344, 0)) (kk : zGo (zCm p l e R s m args below meth c Q cX12_init 2 RX12 tbK12 (zGt zUR D ad ca A 52)) n k (481, [(0, .inr (.inr (some (12, 0))))], [], zfl M 1344 0 240 (16 : Int32))) : ∀ (d j : Nat), j + d = 240 → zGo (zCm p l e R s m args below meth c Q cX12_init 2 RX12 tbK12 (zGt zUR D ad ca A 52)) n k (460, [(0, .inr (.inr (some (12, 0)))), (1, .inl (nI j))], [], zfl M 1344 0 j (16 : Int32)) := by
  intro d
  induction d with
  | zero =>
    intro j hj
    refine zblq Z rfl [(.iload 1, 1), (.iconst 240, 3)] (S' := (464, [(0, .inr (.inr (some (12, 0)))), (1, .inl (nI j))], [.inl (240 : Int32), .inl (nI j)], _)) (b := true) (by decide +kernel) rfl rfl ?_
    have hj : j = 240 := by omega
    subst hj
    refine zic_ge Z (off := 17) (tgt := 481) (by decide +kernel) (by decide) (fun _ => ?_) (fun h => absurd (by decide) h)
    refine zGo_keep [0] rfl ?_
    exact kk
  | succ d ih =>
    intro j hj
    refine zblq Z rfl [(.iload 1, 1), (.iconst 240, 3)] (S' := (464, [(0, .inr (.inr (some (12, 0)))), (1, .inl (nI j))], [.inl (240 : Int32), .inl (nI j)], _)) (b := true) (by decide +kernel) rfl rfl ?_
    refine zic_ge Z (off := 17) (tgt := 481) (by decide +kernel) (by decide) (fun h => absurd (show nI 240 ≤ nI j from h) (nI_ge (by omega) (by omega))) (fun _ => ?_)
    refine zblq Z rfl [(.aload 0, 1)] (S' := (468, [(0, .inr (.inr (some (12, 0)))), (1, .inl (nI j))], [.inr (.inr (some (12, 0)))], _)) (b := true) (by decide +kernel) rfl rfl ?_
    refine c_getR Z (idx := 92) (ss := 44) (r := (1344, 0)) (zmU (j := 0) rfl (by decide)) (by decide) (by decide) rfl (by decide +kernel) hFloudness (by decide +kernel) ?_
    refine zblq Z rfl [(.iload 1, 1), (.iconst 16, 2)] (S' := (474, [(0, .inr (.inr (some (12, 0)))), (1, .inl (nI j))], [.inl (16 : Int32), .inl (nI j), .inr (.inr (some (1344, 0)))], _)) (b := true) (by decide +kernel) rfl rfl ?_
    refine c_iast Z (jn := j) (zmU (j := 28) rfl (by decide)) rfl (zin_nI (by show j < (zak 1344).2; show j < 240; omega) (by decide)) (nI_clamp (by omega)) (by decide +kernel) ?_
    rw [zfl_step]
    refine zblq Z rfl [(.iinc 1 1, 3), (.ldc 460, 3)] (S' := (460, [(0, .inr (.inr (some (12, 0)))), (1, .inl (nI j + Int32.ofInt 1))], [], zfl M 1344 0 (j + 1) (16 : Int32))) (b := true) (by decide +kernel) rfl rfl ?_
    rw [show nI j + Int32.ofInt 1 = nI (j + 1) from nI_1 j]
    exact ih (j + 1) (by omega)
set_option maxRecDepth 100000 in
theorem ctM_l2 {p : Program} {l : Launch} {e : Env} {R : Room} {s : State} {m : MethodId} {args : Array Value} {below : List Frame} {meth : Method} {c : Code} {Q : State → Prop} {D : va_G} {ad : zR → Nat} {ca : Nat → ClassId} {A : Nat → Prop} {n k : Nat} {M : zM} (Z : zOK (zCm p l e R s m args below meth c Q cX12_init 2 RX12 tbK12 (zGt zUR D ad ca A 52))) (hFlie : M.2.2 12 0 45 = some (1345, 0)) (hFplaces : M.2.2 12 0 58 = some (1358, 0)) (kk : zGo (zCm p l e R s m args below meth c Q cX12_init 2 RX12 tbK12 (zGt zUR D ad ca A 52)) n k (511, [(0, .inr (.inr (some (12, 0))))], [], zfl (zfl M 1345 0 10 (16 : Int32)) 1358 0 10 (36 : Int32))) : ∀ (d j : Nat), j + d = 10 → zGo (zCm p l e R s m args below meth c Q cX12_init 2 RX12 tbK12 (zGt zUR D ad ca A 52)) n k (483, [(0, .inr (.inr (some (12, 0)))), (1, .inl (nI j))], [], zfl (zfl M 1345 0 j (16 : Int32)) 1358 0 j (36 : Int32)) := by
  intro d
  induction d with
  | zero =>
    intro j hj
    refine zblq Z rfl [(.iload 1, 1), (.iconst 10, 2)] (S' := (486, [(0, .inr (.inr (some (12, 0)))), (1, .inl (nI j))], [.inl (10 : Int32), .inl (nI j)], _)) (b := true) (by decide +kernel) rfl rfl ?_
    have hj : j = 10 := by omega
    subst hj
    refine zic_ge Z (off := 25) (tgt := 511) (by decide +kernel) (by decide) (fun _ => ?_) (fun h => absurd (by decide) h)
    refine zGo_keep [0] rfl ?_
    exact kk
  | succ d ih =>
    intro j hj
    refine zblq Z rfl [(.iload 1, 1), (.iconst 10, 2)] (S' := (486, [(0, .inr (.inr (some (12, 0)))), (1, .inl (nI j))], [.inl (10 : Int32), .inl (nI j)], _)) (b := true) (by decide +kernel) rfl rfl ?_
    refine zic_ge Z (off := 25) (tgt := 511) (by decide +kernel) (by decide) (fun h => absurd (show nI 10 ≤ nI j from h) (nI_ge (by omega) (by omega))) (fun _ => ?_)
    refine zblq Z rfl [(.aload 0, 1)] (S' := (490, [(0, .inr (.inr (some (12, 0)))), (1, .inl (nI j))], [.inr (.inr (some (12, 0)))], _)) (b := true) (by decide +kernel) rfl rfl ?_
    refine c_getR Z (idx := 95) (ss := 45) (r := (1345, 0)) (zmU (j := 0) rfl (by decide)) (by decide) (by decide) rfl (by decide +kernel) hFlie (by decide +kernel) ?_
    refine zblq Z rfl [(.iload 1, 1), (.iconst 16, 2)] (S' := (496, [(0, .inr (.inr (some (12, 0)))), (1, .inl (nI j))], [.inl (16 : Int32), .inl (nI j), .inr (.inr (some (1345, 0)))], _)) (b := true) (by decide +kernel) rfl rfl ?_
    refine c_iast Z (jn := j) (zmU (j := 29) rfl (by decide)) rfl (zin_nI (by show j < (zak 1345).2; show j < 10; omega) (by decide)) (nI_clamp (by omega)) (by decide +kernel) ?_
    refine zblq Z rfl [(.aload 0, 1)] (S' := (498, [(0, .inr (.inr (some (12, 0)))), (1, .inl (nI j))], [.inr (.inr (some (12, 0)))], _)) (b := true) (by decide +kernel) rfl rfl ?_
    refine c_getR Z (idx := 128) (ss := 58) (r := (1358, 0)) (zmU (j := 0) rfl (by decide)) (by decide) (by decide) rfl (by decide +kernel) hFplaces (by decide +kernel) ?_
    refine zblq Z rfl [(.iload 1, 1), (.iconst 36, 2)] (S' := (504, [(0, .inr (.inr (some (12, 0)))), (1, .inl (nI j))], [.inl (36 : Int32), .inl (nI j), .inr (.inr (some (1358, 0)))], _)) (b := true) (by decide +kernel) rfl rfl ?_
    refine c_iast Z (jn := j) (zmU (j := 40) rfl (by decide)) rfl (zin_nI (by show j < (zak 1358).2; show j < 10; omega) (by decide)) (nI_clamp (by omega)) (by decide +kernel) ?_
    rw [zfl_comm (by decide), zfl_step, zfl_step]
    refine zblq Z rfl [(.iinc 1 1, 3), (.ldc 483, 3)] (S' := (483, [(0, .inr (.inr (some (12, 0)))), (1, .inl (nI j + Int32.ofInt 1))], [], zfl (zfl M 1345 0 (j + 1) (16 : Int32)) 1358 0 (j + 1) (36 : Int32))) (b := true) (by decide +kernel) rfl rfl ?_
    rw [show nI j + Int32.ofInt 1 = nI (j + 1) from nI_1 j]
    exact ih (j + 1) (by omega)
set_option maxRecDepth 100000 in
theorem ctM_l3 {p : Program} {l : Launch} {e : Env} {R : Room} {s : State} {m : MethodId} {args : Array Value} {below : List Frame} {meth : Method} {c : Code} {Q : State → Prop} {D : va_G} {ad : zR → Nat} {ca : Nat → ClassId} {A : Nat → Prop} {n k : Nat} {M : zM} (Z : zOK (zCm p l e R s m args below meth c Q cX12_init 2 RX12 tbK12 (zGt zUR D ad ca A 52))) (hFlogs : M.2.2 12 0 70 = some (1370, 0)) (kk : zGo (zCm p l e R s m args below meth c Q cX12_init 2 RX12 tbK12 (zGt zUR D ad ca A 52)) n k (532, [(0, .inr (.inr (some (12, 0))))], [], zfl M 1370 0 30 (2 : Int32))) : ∀ (d j : Nat), j + d = 30 → zGo (zCm p l e R s m args below meth c Q cX12_init 2 RX12 tbK12 (zGt zUR D ad ca A 52)) n k (513, [(0, .inr (.inr (some (12, 0)))), (1, .inl (nI j))], [], zfl M 1370 0 j (2 : Int32)) := by
  intro d
  induction d with
  | zero =>
    intro j hj
    refine zblq Z rfl [(.iload 1, 1), (.iconst 30, 2)] (S' := (516, [(0, .inr (.inr (some (12, 0)))), (1, .inl (nI j))], [.inl (30 : Int32), .inl (nI j)], _)) (b := true) (by decide +kernel) rfl rfl ?_
    have hj : j = 30 := by omega
    subst hj
    refine zic_ge Z (off := 16) (tgt := 532) (by decide +kernel) (by decide) (fun _ => ?_) (fun h => absurd (by decide) h)
    refine zGo_keep [0] rfl ?_
    exact kk
  | succ d ih =>
    intro j hj
    refine zblq Z rfl [(.iload 1, 1), (.iconst 30, 2)] (S' := (516, [(0, .inr (.inr (some (12, 0)))), (1, .inl (nI j))], [.inl (30 : Int32), .inl (nI j)], _)) (b := true) (by decide +kernel) rfl rfl ?_
    refine zic_ge Z (off := 16) (tgt := 532) (by decide +kernel) (by decide) (fun h => absurd (show nI 30 ≤ nI j from h) (nI_ge (by omega) (by omega))) (fun _ => ?_)
    refine zblq Z rfl [(.aload 0, 1)] (S' := (520, [(0, .inr (.inr (some (12, 0)))), (1, .inl (nI j))], [.inr (.inr (some (12, 0)))], _)) (b := true) (by decide +kernel) rfl rfl ?_
    refine c_getR Z (idx := 156) (ss := 70) (r := (1370, 0)) (zmU (j := 0) rfl (by decide)) (by decide) (by decide) rfl (by decide +kernel) hFlogs (by decide +kernel) ?_
    refine zblq Z rfl [(.iload 1, 1), (.iconst 2, 1)] (S' := (525, [(0, .inr (.inr (some (12, 0)))), (1, .inl (nI j))], [.inl (2 : Int32), .inl (nI j), .inr (.inr (some (1370, 0)))], _)) (b := true) (by decide +kernel) rfl rfl ?_
    refine c_iast Z (jn := j) (zmU (j := 48) rfl (by decide)) rfl (zin_nI (by show j < (zak 1370).2; show j < 30; omega) (by decide)) (nI_clamp (by omega)) (by decide +kernel) ?_
    rw [zfl_step]
    refine zblq Z rfl [(.iinc 1 1, 3), (.ldc 513, 3)] (S' := (513, [(0, .inr (.inr (some (12, 0)))), (1, .inl (nI j + Int32.ofInt 1))], [], zfl M 1370 0 (j + 1) (2 : Int32))) (b := true) (by decide +kernel) rfl rfl ?_
    rw [show nI j + Int32.ofInt 1 = nI (j + 1) from nI_1 j]
    exact ih (j + 1) (by omega)
def mk12_tail (M : zM) : zM := zfl (zfl (zfl (zfl M 1344 0 240 16) 1345 0 10 16) 1358 0 10 36) 1370 0 30 2
set_option maxRecDepth 100000 in
theorem ctM_tail {p : Program} {l : Launch} {e : Env} {R : Room} {s : State} {m : MethodId} {args : Array Value} {below : List Frame} {meth : Method} {c : Code} {Q : State → Prop} {D : va_G} {ad : zR → Nat} {ca : Nat → ClassId} {A : Nat → Prop} {n k : Nat} {M : zM} {fr lo sz mc ms : Nat} (Z : zOK (zCm p l e R s m args below meth c Q cX12_init 2 RX12 tbK12 (zGt zUR D ad ca A 52))) (hA : zAtC (p, l, e, R, s, m, args, below, meth, c, Q) fr mc ms lo sz) (hE : zEndC (p, l, e, R, s, m, args, below, meth, c, Q) n k (zGt zUR D ad ca A 52) (mk12_tail M)) (hFloudness : M.2.2 12 0 44 = some (1344, 0)) (hFlie : M.2.2 12 0 45 = some (1345, 0)) (hFplaces : M.2.2 12 0 58 = some (1358, 0)) (hFlogs : M.2.2 12 0 70 = some (1370, 0)) : zGo (zCm p l e R s m args below meth c Q cX12_init 2 RX12 tbK12 (zGt zUR D ad ca A 52)) n k (458, [(0, .inr (.inr (some (12, 0))))], [], M) := by
  refine zblq Z rfl [(.iconst 0, 1), (.istore 1, 1)] (S' := (460, [(0, .inr (.inr (some (12, 0)))), (1, .inl (nI 0))], [], _)) (b := true) (by decide +kernel) rfl rfl ?_
  have w1 := ctM_l1 (M := M) Z hFloudness (n := n) (k := k) ?_ 240 0 rfl
  · rw [zfl_0] at w1; exact w1
  refine zblq Z rfl [(.iconst 0, 1), (.istore 1, 1)] (S' := (483, [(0, .inr (.inr (some (12, 0)))), (1, .inl (nI 0))], [], _)) (b := true) (by decide +kernel) rfl rfl ?_
  have w2 := ctM_l2 (M := zfl M 1344 0 240 16) Z hFlie hFplaces (n := n) (k := k) ?_ 10 0 rfl
  · rw [zfl_0, zfl_0] at w2; exact w2
  refine zblq Z rfl [(.iconst 0, 1), (.istore 1, 1)] (S' := (513, [(0, .inr (.inr (some (12, 0)))), (1, .inl (nI 0))], [], _)) (b := true) (by decide +kernel) rfl rfl ?_
  have w3 := ctM_l3 (M := zfl (zfl (zfl M 1344 0 240 16) 1345 0 10 16) 1358 0 10 36) Z hFlogs (n := n) (k := k) ?_ 30 0 rfl
  · rw [zfl_0] at w3; exact w3
  exact zret_c Z hA hE (by decide +kernel)
set_option maxRecDepth 100000 in
theorem mk12_Floudness (M : zM) : (mk12_pre M).2.2 12 0 44 = some (1344, 0) := rfl
set_option maxRecDepth 100000 in
theorem mk12_Flie (M : zM) : (mk12_pre M).2.2 12 0 45 = some (1345, 0) := rfl
set_option maxRecDepth 100000 in
theorem mk12_Fplaces (M : zM) : (mk12_pre M).2.2 12 0 58 = some (1358, 0) := rfl
set_option maxRecDepth 100000 in
theorem mk12_Flogs (M : zM) : (mk12_pre M).2.2 12 0 70 = some (1370, 0) := rfl
def mk12_0 (M : zM) : zM := mk12_tail (mk12_pre M)
set_option maxRecDepth 100000 in
theorem ct12_0 {l : Launch} {D : va_G} {ad : zR → Nat} {ca : Nat → ClassId} {A : Nat → Prop} {base : Nat} (hW : zWh zUR base ad A) (M : zM) : zMetC l yX12_init cX12_init 2 1 51 42196 12 [.inr (.inr (some (12, 0)))] (base + 1) (zGt zUR D ad ca A 1) M (zGt zUR D ad ca A 52) (mk12_0 M) := by
  refine zMetC_of (zGt_ok hW _) rfl tbK12_ok rfl rfl (by decide +kernel) (Nat.le_of_ble_eq_true rfl) (fun X _ Z hA hE => ?_)
  obtain ⟨p, l', e, R, s, m, args, below, meth, c, Q⟩ := X
  obtain ⟨hR, -, hin, hs, ho1, ho2⟩ := id hA
  subst hR
  refine zblq Z rfl [(.aload 0, 1)] (S' := (1, [(0, .inr (.inr (some (12, 0))))], [.inr (.inr (some (12, 0)))], _)) (b := true) (by decide +kernel) rfl rfl ?_
  refine z_obj Z ol12_1 ol_in ol_cd ⟨by exact Nat.le_of_ble_eq_true rfl, by exact Nat.le_of_ble_eq_true rfl⟩ (by decide +kernel) ?_
  refine zblq Z rfl [(.aload 0, 1), (.iconst 10, 2)] (S' := (7, [(0, .inr (.inr (some (12, 0))))], [.inl (10 : Int32), .inr (.inr (some (12, 0)))], _)) (b := true) (by decide +kernel) rfl rfl ?_
  refine c_newa (n := 0) hW hs rfl (kk := 1301) (i := 0) rfl Z (Or.inl ⟨rfl, rfl⟩) rfl acl_0 (by decide) ⟨by exact Nat.le_of_ble_eq_true rfl, by exact Nat.le_of_ble_eq_true rfl⟩ (by decide +kernel) ?_
  replace Z := c_Z Z hW 2
  refine c_putR Z (idx := 7) (ss := 1) (zmU (j := 0) rfl (by decide)) (by decide) (by decide) rfl (by decide +kernel) (Or.inr ⟨rfl, hin, rfl⟩) (by decide +kernel) ?_
  refine zblq Z rfl [(.aload 0, 1), (.iconst 10, 2)] (S' := (15, [(0, .inr (.inr (some (12, 0))))], [.inl (10 : Int32), .inr (.inr (some (12, 0)))], _)) (b := true) (by decide +kernel) rfl rfl ?_
  refine c_newa (n := 1) hW hs rfl (kk := 1302) (i := 0) rfl Z (Or.inl ⟨rfl, rfl⟩) rfl acl_0 (by decide) ⟨by exact Nat.le_of_ble_eq_true rfl, by exact Nat.le_of_ble_eq_true rfl⟩ (by decide +kernel) ?_
  replace Z := c_Z Z hW 3
  refine c_putR Z (idx := 13) (ss := 2) (zmU (j := 0) rfl (by decide)) (by decide) (by decide) rfl (by decide +kernel) (Or.inr ⟨rfl, hin, rfl⟩) (by decide +kernel) ?_
  refine zblq Z rfl [(.aload 0, 1), (.iconst 10, 2)] (S' := (23, [(0, .inr (.inr (some (12, 0))))], [.inl (10 : Int32), .inr (.inr (some (12, 0)))], _)) (b := true) (by decide +kernel) rfl rfl ?_
  refine c_newa (n := 2) hW hs rfl (kk := 1303) (i := 0) rfl Z (Or.inl ⟨rfl, rfl⟩) rfl acl_0 (by decide) ⟨by exact Nat.le_of_ble_eq_true rfl, by exact Nat.le_of_ble_eq_true rfl⟩ (by decide +kernel) ?_
  replace Z := c_Z Z hW 4
  refine c_putR Z (idx := 16) (ss := 3) (zmU (j := 0) rfl (by decide)) (by decide) (by decide) rfl (by decide +kernel) (Or.inr ⟨rfl, hin, rfl⟩) (by decide +kernel) ?_
  refine zblq Z rfl [(.aload 0, 1), (.iconst 10, 2)] (S' := (31, [(0, .inr (.inr (some (12, 0))))], [.inl (10 : Int32), .inr (.inr (some (12, 0)))], _)) (b := true) (by decide +kernel) rfl rfl ?_
  refine c_newa (n := 3) hW hs rfl (kk := 1304) (i := 0) rfl Z (Or.inl ⟨rfl, rfl⟩) rfl acl_0 (by decide) ⟨by exact Nat.le_of_ble_eq_true rfl, by exact Nat.le_of_ble_eq_true rfl⟩ (by decide +kernel) ?_
  replace Z := c_Z Z hW 5
  refine c_putR Z (idx := 19) (ss := 4) (zmU (j := 0) rfl (by decide)) (by decide) (by decide) rfl (by decide +kernel) (Or.inr ⟨rfl, hin, rfl⟩) (by decide +kernel) ?_
  refine zblq Z rfl [(.aload 0, 1), (.iconst 10, 2)] (S' := (39, [(0, .inr (.inr (some (12, 0))))], [.inl (10 : Int32), .inr (.inr (some (12, 0)))], _)) (b := true) (by decide +kernel) rfl rfl ?_
  refine c_newa (n := 4) hW hs rfl (kk := 1305) (i := 0) rfl Z (Or.inl ⟨rfl, rfl⟩) rfl acl_0 (by decide) ⟨by exact Nat.le_of_ble_eq_true rfl, by exact Nat.le_of_ble_eq_true rfl⟩ (by decide +kernel) ?_
  replace Z := c_Z Z hW 6
  refine c_putR Z (idx := 22) (ss := 5) (zmU (j := 0) rfl (by decide)) (by decide) (by decide) rfl (by decide +kernel) (Or.inr ⟨rfl, hin, rfl⟩) (by decide +kernel) ?_
  refine zblq Z rfl [(.aload 0, 1), (.iconst 10, 2)] (S' := (47, [(0, .inr (.inr (some (12, 0))))], [.inl (10 : Int32), .inr (.inr (some (12, 0)))], _)) (b := true) (by decide +kernel) rfl rfl ?_
  refine c_newa (n := 5) hW hs rfl (kk := 1306) (i := 0) rfl Z (Or.inl ⟨rfl, rfl⟩) rfl acl_0 (by decide) ⟨by exact Nat.le_of_ble_eq_true rfl, by exact Nat.le_of_ble_eq_true rfl⟩ (by decide +kernel) ?_
  replace Z := c_Z Z hW 7
  refine c_putR Z (idx := 25) (ss := 6) (zmU (j := 0) rfl (by decide)) (by decide) (by decide) rfl (by decide +kernel) (Or.inr ⟨rfl, hin, rfl⟩) (by decide +kernel) ?_
  refine zblq Z rfl [(.aload 0, 1), (.iconst 10, 2)] (S' := (55, [(0, .inr (.inr (some (12, 0))))], [.inl (10 : Int32), .inr (.inr (some (12, 0)))], _)) (b := true) (by decide +kernel) rfl rfl ?_
  refine c_newa (n := 6) hW hs rfl (kk := 1307) (i := 0) rfl Z (Or.inl ⟨rfl, rfl⟩) rfl acl_0 (by decide) ⟨by exact Nat.le_of_ble_eq_true rfl, by exact Nat.le_of_ble_eq_true rfl⟩ (by decide +kernel) ?_
  replace Z := c_Z Z hW 8
  refine c_putR Z (idx := 28) (ss := 7) (zmU (j := 0) rfl (by decide)) (by decide) (by decide) rfl (by decide +kernel) (Or.inr ⟨rfl, hin, rfl⟩) (by decide +kernel) ?_
  refine zblq Z rfl [(.aload 0, 1), (.iconst 10, 2)] (S' := (63, [(0, .inr (.inr (some (12, 0))))], [.inl (10 : Int32), .inr (.inr (some (12, 0)))], _)) (b := true) (by decide +kernel) rfl rfl ?_
  refine c_newa (n := 7) hW hs rfl (kk := 1308) (i := 0) rfl Z (Or.inl ⟨rfl, rfl⟩) rfl acl_0 (by decide) ⟨by exact Nat.le_of_ble_eq_true rfl, by exact Nat.le_of_ble_eq_true rfl⟩ (by decide +kernel) ?_
  replace Z := c_Z Z hW 9
  refine c_putR Z (idx := 31) (ss := 8) (zmU (j := 0) rfl (by decide)) (by decide) (by decide) rfl (by decide +kernel) (Or.inr ⟨rfl, hin, rfl⟩) (by decide +kernel) ?_
  refine zblq Z rfl [(.aload 0, 1), (.iconst 10, 2)] (S' := (71, [(0, .inr (.inr (some (12, 0))))], [.inl (10 : Int32), .inr (.inr (some (12, 0)))], _)) (b := true) (by decide +kernel) rfl rfl ?_
  refine c_newa (n := 8) hW hs rfl (kk := 1309) (i := 0) rfl Z (Or.inl ⟨rfl, rfl⟩) rfl acl_0 (by decide) ⟨by exact Nat.le_of_ble_eq_true rfl, by exact Nat.le_of_ble_eq_true rfl⟩ (by decide +kernel) ?_
  replace Z := c_Z Z hW 10
  refine c_putR Z (idx := 34) (ss := 9) (zmU (j := 0) rfl (by decide)) (by decide) (by decide) rfl (by decide +kernel) (Or.inr ⟨rfl, hin, rfl⟩) (by decide +kernel) ?_
  refine zblq Z rfl [(.aload 0, 1), (.iconst 10, 2)] (S' := (79, [(0, .inr (.inr (some (12, 0))))], [.inl (10 : Int32), .inr (.inr (some (12, 0)))], _)) (b := true) (by decide +kernel) rfl rfl ?_
  refine c_newa (n := 9) hW hs rfl (kk := 1310) (i := 0) rfl Z (Or.inl ⟨rfl, rfl⟩) rfl acl_0 (by decide) ⟨by exact Nat.le_of_ble_eq_true rfl, by exact Nat.le_of_ble_eq_true rfl⟩ (by decide +kernel) ?_
  replace Z := c_Z Z hW 11
  refine c_putR Z (idx := 37) (ss := 10) (zmU (j := 0) rfl (by decide)) (by decide) (by decide) rfl (by decide +kernel) (Or.inr ⟨rfl, hin, rfl⟩) (by decide +kernel) ?_
  refine zblq Z rfl [(.aload 0, 1), (.iconst 10, 2)] (S' := (87, [(0, .inr (.inr (some (12, 0))))], [.inl (10 : Int32), .inr (.inr (some (12, 0)))], _)) (b := true) (by decide +kernel) rfl rfl ?_
  refine c_newa (n := 10) hW hs rfl (kk := 1311) (i := 0) rfl Z (Or.inl ⟨rfl, rfl⟩) rfl acl_0 (by decide) ⟨by exact Nat.le_of_ble_eq_true rfl, by exact Nat.le_of_ble_eq_true rfl⟩ (by decide +kernel) ?_
  replace Z := c_Z Z hW 12
  refine c_putR Z (idx := 40) (ss := 11) (zmU (j := 0) rfl (by decide)) (by decide) (by decide) rfl (by decide +kernel) (Or.inr ⟨rfl, hin, rfl⟩) (by decide +kernel) ?_
  refine zblq Z rfl [(.aload 0, 1), (.iconst 7, 2)] (S' := (95, [(0, .inr (.inr (some (12, 0))))], [.inl (7 : Int32), .inr (.inr (some (12, 0)))], _)) (b := true) (by decide +kernel) rfl rfl ?_
  refine c_newa (n := 11) hW hs rfl (kk := 1312) (i := 0) rfl Z (Or.inl ⟨rfl, rfl⟩) rfl acl_0 (by decide) ⟨by exact Nat.le_of_ble_eq_true rfl, by exact Nat.le_of_ble_eq_true rfl⟩ (by decide +kernel) ?_
  replace Z := c_Z Z hW 13
  refine c_putR Z (idx := 43) (ss := 12) (zmU (j := 0) rfl (by decide)) (by decide) (by decide) rfl (by decide +kernel) (Or.inr ⟨rfl, hin, rfl⟩) (by decide +kernel) ?_
  refine zblq Z rfl [(.aload 0, 1), (.iconst 10, 2)] (S' := (103, [(0, .inr (.inr (some (12, 0))))], [.inl (10 : Int32), .inr (.inr (some (12, 0)))], _)) (b := true) (by decide +kernel) rfl rfl ?_
  refine c_newa (n := 12) hW hs rfl (kk := 1314) (i := 0) rfl Z (Or.inl ⟨rfl, rfl⟩) rfl acl_0 (by decide) ⟨by exact Nat.le_of_ble_eq_true rfl, by exact Nat.le_of_ble_eq_true rfl⟩ (by decide +kernel) ?_
  replace Z := c_Z Z hW 14
  refine c_putR Z (idx := 46) (ss := 14) (zmU (j := 0) rfl (by decide)) (by decide) (by decide) rfl (by decide +kernel) (Or.inr ⟨rfl, hin, rfl⟩) (by decide +kernel) ?_
  refine zblq Z rfl [(.aload 0, 1), (.iconst 240, 3)] (S' := (112, [(0, .inr (.inr (some (12, 0))))], [.inl (240 : Int32), .inr (.inr (some (12, 0)))], _)) (b := true) (by decide +kernel) rfl rfl ?_
  refine c_newa (n := 13) hW hs rfl (kk := 1315) (i := 0) rfl Z (Or.inl ⟨rfl, rfl⟩) rfl acl_0 (by decide) ⟨by exact Nat.le_of_ble_eq_true rfl, by exact Nat.le_of_ble_eq_true rfl⟩ (by decide +kernel) ?_
  replace Z := c_Z Z hW 15
  refine c_putR Z (idx := 49) (ss := 15) (zmU (j := 0) rfl (by decide)) (by decide) (by decide) rfl (by decide +kernel) (Or.inr ⟨rfl, hin, rfl⟩) (by decide +kernel) ?_
  refine zblq Z rfl [(.aload 0, 1), (.iconst 55, 2)] (S' := (120, [(0, .inr (.inr (some (12, 0))))], [.inl (55 : Int32), .inr (.inr (some (12, 0)))], _)) (b := true) (by decide +kernel) rfl rfl ?_
  refine c_newa (n := 14) hW hs rfl (kk := 1316) (i := 0) rfl Z (Or.inl ⟨rfl, rfl⟩) rfl acl_0 (by decide) ⟨by exact Nat.le_of_ble_eq_true rfl, by exact Nat.le_of_ble_eq_true rfl⟩ (by decide +kernel) ?_
  replace Z := c_Z Z hW 16
  refine c_putR Z (idx := 52) (ss := 16) (zmU (j := 0) rfl (by decide)) (by decide) (by decide) rfl (by decide +kernel) (Or.inr ⟨rfl, hin, rfl⟩) (by decide +kernel) ?_
  refine zblq Z rfl [(.aload 0, 1), (.iconst 10, 2)] (S' := (128, [(0, .inr (.inr (some (12, 0))))], [.inl (10 : Int32), .inr (.inr (some (12, 0)))], _)) (b := true) (by decide +kernel) rfl rfl ?_
  refine c_newa (n := 15) hW hs rfl (kk := 1317) (i := 0) rfl Z (Or.inr ⟨rfl, rfl⟩) rfl acl_1 (by decide) ⟨by exact Nat.le_of_ble_eq_true rfl, by exact Nat.le_of_ble_eq_true rfl⟩ (by decide +kernel) ?_
  replace Z := c_Z Z hW 17
  refine c_putR Z (idx := 55) (ss := 17) (zmU (j := 0) rfl (by decide)) (by decide) (by decide) rfl (by decide +kernel) (Or.inr ⟨rfl, hin, rfl⟩) (by decide +kernel) ?_
  refine zblq Z rfl [(.aload 0, 1), (.iconst 8, 2)] (S' := (136, [(0, .inr (.inr (some (12, 0))))], [.inl (8 : Int32), .inr (.inr (some (12, 0)))], _)) (b := true) (by decide +kernel) rfl rfl ?_
  refine c_newa (n := 16) hW hs rfl (kk := 1319) (i := 0) rfl Z (Or.inl ⟨rfl, rfl⟩) rfl acl_0 (by decide) ⟨by exact Nat.le_of_ble_eq_true rfl, by exact Nat.le_of_ble_eq_true rfl⟩ (by decide +kernel) ?_
  replace Z := c_Z Z hW 18
  refine c_putR Z (idx := 59) (ss := 19) (zmU (j := 0) rfl (by decide)) (by decide) (by decide) rfl (by decide +kernel) (Or.inr ⟨rfl, hin, rfl⟩) (by decide +kernel) ?_
  refine zblq Z rfl [(.aload 0, 1), (.iconst 12, 2)] (S' := (144, [(0, .inr (.inr (some (12, 0))))], [.inl (12 : Int32), .inr (.inr (some (12, 0)))], _)) (b := true) (by decide +kernel) rfl rfl ?_
  refine c_newa (n := 17) hW hs rfl (kk := 1321) (i := 0) rfl Z (Or.inl ⟨rfl, rfl⟩) rfl acl_0 (by decide) ⟨by exact Nat.le_of_ble_eq_true rfl, by exact Nat.le_of_ble_eq_true rfl⟩ (by decide +kernel) ?_
  replace Z := c_Z Z hW 19
  refine c_putR Z (idx := 62) (ss := 21) (zmU (j := 0) rfl (by decide)) (by decide) (by decide) rfl (by decide +kernel) (Or.inr ⟨rfl, hin, rfl⟩) (by decide +kernel) ?_
  refine zblq Z rfl [(.aload 0, 1), (.iconst 10, 2)] (S' := (152, [(0, .inr (.inr (some (12, 0))))], [.inl (10 : Int32), .inr (.inr (some (12, 0)))], _)) (b := true) (by decide +kernel) rfl rfl ?_
  refine c_newa (n := 18) hW hs rfl (kk := 1322) (i := 0) rfl Z (Or.inr ⟨rfl, rfl⟩) rfl acl_1 (by decide) ⟨by exact Nat.le_of_ble_eq_true rfl, by exact Nat.le_of_ble_eq_true rfl⟩ (by decide +kernel) ?_
  replace Z := c_Z Z hW 20
  refine c_putR Z (idx := 65) (ss := 22) (zmU (j := 0) rfl (by decide)) (by decide) (by decide) rfl (by decide +kernel) (Or.inr ⟨rfl, hin, rfl⟩) (by decide +kernel) ?_
  refine zblq Z rfl [(.aload 0, 1), (.iconst 10, 2)] (S' := (160, [(0, .inr (.inr (some (12, 0))))], [.inl (10 : Int32), .inr (.inr (some (12, 0)))], _)) (b := true) (by decide +kernel) rfl rfl ?_
  refine c_newa (n := 19) hW hs rfl (kk := 1323) (i := 0) rfl Z (Or.inr ⟨rfl, rfl⟩) rfl acl_1 (by decide) ⟨by exact Nat.le_of_ble_eq_true rfl, by exact Nat.le_of_ble_eq_true rfl⟩ (by decide +kernel) ?_
  replace Z := c_Z Z hW 21
  refine c_putR Z (idx := 68) (ss := 23) (zmU (j := 0) rfl (by decide)) (by decide) (by decide) rfl (by decide +kernel) (Or.inr ⟨rfl, hin, rfl⟩) (by decide +kernel) ?_
  refine zblq Z rfl [(.aload 0, 1), (.iconst 10, 2)] (S' := (168, [(0, .inr (.inr (some (12, 0))))], [.inl (10 : Int32), .inr (.inr (some (12, 0)))], _)) (b := true) (by decide +kernel) rfl rfl ?_
  refine c_newa (n := 20) hW hs rfl (kk := 1324) (i := 0) rfl Z (Or.inr ⟨rfl, rfl⟩) rfl acl_1 (by decide) ⟨by exact Nat.le_of_ble_eq_true rfl, by exact Nat.le_of_ble_eq_true rfl⟩ (by decide +kernel) ?_
  replace Z := c_Z Z hW 22
  refine c_putR Z (idx := 71) (ss := 24) (zmU (j := 0) rfl (by decide)) (by decide) (by decide) rfl (by decide +kernel) (Or.inr ⟨rfl, hin, rfl⟩) (by decide +kernel) ?_
  refine zblq Z rfl [(.aload 0, 1), (.iconst 60, 2)] (S' := (176, [(0, .inr (.inr (some (12, 0))))], [.inl (60 : Int32), .inr (.inr (some (12, 0)))], _)) (b := true) (by decide +kernel) rfl rfl ?_
  refine c_newa (n := 21) hW hs rfl (kk := 1325) (i := 0) rfl Z (Or.inl ⟨rfl, rfl⟩) rfl acl_0 (by decide) ⟨by exact Nat.le_of_ble_eq_true rfl, by exact Nat.le_of_ble_eq_true rfl⟩ (by decide +kernel) ?_
  replace Z := c_Z Z hW 23
  refine c_putR Z (idx := 74) (ss := 25) (zmU (j := 0) rfl (by decide)) (by decide) (by decide) rfl (by decide +kernel) (Or.inr ⟨rfl, hin, rfl⟩) (by decide +kernel) ?_
  refine zblq Z rfl [(.aload 0, 1), (.iconst 10, 2)] (S' := (184, [(0, .inr (.inr (some (12, 0))))], [.inl (10 : Int32), .inr (.inr (some (12, 0)))], _)) (b := true) (by decide +kernel) rfl rfl ?_
  refine c_newa (n := 22) hW hs rfl (kk := 1326) (i := 0) rfl Z (Or.inl ⟨rfl, rfl⟩) rfl acl_0 (by decide) ⟨by exact Nat.le_of_ble_eq_true rfl, by exact Nat.le_of_ble_eq_true rfl⟩ (by decide +kernel) ?_
  replace Z := c_Z Z hW 24
  refine c_putR Z (idx := 77) (ss := 26) (zmU (j := 0) rfl (by decide)) (by decide) (by decide) rfl (by decide +kernel) (Or.inr ⟨rfl, hin, rfl⟩) (by decide +kernel) ?_
  refine zblq Z rfl [(.aload 0, 1), (.iconst 10, 2)] (S' := (192, [(0, .inr (.inr (some (12, 0))))], [.inl (10 : Int32), .inr (.inr (some (12, 0)))], _)) (b := true) (by decide +kernel) rfl rfl ?_
  refine c_newa (n := 23) hW hs rfl (kk := 1327) (i := 0) rfl Z (Or.inl ⟨rfl, rfl⟩) rfl acl_0 (by decide) ⟨by exact Nat.le_of_ble_eq_true rfl, by exact Nat.le_of_ble_eq_true rfl⟩ (by decide +kernel) ?_
  replace Z := c_Z Z hW 25
  refine c_putR Z (idx := 80) (ss := 27) (zmU (j := 0) rfl (by decide)) (by decide) (by decide) rfl (by decide +kernel) (Or.inr ⟨rfl, hin, rfl⟩) (by decide +kernel) ?_
  refine zblq Z rfl [(.aload 0, 1), (.iconst 120, 2)] (S' := (200, [(0, .inr (.inr (some (12, 0))))], [.inl (120 : Int32), .inr (.inr (some (12, 0)))], _)) (b := true) (by decide +kernel) rfl rfl ?_
  refine c_newa (n := 24) hW hs rfl (kk := 1329) (i := 0) rfl Z (Or.inl ⟨rfl, rfl⟩) rfl acl_0 (by decide) ⟨by exact Nat.le_of_ble_eq_true rfl, by exact Nat.le_of_ble_eq_true rfl⟩ (by decide +kernel) ?_
  replace Z := c_Z Z hW 26
  refine c_putR Z (idx := 83) (ss := 29) (zmU (j := 0) rfl (by decide)) (by decide) (by decide) rfl (by decide +kernel) (Or.inr ⟨rfl, hin, rfl⟩) (by decide +kernel) ?_
  refine zblq Z rfl [(.aload 0, 1), (.iconst 24, 2)] (S' := (208, [(0, .inr (.inr (some (12, 0))))], [.inl (24 : Int32), .inr (.inr (some (12, 0)))], _)) (b := true) (by decide +kernel) rfl rfl ?_
  refine c_newa (n := 25) hW hs rfl (kk := 1339) (i := 0) rfl Z (Or.inl ⟨rfl, rfl⟩) rfl acl_0 (by decide) ⟨by exact Nat.le_of_ble_eq_true rfl, by exact Nat.le_of_ble_eq_true rfl⟩ (by decide +kernel) ?_
  replace Z := c_Z Z hW 27
  refine c_putR Z (idx := 86) (ss := 39) (zmU (j := 0) rfl (by decide)) (by decide) (by decide) rfl (by decide +kernel) (Or.inr ⟨rfl, hin, rfl⟩) (by decide +kernel) ?_
  refine zblq Z rfl [(.aload 0, 1), (.iconst 24, 2)] (S' := (216, [(0, .inr (.inr (some (12, 0))))], [.inl (24 : Int32), .inr (.inr (some (12, 0)))], _)) (b := true) (by decide +kernel) rfl rfl ?_
  refine c_newa (n := 26) hW hs rfl (kk := 1343) (i := 0) rfl Z (Or.inl ⟨rfl, rfl⟩) rfl acl_0 (by decide) ⟨by exact Nat.le_of_ble_eq_true rfl, by exact Nat.le_of_ble_eq_true rfl⟩ (by decide +kernel) ?_
  replace Z := c_Z Z hW 28
  refine c_putR Z (idx := 89) (ss := 43) (zmU (j := 0) rfl (by decide)) (by decide) (by decide) rfl (by decide +kernel) (Or.inr ⟨rfl, hin, rfl⟩) (by decide +kernel) ?_
  refine zblq Z rfl [(.aload 0, 1), (.iconst 240, 3)] (S' := (225, [(0, .inr (.inr (some (12, 0))))], [.inl (240 : Int32), .inr (.inr (some (12, 0)))], _)) (b := true) (by decide +kernel) rfl rfl ?_
  refine c_newa (n := 27) hW hs rfl (kk := 1344) (i := 0) rfl Z (Or.inl ⟨rfl, rfl⟩) rfl acl_0 (by decide) ⟨by exact Nat.le_of_ble_eq_true rfl, by exact Nat.le_of_ble_eq_true rfl⟩ (by decide +kernel) ?_
  replace Z := c_Z Z hW 29
  refine c_putR Z (idx := 92) (ss := 44) (zmU (j := 0) rfl (by decide)) (by decide) (by decide) rfl (by decide +kernel) (Or.inr ⟨rfl, hin, rfl⟩) (by decide +kernel) ?_
  refine zblq Z rfl [(.aload 0, 1), (.iconst 10, 2)] (S' := (233, [(0, .inr (.inr (some (12, 0))))], [.inl (10 : Int32), .inr (.inr (some (12, 0)))], _)) (b := true) (by decide +kernel) rfl rfl ?_
  refine c_newa (n := 28) hW hs rfl (kk := 1345) (i := 0) rfl Z (Or.inl ⟨rfl, rfl⟩) rfl acl_0 (by decide) ⟨by exact Nat.le_of_ble_eq_true rfl, by exact Nat.le_of_ble_eq_true rfl⟩ (by decide +kernel) ?_
  replace Z := c_Z Z hW 30
  refine c_putR Z (idx := 95) (ss := 45) (zmU (j := 0) rfl (by decide)) (by decide) (by decide) rfl (by decide +kernel) (Or.inr ⟨rfl, hin, rfl⟩) (by decide +kernel) ?_
  refine zblq Z rfl [(.aload 0, 1), (.iconst 10, 2)] (S' := (241, [(0, .inr (.inr (some (12, 0))))], [.inl (10 : Int32), .inr (.inr (some (12, 0)))], _)) (b := true) (by decide +kernel) rfl rfl ?_
  refine c_newa (n := 29) hW hs rfl (kk := 1346) (i := 0) rfl Z (Or.inl ⟨rfl, rfl⟩) rfl acl_0 (by decide) ⟨by exact Nat.le_of_ble_eq_true rfl, by exact Nat.le_of_ble_eq_true rfl⟩ (by decide +kernel) ?_
  replace Z := c_Z Z hW 31
  refine c_putR Z (idx := 98) (ss := 46) (zmU (j := 0) rfl (by decide)) (by decide) (by decide) rfl (by decide +kernel) (Or.inr ⟨rfl, hin, rfl⟩) (by decide +kernel) ?_
  refine zblq Z rfl [(.aload 0, 1), (.iconst 10, 2)] (S' := (249, [(0, .inr (.inr (some (12, 0))))], [.inl (10 : Int32), .inr (.inr (some (12, 0)))], _)) (b := true) (by decide +kernel) rfl rfl ?_
  refine c_newa (n := 30) hW hs rfl (kk := 1347) (i := 0) rfl Z (Or.inl ⟨rfl, rfl⟩) rfl acl_0 (by decide) ⟨by exact Nat.le_of_ble_eq_true rfl, by exact Nat.le_of_ble_eq_true rfl⟩ (by decide +kernel) ?_
  replace Z := c_Z Z hW 32
  refine c_putR Z (idx := 101) (ss := 47) (zmU (j := 0) rfl (by decide)) (by decide) (by decide) rfl (by decide +kernel) (Or.inr ⟨rfl, hin, rfl⟩) (by decide +kernel) ?_
  refine zblq Z rfl [(.aload 0, 1), (.iconst 10, 2)] (S' := (257, [(0, .inr (.inr (some (12, 0))))], [.inl (10 : Int32), .inr (.inr (some (12, 0)))], _)) (b := true) (by decide +kernel) rfl rfl ?_
  refine c_newa (n := 31) hW hs rfl (kk := 1348) (i := 0) rfl Z (Or.inl ⟨rfl, rfl⟩) rfl acl_0 (by decide) ⟨by exact Nat.le_of_ble_eq_true rfl, by exact Nat.le_of_ble_eq_true rfl⟩ (by decide +kernel) ?_
  replace Z := c_Z Z hW 33
  refine c_putR Z (idx := 104) (ss := 48) (zmU (j := 0) rfl (by decide)) (by decide) (by decide) rfl (by decide +kernel) (Or.inr ⟨rfl, hin, rfl⟩) (by decide +kernel) ?_
  refine zblq Z rfl [(.aload 0, 1), (.iconst 200, 3)] (S' := (266, [(0, .inr (.inr (some (12, 0))))], [.inl (200 : Int32), .inr (.inr (some (12, 0)))], _)) (b := true) (by decide +kernel) rfl rfl ?_
  refine c_newa (n := 32) hW hs rfl (kk := 1350) (i := 0) rfl Z (Or.inl ⟨rfl, rfl⟩) rfl acl_0 (by decide) ⟨by exact Nat.le_of_ble_eq_true rfl, by exact Nat.le_of_ble_eq_true rfl⟩ (by decide +kernel) ?_
  replace Z := c_Z Z hW 34
  refine c_putR Z (idx := 107) (ss := 50) (zmU (j := 0) rfl (by decide)) (by decide) (by decide) rfl (by decide +kernel) (Or.inr ⟨rfl, hin, rfl⟩) (by decide +kernel) ?_
  refine zblq Z rfl [(.aload 0, 1), (.iconst 20, 2)] (S' := (274, [(0, .inr (.inr (some (12, 0))))], [.inl (20 : Int32), .inr (.inr (some (12, 0)))], _)) (b := true) (by decide +kernel) rfl rfl ?_
  refine c_newa (n := 33) hW hs rfl (kk := 1352) (i := 0) rfl Z (Or.inl ⟨rfl, rfl⟩) rfl acl_0 (by decide) ⟨by exact Nat.le_of_ble_eq_true rfl, by exact Nat.le_of_ble_eq_true rfl⟩ (by decide +kernel) ?_
  replace Z := c_Z Z hW 35
  refine c_putR Z (idx := 110) (ss := 52) (zmU (j := 0) rfl (by decide)) (by decide) (by decide) rfl (by decide +kernel) (Or.inr ⟨rfl, hin, rfl⟩) (by decide +kernel) ?_
  refine zblq Z rfl [(.aload 0, 1), (.iconst 20, 2)] (S' := (282, [(0, .inr (.inr (some (12, 0))))], [.inl (20 : Int32), .inr (.inr (some (12, 0)))], _)) (b := true) (by decide +kernel) rfl rfl ?_
  refine c_newa (n := 34) hW hs rfl (kk := 1353) (i := 0) rfl Z (Or.inl ⟨rfl, rfl⟩) rfl acl_0 (by decide) ⟨by exact Nat.le_of_ble_eq_true rfl, by exact Nat.le_of_ble_eq_true rfl⟩ (by decide +kernel) ?_
  replace Z := c_Z Z hW 36
  refine c_putR Z (idx := 113) (ss := 53) (zmU (j := 0) rfl (by decide)) (by decide) (by decide) rfl (by decide +kernel) (Or.inr ⟨rfl, hin, rfl⟩) (by decide +kernel) ?_
  refine zblq Z rfl [(.aload 0, 1), (.iconst 20, 2)] (S' := (290, [(0, .inr (.inr (some (12, 0))))], [.inl (20 : Int32), .inr (.inr (some (12, 0)))], _)) (b := true) (by decide +kernel) rfl rfl ?_
  refine c_newa (n := 35) hW hs rfl (kk := 1354) (i := 0) rfl Z (Or.inl ⟨rfl, rfl⟩) rfl acl_0 (by decide) ⟨by exact Nat.le_of_ble_eq_true rfl, by exact Nat.le_of_ble_eq_true rfl⟩ (by decide +kernel) ?_
  replace Z := c_Z Z hW 37
  refine c_putR Z (idx := 116) (ss := 54) (zmU (j := 0) rfl (by decide)) (by decide) (by decide) rfl (by decide +kernel) (Or.inr ⟨rfl, hin, rfl⟩) (by decide +kernel) ?_
  refine zblq Z rfl [(.aload 0, 1), (.iconst 20, 2)] (S' := (298, [(0, .inr (.inr (some (12, 0))))], [.inl (20 : Int32), .inr (.inr (some (12, 0)))], _)) (b := true) (by decide +kernel) rfl rfl ?_
  refine c_newa (n := 36) hW hs rfl (kk := 1355) (i := 0) rfl Z (Or.inl ⟨rfl, rfl⟩) rfl acl_0 (by decide) ⟨by exact Nat.le_of_ble_eq_true rfl, by exact Nat.le_of_ble_eq_true rfl⟩ (by decide +kernel) ?_
  replace Z := c_Z Z hW 38
  refine c_putR Z (idx := 119) (ss := 55) (zmU (j := 0) rfl (by decide)) (by decide) (by decide) rfl (by decide +kernel) (Or.inr ⟨rfl, hin, rfl⟩) (by decide +kernel) ?_
  refine zblq Z rfl [(.aload 0, 1), (.iconst 20, 2)] (S' := (306, [(0, .inr (.inr (some (12, 0))))], [.inl (20 : Int32), .inr (.inr (some (12, 0)))], _)) (b := true) (by decide +kernel) rfl rfl ?_
  refine c_newa (n := 37) hW hs rfl (kk := 1356) (i := 0) rfl Z (Or.inl ⟨rfl, rfl⟩) rfl acl_0 (by decide) ⟨by exact Nat.le_of_ble_eq_true rfl, by exact Nat.le_of_ble_eq_true rfl⟩ (by decide +kernel) ?_
  replace Z := c_Z Z hW 39
  refine c_putR Z (idx := 122) (ss := 56) (zmU (j := 0) rfl (by decide)) (by decide) (by decide) rfl (by decide +kernel) (Or.inr ⟨rfl, hin, rfl⟩) (by decide +kernel) ?_
  refine zblq Z rfl [(.aload 0, 1), (.iconst 100, 2)] (S' := (314, [(0, .inr (.inr (some (12, 0))))], [.inl (100 : Int32), .inr (.inr (some (12, 0)))], _)) (b := true) (by decide +kernel) rfl rfl ?_
  refine c_newa (n := 38) hW hs rfl (kk := 1357) (i := 0) rfl Z (Or.inl ⟨rfl, rfl⟩) rfl acl_0 (by decide) ⟨by exact Nat.le_of_ble_eq_true rfl, by exact Nat.le_of_ble_eq_true rfl⟩ (by decide +kernel) ?_
  replace Z := c_Z Z hW 40
  refine c_putR Z (idx := 125) (ss := 57) (zmU (j := 0) rfl (by decide)) (by decide) (by decide) rfl (by decide +kernel) (Or.inr ⟨rfl, hin, rfl⟩) (by decide +kernel) ?_
  refine zblq Z rfl [(.aload 0, 1), (.iconst 10, 2)] (S' := (322, [(0, .inr (.inr (some (12, 0))))], [.inl (10 : Int32), .inr (.inr (some (12, 0)))], _)) (b := true) (by decide +kernel) rfl rfl ?_
  refine c_newa (n := 39) hW hs rfl (kk := 1358) (i := 0) rfl Z (Or.inl ⟨rfl, rfl⟩) rfl acl_0 (by decide) ⟨by exact Nat.le_of_ble_eq_true rfl, by exact Nat.le_of_ble_eq_true rfl⟩ (by decide +kernel) ?_
  replace Z := c_Z Z hW 41
  refine c_putR Z (idx := 128) (ss := 58) (zmU (j := 0) rfl (by decide)) (by decide) (by decide) rfl (by decide +kernel) (Or.inr ⟨rfl, hin, rfl⟩) (by decide +kernel) ?_
  refine zblq Z rfl [(.aload 0, 1), (.iconst 10, 2)] (S' := (330, [(0, .inr (.inr (some (12, 0))))], [.inl (10 : Int32), .inr (.inr (some (12, 0)))], _)) (b := true) (by decide +kernel) rfl rfl ?_
  refine c_newa (n := 40) hW hs rfl (kk := 1362) (i := 0) rfl Z (Or.inl ⟨rfl, rfl⟩) rfl acl_0 (by decide) ⟨by exact Nat.le_of_ble_eq_true rfl, by exact Nat.le_of_ble_eq_true rfl⟩ (by decide +kernel) ?_
  replace Z := c_Z Z hW 42
  refine c_putR Z (idx := 131) (ss := 62) (zmU (j := 0) rfl (by decide)) (by decide) (by decide) rfl (by decide +kernel) (Or.inr ⟨rfl, hin, rfl⟩) (by decide +kernel) ?_
  refine zblq Z rfl [(.aload 0, 1), (.iconst 10, 2)] (S' := (338, [(0, .inr (.inr (some (12, 0))))], [.inl (10 : Int32), .inr (.inr (some (12, 0)))], _)) (b := true) (by decide +kernel) rfl rfl ?_
  refine c_newa (n := 41) hW hs rfl (kk := 1363) (i := 0) rfl Z (Or.inl ⟨rfl, rfl⟩) rfl acl_0 (by decide) ⟨by exact Nat.le_of_ble_eq_true rfl, by exact Nat.le_of_ble_eq_true rfl⟩ (by decide +kernel) ?_
  replace Z := c_Z Z hW 43
  refine c_putR Z (idx := 134) (ss := 63) (zmU (j := 0) rfl (by decide)) (by decide) (by decide) rfl (by decide +kernel) (Or.inr ⟨rfl, hin, rfl⟩) (by decide +kernel) ?_
  refine zblq Z rfl [(.aload 0, 1), (.iconst 80, 2)] (S' := (346, [(0, .inr (.inr (some (12, 0))))], [.inl (80 : Int32), .inr (.inr (some (12, 0)))], _)) (b := true) (by decide +kernel) rfl rfl ?_
  refine c_newa (n := 42) hW hs rfl (kk := 1364) (i := 0) rfl Z (Or.inl ⟨rfl, rfl⟩) rfl acl_0 (by decide) ⟨by exact Nat.le_of_ble_eq_true rfl, by exact Nat.le_of_ble_eq_true rfl⟩ (by decide +kernel) ?_
  replace Z := c_Z Z hW 44
  refine c_putR Z (idx := 137) (ss := 64) (zmU (j := 0) rfl (by decide)) (by decide) (by decide) rfl (by decide +kernel) (Or.inr ⟨rfl, hin, rfl⟩) (by decide +kernel) ?_
  refine zblq Z rfl [(.aload 0, 1), (.iconst 80, 2)] (S' := (354, [(0, .inr (.inr (some (12, 0))))], [.inl (80 : Int32), .inr (.inr (some (12, 0)))], _)) (b := true) (by decide +kernel) rfl rfl ?_
  refine c_newa (n := 43) hW hs rfl (kk := 1365) (i := 0) rfl Z (Or.inl ⟨rfl, rfl⟩) rfl acl_0 (by decide) ⟨by exact Nat.le_of_ble_eq_true rfl, by exact Nat.le_of_ble_eq_true rfl⟩ (by decide +kernel) ?_
  replace Z := c_Z Z hW 45
  refine c_putR Z (idx := 140) (ss := 65) (zmU (j := 0) rfl (by decide)) (by decide) (by decide) rfl (by decide +kernel) (Or.inr ⟨rfl, hin, rfl⟩) (by decide +kernel) ?_
  refine zblq Z rfl [(.aload 0, 1), (.iconst 10, 2)] (S' := (362, [(0, .inr (.inr (some (12, 0))))], [.inl (10 : Int32), .inr (.inr (some (12, 0)))], _)) (b := true) (by decide +kernel) rfl rfl ?_
  refine c_newa (n := 44) hW hs rfl (kk := 1366) (i := 0) rfl Z (Or.inl ⟨rfl, rfl⟩) rfl acl_0 (by decide) ⟨by exact Nat.le_of_ble_eq_true rfl, by exact Nat.le_of_ble_eq_true rfl⟩ (by decide +kernel) ?_
  replace Z := c_Z Z hW 46
  refine c_putR Z (idx := 143) (ss := 66) (zmU (j := 0) rfl (by decide)) (by decide) (by decide) rfl (by decide +kernel) (Or.inr ⟨rfl, hin, rfl⟩) (by decide +kernel) ?_
  refine zblq Z rfl [(.aload 0, 1), (.iconst 4, 1)] (S' := (369, [(0, .inr (.inr (some (12, 0))))], [.inl (4 : Int32), .inr (.inr (some (12, 0)))], _)) (b := true) (by decide +kernel) rfl rfl ?_
  refine c_putI Z (idx := 146) (ss := 67) (zmU (j := 0) rfl (by decide)) (by decide) (by decide) rfl (by decide +kernel) rfl (by decide +kernel) ?_
  refine zblq Z rfl [(.aload 0, 1), (.iconst 6, 2)] (S' := (375, [(0, .inr (.inr (some (12, 0))))], [.inl (6 : Int32), .inr (.inr (some (12, 0)))], _)) (b := true) (by decide +kernel) rfl rfl ?_
  refine c_newa (n := 45) hW hs rfl (kk := 1368) (i := 0) rfl Z (Or.inl ⟨rfl, rfl⟩) rfl acl_0 (by decide) ⟨by exact Nat.le_of_ble_eq_true rfl, by exact Nat.le_of_ble_eq_true rfl⟩ (by decide +kernel) ?_
  replace Z := c_Z Z hW 47
  refine c_putR Z (idx := 150) (ss := 68) (zmU (j := 0) rfl (by decide)) (by decide) (by decide) rfl (by decide +kernel) (Or.inr ⟨rfl, hin, rfl⟩) (by decide +kernel) ?_
  refine zblq Z rfl [(.aload 0, 1), (.iconst 6, 2)] (S' := (383, [(0, .inr (.inr (some (12, 0))))], [.inl (6 : Int32), .inr (.inr (some (12, 0)))], _)) (b := true) (by decide +kernel) rfl rfl ?_
  refine c_newa (n := 46) hW hs rfl (kk := 1369) (i := 0) rfl Z (Or.inl ⟨rfl, rfl⟩) rfl acl_0 (by decide) ⟨by exact Nat.le_of_ble_eq_true rfl, by exact Nat.le_of_ble_eq_true rfl⟩ (by decide +kernel) ?_
  replace Z := c_Z Z hW 48
  refine c_putR Z (idx := 153) (ss := 69) (zmU (j := 0) rfl (by decide)) (by decide) (by decide) rfl (by decide +kernel) (Or.inr ⟨rfl, hin, rfl⟩) (by decide +kernel) ?_
  refine zblq Z rfl [(.aload 0, 1), (.iconst 30, 2)] (S' := (391, [(0, .inr (.inr (some (12, 0))))], [.inl (30 : Int32), .inr (.inr (some (12, 0)))], _)) (b := true) (by decide +kernel) rfl rfl ?_
  refine c_newa (n := 47) hW hs rfl (kk := 1370) (i := 0) rfl Z (Or.inl ⟨rfl, rfl⟩) rfl acl_0 (by decide) ⟨by exact Nat.le_of_ble_eq_true rfl, by exact Nat.le_of_ble_eq_true rfl⟩ (by decide +kernel) ?_
  replace Z := c_Z Z hW 49
  refine c_putR Z (idx := 156) (ss := 70) (zmU (j := 0) rfl (by decide)) (by decide) (by decide) rfl (by decide +kernel) (Or.inr ⟨rfl, hin, rfl⟩) (by decide +kernel) ?_
  refine zblq Z rfl [(.aload 0, 1), (.iconst 7776, 3)] (S' := (400, [(0, .inr (.inr (some (12, 0))))], [.inl (7776 : Int32), .inr (.inr (some (12, 0)))], _)) (b := true) (by decide +kernel) rfl rfl ?_
  refine c_newa (n := 48) hW hs rfl (kk := 1373) (i := 0) rfl Z (Or.inl ⟨rfl, rfl⟩) rfl acl_0 (by decide) ⟨by exact Nat.le_of_ble_eq_true rfl, by exact Nat.le_of_ble_eq_true rfl⟩ (by decide +kernel) ?_
  replace Z := c_Z Z hW 50
  refine c_putR Z (idx := 159) (ss := 73) (zmU (j := 0) rfl (by decide)) (by decide) (by decide) rfl (by decide +kernel) (Or.inr ⟨rfl, hin, rfl⟩) (by decide +kernel) ?_
  refine zblq Z rfl [(.aload 0, 1), (.iconst 16384, 3)] (S' := (409, [(0, .inr (.inr (some (12, 0))))], [.inl (16384 : Int32), .inr (.inr (some (12, 0)))], _)) (b := true) (by decide +kernel) rfl rfl ?_
  refine c_newa (n := 49) hW hs rfl (kk := 1374) (i := 0) rfl Z (Or.inl ⟨rfl, rfl⟩) rfl acl_0 (by decide) ⟨by exact Nat.le_of_ble_eq_true rfl, by exact Nat.le_of_ble_eq_true rfl⟩ (by decide +kernel) ?_
  replace Z := c_Z Z hW 51
  refine c_putR Z (idx := 162) (ss := 74) (zmU (j := 0) rfl (by decide)) (by decide) (by decide) rfl (by decide +kernel) (Or.inr ⟨rfl, hin, rfl⟩) (by decide +kernel) ?_
  refine zblq Z rfl [(.aload 0, 1), (.iconst 16384, 3)] (S' := (418, [(0, .inr (.inr (some (12, 0))))], [.inl (16384 : Int32), .inr (.inr (some (12, 0)))], _)) (b := true) (by decide +kernel) rfl rfl ?_
  refine c_newa (n := 50) hW hs rfl (kk := 1375) (i := 0) rfl Z (Or.inl ⟨rfl, rfl⟩) rfl acl_0 (by decide) ⟨by exact Nat.le_of_ble_eq_true rfl, by exact Nat.le_of_ble_eq_true rfl⟩ (by decide +kernel) ?_
  replace Z := c_Z Z hW 52
  refine c_putR Z (idx := 165) (ss := 75) (zmU (j := 0) rfl (by decide)) (by decide) (by decide) rfl (by decide +kernel) (Or.inr ⟨rfl, hin, rfl⟩) (by decide +kernel) ?_
  refine zblq Z rfl [(.aload 0, 1)] (S' := (424, [(0, .inr (.inr (some (12, 0))))], [.inr (.inr (some (12, 0)))], _)) (b := true) (by decide +kernel) rfl rfl ?_
  refine c_getR Z (idx := 43) (ss := 12) (r := (1312, 0)) (zmU (j := 0) rfl (by decide)) (by decide) (by decide) rfl (by decide +kernel) rfl (by decide +kernel) ?_
  refine zblq Z rfl [(.iconst 1, 1), (.iconst 1, 1)] (S' := (429, [(0, .inr (.inr (some (12, 0))))], [.inl (1 : Int32), .inl (1 : Int32), .inr (.inr (some (1312, 0)))], _)) (b := true) (by decide +kernel) rfl rfl ?_
  refine c_iast Z (jn := 1) (zmU (j := 12) rfl (by decide)) rfl (by decide) (by decide) (by decide +kernel) ?_
  refine zblq Z rfl [(.aload 0, 1)] (S' := (431, [(0, .inr (.inr (some (12, 0))))], [.inr (.inr (some (12, 0)))], _)) (b := true) (by decide +kernel) rfl rfl ?_
  refine c_getR Z (idx := 43) (ss := 12) (r := (1312, 0)) (zmU (j := 0) rfl (by decide)) (by decide) (by decide) rfl (by decide +kernel) rfl (by decide +kernel) ?_
  refine zblq Z rfl [(.iconst 2, 1), (.iconst 5, 1)] (S' := (436, [(0, .inr (.inr (some (12, 0))))], [.inl (5 : Int32), .inl (2 : Int32), .inr (.inr (some (1312, 0)))], _)) (b := true) (by decide +kernel) rfl rfl ?_
  refine c_iast Z (jn := 2) (zmU (j := 12) rfl (by decide)) rfl (by decide) (by decide) (by decide +kernel) ?_
  refine zblq Z rfl [(.aload 0, 1)] (S' := (438, [(0, .inr (.inr (some (12, 0))))], [.inr (.inr (some (12, 0)))], _)) (b := true) (by decide +kernel) rfl rfl ?_
  refine c_getR Z (idx := 43) (ss := 12) (r := (1312, 0)) (zmU (j := 0) rfl (by decide)) (by decide) (by decide) rfl (by decide +kernel) rfl (by decide +kernel) ?_
  refine zblq Z rfl [(.iconst 3, 1), (.iconst 2, 1)] (S' := (443, [(0, .inr (.inr (some (12, 0))))], [.inl (2 : Int32), .inl (3 : Int32), .inr (.inr (some (1312, 0)))], _)) (b := true) (by decide +kernel) rfl rfl ?_
  refine c_iast Z (jn := 3) (zmU (j := 12) rfl (by decide)) rfl (by decide) (by decide) (by decide +kernel) ?_
  refine zblq Z rfl [(.aload 0, 1)] (S' := (445, [(0, .inr (.inr (some (12, 0))))], [.inr (.inr (some (12, 0)))], _)) (b := true) (by decide +kernel) rfl rfl ?_
  refine c_getR Z (idx := 43) (ss := 12) (r := (1312, 0)) (zmU (j := 0) rfl (by decide)) (by decide) (by decide) rfl (by decide +kernel) rfl (by decide +kernel) ?_
  refine zblq Z rfl [(.iconst 4, 1), (.iconst 1, 1)] (S' := (450, [(0, .inr (.inr (some (12, 0))))], [.inl (1 : Int32), .inl (4 : Int32), .inr (.inr (some (1312, 0)))], _)) (b := true) (by decide +kernel) rfl rfl ?_
  refine c_iast Z (jn := 4) (zmU (j := 12) rfl (by decide)) rfl (by decide) (by decide) (by decide +kernel) ?_
  refine zblq Z rfl [(.aload 0, 1)] (S' := (452, [(0, .inr (.inr (some (12, 0))))], [.inr (.inr (some (12, 0)))], _)) (b := true) (by decide +kernel) rfl rfl ?_
  refine c_getR Z (idx := 43) (ss := 12) (r := (1312, 0)) (zmU (j := 0) rfl (by decide)) (by decide) (by decide) rfl (by decide +kernel) rfl (by decide +kernel) ?_
  refine zblq Z rfl [(.iconst 5, 1), (.iconst 2, 1)] (S' := (457, [(0, .inr (.inr (some (12, 0))))], [.inl (2 : Int32), .inl (5 : Int32), .inr (.inr (some (1312, 0)))], _)) (b := true) (by decide +kernel) rfl rfl ?_
  refine c_iast Z (jn := 5) (zmU (j := 12) rfl (by decide)) rfl (by decide) (by decide) (by decide +kernel) ?_
  exact ctM_tail (M := mk12_pre M) Z hA hE (mk12_Floudness M) (mk12_Flie M) (mk12_Fplaces M) (mk12_Flogs M)
