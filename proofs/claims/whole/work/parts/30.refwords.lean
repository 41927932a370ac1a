def tbX12 : zT := ([(7, 12, 1), (13, 12, 2), (16, 12, 3), (19, 12, 4), (22, 12, 5), (25, 12, 6), (28, 12, 7), (31, 12, 8), (34, 12, 9), (37, 12, 10), (40, 12, 11), (43, 12, 12), (46, 12, 14), (49, 12, 15), (52, 12, 16), (55, 12, 17), (59, 12, 19), (62, 12, 21), (65, 12, 22), (68, 12, 23), (71, 12, 24), (74, 12, 25), (77, 12, 26), (80, 12, 27), (83, 12, 29), (86, 12, 39), (89, 12, 43), (92, 12, 44), (95, 12, 45), (98, 12, 46), (101, 12, 47), (104, 12, 48), (107, 12, 50), (110, 12, 52), (113, 12, 53), (116, 12, 54), (119, 12, 55), (122, 12, 56), (125, 12, 57), (128, 12, 58), (131, 12, 62), (134, 12, 63), (137, 12, 64), (140, 12, 65), (143, 12, 66), (146, 12, 67), (150, 12, 68), (153, 12, 69), (156, 12, 70), (159, 12, 73), (162, 12, 74), (165, 12, 75), (168, 12, 0), (191, 12, 13), (204, 12, 42), (211, 12, 18), (232, 12, 20), (239, 12, 40), (242, 12, 41), (263, 12, 28), (268, 12, 31), (271, 12, 32), (274, 12, 34), (277, 12, 35), (282, 12, 33), (292, 12, 30), (295, 12, 38), (313, 12, 36), (336, 12, 37), (370, 12, 49), (382, 12, 51), (398, 12, 60), (401, 12, 59), (404, 12, 61), (419, 12, 71), (425, 12, 72)], [(389, (-2147483648)), (448, 1073741823)], [(266, 255), (280, (-2)), (286, 27), (288, 96), (290, (-1)), (301, 6476969), (307, 267347), (309, 259565), (311, 1905275), (319, 247702), (321, 12384743), (323, 1887), (325, 582341), (327, 1170473), (332, 1111), (334, 3094387), (368, 20000), (396, (-3))])
theorem tf12_7 : zfw RX12 (7, 12, 1) ∈ zt := zt_of (zq_6 (List.mem_of_getElem? (i := 159) rfl)) rfl
theorem tf12_13 : zfw RX12 (13, 12, 2) ∈ zt := zt_of (zq_6 (List.mem_of_getElem? (i := 160) rfl)) rfl
theorem tf12_16 : zfw RX12 (16, 12, 3) ∈ zt := zt_of (zq_6 (List.mem_of_getElem? (i := 161) rfl)) rfl
theorem tf12_19 : zfw RX12 (19, 12, 4) ∈ zt := zt_of (zq_6 (List.mem_of_getElem? (i := 162) rfl)) rfl
theorem tf12_22 : zfw RX12 (22, 12, 5) ∈ zt := zt_of (zq_6 (List.mem_of_getElem? (i := 163) rfl)) rfl
theorem tf12_25 : zfw RX12 (25, 12, 6) ∈ zt := zt_of (zq_6 (List.mem_of_getElem? (i := 164) rfl)) rfl
theorem tf12_28 : zfw RX12 (28, 12, 7) ∈ zt := zt_of (zq_6 (List.mem_of_getElem? (i := 165) rfl)) rfl
theorem tf12_31 : zfw RX12 (31, 12, 8) ∈ zt := zt_of (zq_6 (List.mem_of_getElem? (i := 166) rfl)) rfl
theorem tf12_34 : zfw RX12 (34, 12, 9) ∈ zt := zt_of (zq_6 (List.mem_of_getElem? (i := 167) rfl)) rfl
theorem tf12_37 : zfw RX12 (37, 12, 10) ∈ zt := zt_of (zq_6 (List.mem_of_getElem? (i := 168) rfl)) rfl
theorem tf12_40 : zfw RX12 (40, 12, 11) ∈ zt := zt_of (zq_6 (List.mem_of_getElem? (i := 169) rfl)) rfl
theorem tf12_43 : zfw RX12 (43, 12, 12) ∈ zt := zt_of (zq_6 (List.mem_of_getElem? (i := 170) rfl)) rfl
theorem tf12_46 : zfw RX12 (46, 12, 14) ∈ zt := zt_of (zq_6 (List.mem_of_getElem? (i := 172) rfl)) rfl
theorem tf12_49 : zfw RX12 (49, 12, 15) ∈ zt := zt_of (zq_6 (List.mem_of_getElem? (i := 173) rfl)) rfl
theorem tf12_52 : zfw RX12 (52, 12, 16) ∈ zt := zt_of (zq_6 (List.mem_of_getElem? (i := 174) rfl)) rfl
theorem tf12_55 : zfw RX12 (55, 12, 17) ∈ zt := zt_of (zq_6 (List.mem_of_getElem? (i := 175) rfl)) rfl
theorem tf12_59 : zfw RX12 (59, 12, 19) ∈ zt := zt_of (zq_6 (List.mem_of_getElem? (i := 177) rfl)) rfl
theorem tf12_62 : zfw RX12 (62, 12, 21) ∈ zt := zt_of (zq_6 (List.mem_of_getElem? (i := 179) rfl)) rfl
theorem tf12_65 : zfw RX12 (65, 12, 22) ∈ zt := zt_of (zq_6 (List.mem_of_getElem? (i := 180) rfl)) rfl
theorem tf12_68 : zfw RX12 (68, 12, 23) ∈ zt := zt_of (zq_6 (List.mem_of_getElem? (i := 181) rfl)) rfl
theorem tf12_71 : zfw RX12 (71, 12, 24) ∈ zt := zt_of (zq_6 (List.mem_of_getElem? (i := 182) rfl)) rfl
theorem tf12_74 : zfw RX12 (74, 12, 25) ∈ zt := zt_of (zq_6 (List.mem_of_getElem? (i := 183) rfl)) rfl
theorem tf12_77 : zfw RX12 (77, 12, 26) ∈ zt := zt_of (zq_6 (List.mem_of_getElem? (i := 184) rfl)) rfl
theorem tf12_80 : zfw RX12 (80, 12, 27) ∈ zt := zt_of (zq_6 (List.mem_of_getElem? (i := 185) rfl)) rfl
theorem tf12_83 : zfw RX12 (83, 12, 29) ∈ zt := zt_of (zq_6 (List.mem_of_getElem? (i := 187) rfl)) rfl
theorem tf12_86 : zfw RX12 (86, 12, 39) ∈ zt := zt_of (zq_6 (List.mem_of_getElem? (i := 197) rfl)) rfl
theorem tf12_89 : zfw RX12 (89, 12, 43) ∈ zt := zt_of (zq_6 (List.mem_of_getElem? (i := 201) rfl)) rfl
theorem tf12_92 : zfw RX12 (92, 12, 44) ∈ zt := zt_of (zq_6 (List.mem_of_getElem? (i := 202) rfl)) rfl
theorem tf12_95 : zfw RX12 (95, 12, 45) ∈ zt := zt_of (zq_6 (List.mem_of_getElem? (i := 203) rfl)) rfl
theorem tf12_98 : zfw RX12 (98, 12, 46) ∈ zt := zt_of (zq_6 (List.mem_of_getElem? (i := 204) rfl)) rfl
theorem tf12_101 : zfw RX12 (101, 12, 47) ∈ zt := zt_of (zq_6 (List.mem_of_getElem? (i := 205) rfl)) rfl
theorem tf12_104 : zfw RX12 (104, 12, 48) ∈ zt := zt_of (zq_6 (List.mem_of_getElem? (i := 206) rfl)) rfl
theorem tf12_107 : zfw RX12 (107, 12, 50) ∈ zt := zt_of (zq_6 (List.mem_of_getElem? (i := 208) rfl)) rfl
theorem tf12_110 : zfw RX12 (110, 12, 52) ∈ zt := zt_of (zq_6 (List.mem_of_getElem? (i := 210) rfl)) rfl
theorem tf12_113 : zfw RX12 (113, 12, 53) ∈ zt := zt_of (zq_6 (List.mem_of_getElem? (i := 211) rfl)) rfl
theorem tf12_116 : zfw RX12 (116, 12, 54) ∈ zt := zt_of (zq_6 (List.mem_of_getElem? (i := 212) rfl)) rfl
theorem tf12_119 : zfw RX12 (119, 12, 55) ∈ zt := zt_of (zq_6 (List.mem_of_getElem? (i := 213) rfl)) rfl
theorem tf12_122 : zfw RX12 (122, 12, 56) ∈ zt := zt_of (zq_6 (List.mem_of_getElem? (i := 214) rfl)) rfl
theorem tf12_125 : zfw RX12 (125, 12, 57) ∈ zt := zt_of (zq_6 (List.mem_of_getElem? (i := 215) rfl)) rfl
theorem tf12_128 : zfw RX12 (128, 12, 58) ∈ zt := zt_of (zq_6 (List.mem_of_getElem? (i := 216) rfl)) rfl
theorem tf12_131 : zfw RX12 (131, 12, 62) ∈ zt := zt_of (zq_6 (List.mem_of_getElem? (i := 220) rfl)) rfl
theorem tf12_134 : zfw RX12 (134, 12, 63) ∈ zt := zt_of (zq_6 (List.mem_of_getElem? (i := 221) rfl)) rfl
theorem tf12_137 : zfw RX12 (137, 12, 64) ∈ zt := zt_of (zq_6 (List.mem_of_getElem? (i := 222) rfl)) rfl
theorem tf12_140 : zfw RX12 (140, 12, 65) ∈ zt := zt_of (zq_6 (List.mem_of_getElem? (i := 223) rfl)) rfl
theorem tf12_143 : zfw RX12 (143, 12, 66) ∈ zt := zt_of (zq_6 (List.mem_of_getElem? (i := 224) rfl)) rfl
theorem tf12_146 : zfw RX12 (146, 12, 67) ∈ zt := zt_of (zq_6 (List.mem_of_getElem? (i := 225) rfl)) rfl
theorem tf12_150 : zfw RX12 (150, 12, 68) ∈ zt := zt_of (zq_6 (List.mem_of_getElem? (i := 226) rfl)) rfl
theorem tf12_153 : zfw RX12 (153, 12, 69) ∈ zt := zt_of (zq_6 (List.mem_of_getElem? (i := 227) rfl)) rfl
theorem tf12_156 : zfw RX12 (156, 12, 70) ∈ zt := zt_of (zq_6 (List.mem_of_getElem? (i := 228) rfl)) rfl
theorem tf12_159 : zfw RX12 (159, 12, 73) ∈ zt := zt_of (zq_6 (List.mem_of_getElem? (i := 231) rfl)) rfl
theorem tf12_162 : zfw RX12 (162, 12, 74) ∈ zt := zt_of (zq_6 (List.mem_of_getElem? (i := 232) rfl)) rfl
theorem tf12_165 : zfw RX12 (165, 12, 75) ∈ zt := zt_of (zq_6 (List.mem_of_getElem? (i := 233) rfl)) rfl
theorem tf12_168 : zfw RX12 (168, 12, 0) ∈ zt := zt_of (zq_6 (List.mem_of_getElem? (i := 158) rfl)) rfl
theorem tf12_191 : zfw RX12 (191, 12, 13) ∈ zt := zt_of (zq_6 (List.mem_of_getElem? (i := 171) rfl)) rfl
theorem tf12_204 : zfw RX12 (204, 12, 42) ∈ zt := zt_of (zq_6 (List.mem_of_getElem? (i := 200) rfl)) rfl
theorem tf12_211 : zfw RX12 (211, 12, 18) ∈ zt := zt_of (zq_6 (List.mem_of_getElem? (i := 176) rfl)) rfl
theorem tf12_232 : zfw RX12 (232, 12, 20) ∈ zt := zt_of (zq_6 (List.mem_of_getElem? (i := 178) rfl)) rfl
theorem tf12_239 : zfw RX12 (239, 12, 40) ∈ zt := zt_of (zq_6 (List.mem_of_getElem? (i := 198) rfl)) rfl
theorem tf12_242 : zfw RX12 (242, 12, 41) ∈ zt := zt_of (zq_6 (List.mem_of_getElem? (i := 199) rfl)) rfl
theorem tf12_263 : zfw RX12 (263, 12, 28) ∈ zt := zt_of (zq_6 (List.mem_of_getElem? (i := 186) rfl)) rfl
theorem tf12_268 : zfw RX12 (268, 12, 31) ∈ zt := zt_of (zq_6 (List.mem_of_getElem? (i := 189) rfl)) rfl
theorem tf12_271 : zfw RX12 (271, 12, 32) ∈ zt := zt_of (zq_6 (List.mem_of_getElem? (i := 190) rfl)) rfl
theorem tf12_274 : zfw RX12 (274, 12, 34) ∈ zt := zt_of (zq_6 (List.mem_of_getElem? (i := 192) rfl)) rfl
theorem tf12_277 : zfw RX12 (277, 12, 35) ∈ zt := zt_of (zq_6 (List.mem_of_getElem? (i := 193) rfl)) rfl
theorem tf12_282 : zfw RX12 (282, 12, 33) ∈ zt := zt_of (zq_6 (List.mem_of_getElem? (i := 191) rfl)) rfl
theorem tf12_292 : zfw RX12 (292, 12, 30) ∈ zt := zt_of (zq_6 (List.mem_of_getElem? (i := 188) rfl)) rfl
theorem tf12_295 : zfw RX12 (295, 12, 38) ∈ zt := zt_of (zq_6 (List.mem_of_getElem? (i := 196) rfl)) rfl
theorem tf12_313 : zfw RX12 (313, 12, 36) ∈ zt := zt_of (zq_6 (List.mem_of_getElem? (i := 194) rfl)) rfl
theorem tf12_336 : zfw RX12 (336, 12, 37) ∈ zt := zt_of (zq_6 (List.mem_of_getElem? (i := 195) rfl)) rfl
theorem tf12_370 : zfw RX12 (370, 12, 49) ∈ zt := zt_of (zq_6 (List.mem_of_getElem? (i := 207) rfl)) rfl
theorem tf12_382 : zfw RX12 (382, 12, 51) ∈ zt := zt_of (zq_6 (List.mem_of_getElem? (i := 209) rfl)) rfl
theorem tf12_398 : zfw RX12 (398, 12, 60) ∈ zt := zt_of (zq_6 (List.mem_of_getElem? (i := 218) rfl)) rfl
theorem tf12_401 : zfw RX12 (401, 12, 59) ∈ zt := zt_of (zq_6 (List.mem_of_getElem? (i := 217) rfl)) rfl
theorem tf12_404 : zfw RX12 (404, 12, 61) ∈ zt := zt_of (zq_6 (List.mem_of_getElem? (i := 219) rfl)) rfl
theorem tf12_419 : zfw RX12 (419, 12, 71) ∈ zt := zt_of (zq_6 (List.mem_of_getElem? (i := 229) rfl)) rfl
theorem tf12_425 : zfw RX12 (425, 12, 72) ∈ zt := zt_of (zq_6 (List.mem_of_getElem? (i := 230) rfl)) rfl
theorem ti12_389 : Cond.constant RX12 389 (Int32.ofInt (-2147483648)) ∈ zt := zt_of (zq_8 (List.mem_of_getElem? (i := 173) rfl)) rfl
theorem ti12_448 : Cond.constant RX12 448 (Int32.ofInt 1073741823) ∈ zt := zt_of (zq_9 (List.mem_of_getElem? (i := 61) rfl)) rfl
theorem tl12_266 : Cond.constantLong RX12 266 (Int64.ofInt 255) ∈ zt := zt_of (zq_8 (List.mem_of_getElem? (i := 45) rfl)) rfl
theorem tl12_280 : Cond.constantLong RX12 280 (Int64.ofInt (-2)) ∈ zt := zt_of (zq_8 (List.mem_of_getElem? (i := 62) rfl)) rfl
theorem tl12_286 : Cond.constantLong RX12 286 (Int64.ofInt 27) ∈ zt := zt_of (zq_8 (List.mem_of_getElem? (i := 63) rfl)) rfl
theorem tl12_288 : Cond.constantLong RX12 288 (Int64.ofInt 96) ∈ zt := zt_of (zq_8 (List.mem_of_getElem? (i := 64) rfl)) rfl
theorem tl12_290 : Cond.constantLong RX12 290 (Int64.ofInt (-1)) ∈ zt := zt_of (zq_8 (List.mem_of_getElem? (i := 65) rfl)) rfl
theorem tl12_301 : Cond.constantLong RX12 301 (Int64.ofInt 6476969) ∈ zt := zt_of (zq_8 (List.mem_of_getElem? (i := 66) rfl)) rfl
theorem tl12_307 : Cond.constantLong RX12 307 (Int64.ofInt 267347) ∈ zt := zt_of (zq_8 (List.mem_of_getElem? (i := 71) rfl)) rfl
theorem tl12_309 : Cond.constantLong RX12 309 (Int64.ofInt 259565) ∈ zt := zt_of (zq_8 (List.mem_of_getElem? (i := 72) rfl)) rfl
theorem tl12_311 : Cond.constantLong RX12 311 (Int64.ofInt 1905275) ∈ zt := zt_of (zq_8 (List.mem_of_getElem? (i := 73) rfl)) rfl
theorem tl12_319 : Cond.constantLong RX12 319 (Int64.ofInt 247702) ∈ zt := zt_of (zq_8 (List.mem_of_getElem? (i := 78) rfl)) rfl
theorem tl12_321 : Cond.constantLong RX12 321 (Int64.ofInt 12384743) ∈ zt := zt_of (zq_8 (List.mem_of_getElem? (i := 79) rfl)) rfl
theorem tl12_323 : Cond.constantLong RX12 323 (Int64.ofInt 1887) ∈ zt := zt_of (zq_8 (List.mem_of_getElem? (i := 80) rfl)) rfl
theorem tl12_325 : Cond.constantLong RX12 325 (Int64.ofInt 582341) ∈ zt := zt_of (zq_8 (List.mem_of_getElem? (i := 81) rfl)) rfl
theorem tl12_327 : Cond.constantLong RX12 327 (Int64.ofInt 1170473) ∈ zt := zt_of (zq_8 (List.mem_of_getElem? (i := 82) rfl)) rfl
theorem tl12_332 : Cond.constantLong RX12 332 (Int64.ofInt 1111) ∈ zt := zt_of (zq_8 (List.mem_of_getElem? (i := 87) rfl)) rfl
theorem tl12_334 : Cond.constantLong RX12 334 (Int64.ofInt 3094387) ∈ zt := zt_of (zq_8 (List.mem_of_getElem? (i := 88) rfl)) rfl
theorem tl12_368 : Cond.constantLong RX12 368 (Int64.ofInt 20000) ∈ zt := zt_of (zq_8 (List.mem_of_getElem? (i := 152) rfl)) rfl
theorem tl12_396 : Cond.constantLong RX12 396 (Int64.ofInt (-3)) ∈ zt := zt_of (zq_8 (List.mem_of_getElem? (i := 193) rfl)) rfl
theorem tbX12_ok : zTok RX12 tbX12 := ⟨List.forall_mem_cons.mpr ⟨tf12_7, List.forall_mem_cons.mpr ⟨tf12_13, List.forall_mem_cons.mpr ⟨tf12_16, List.forall_mem_cons.mpr ⟨tf12_19, List.forall_mem_cons.mpr ⟨tf12_22, List.forall_mem_cons.mpr ⟨tf12_25, List.forall_mem_cons.mpr ⟨tf12_28, List.forall_mem_cons.mpr ⟨tf12_31, List.forall_mem_cons.mpr ⟨tf12_34, List.forall_mem_cons.mpr ⟨tf12_37, List.forall_mem_cons.mpr ⟨tf12_40, List.forall_mem_cons.mpr ⟨tf12_43, List.forall_mem_cons.mpr ⟨tf12_46, List.forall_mem_cons.mpr ⟨tf12_49, List.forall_mem_cons.mpr ⟨tf12_52, List.forall_mem_cons.mpr ⟨tf12_55, List.forall_mem_cons.mpr ⟨tf12_59, List.forall_mem_cons.mpr ⟨tf12_62, List.forall_mem_cons.mpr ⟨tf12_65, List.forall_mem_cons.mpr ⟨tf12_68, List.forall_mem_cons.mpr ⟨tf12_71, List.forall_mem_cons.mpr ⟨tf12_74, List.forall_mem_cons.mpr ⟨tf12_77, List.forall_mem_cons.mpr ⟨tf12_80, List.forall_mem_cons.mpr ⟨tf12_83, List.forall_mem_cons.mpr ⟨tf12_86, List.forall_mem_cons.mpr ⟨tf12_89, List.forall_mem_cons.mpr ⟨tf12_92, List.forall_mem_cons.mpr ⟨tf12_95, List.forall_mem_cons.mpr ⟨tf12_98, List.forall_mem_cons.mpr ⟨tf12_101, List.forall_mem_cons.mpr ⟨tf12_104, List.forall_mem_cons.mpr ⟨tf12_107, List.forall_mem_cons.mpr ⟨tf12_110, List.forall_mem_cons.mpr ⟨tf12_113, List.forall_mem_cons.mpr ⟨tf12_116, List.forall_mem_cons.mpr ⟨tf12_119, List.forall_mem_cons.mpr ⟨tf12_122, List.forall_mem_cons.mpr ⟨tf12_125, List.forall_mem_cons.mpr ⟨tf12_128, List.forall_mem_cons.mpr ⟨tf12_131, List.forall_mem_cons.mpr ⟨tf12_134, List.forall_mem_cons.mpr ⟨tf12_137, List.forall_mem_cons.mpr ⟨tf12_140, List.forall_mem_cons.mpr ⟨tf12_143, List.forall_mem_cons.mpr ⟨tf12_146, List.forall_mem_cons.mpr ⟨tf12_150, List.forall_mem_cons.mpr ⟨tf12_153, List.forall_mem_cons.mpr ⟨tf12_156, List.forall_mem_cons.mpr ⟨tf12_159, List.forall_mem_cons.mpr ⟨tf12_162, List.forall_mem_cons.mpr ⟨tf12_165, List.forall_mem_cons.mpr ⟨tf12_168, List.forall_mem_cons.mpr ⟨tf12_191, List.forall_mem_cons.mpr ⟨tf12_204, List.forall_mem_cons.mpr ⟨tf12_211, List.forall_mem_cons.mpr ⟨tf12_232, List.forall_mem_cons.mpr ⟨tf12_239, List.forall_mem_cons.mpr ⟨tf12_242, List.forall_mem_cons.mpr ⟨tf12_263, List.forall_mem_cons.mpr ⟨tf12_268, List.forall_mem_cons.mpr ⟨tf12_271, List.forall_mem_cons.mpr ⟨tf12_274, List.forall_mem_cons.mpr ⟨tf12_277, List.forall_mem_cons.mpr ⟨tf12_282, List.forall_mem_cons.mpr ⟨tf12_292, List.forall_mem_cons.mpr ⟨tf12_295, List.forall_mem_cons.mpr ⟨tf12_313, List.forall_mem_cons.mpr ⟨tf12_336, List.forall_mem_cons.mpr ⟨tf12_370, List.forall_mem_cons.mpr ⟨tf12_382, List.forall_mem_cons.mpr ⟨tf12_398, List.forall_mem_cons.mpr ⟨tf12_401, List.forall_mem_cons.mpr ⟨tf12_404, List.forall_mem_cons.mpr ⟨tf12_419, List.forall_mem_cons.mpr ⟨tf12_425, fun _ h => absurd h List.not_mem_nil⟩⟩⟩⟩⟩⟩⟩⟩⟩⟩⟩⟩⟩⟩⟩⟩⟩⟩⟩⟩⟩⟩⟩⟩⟩⟩⟩⟩⟩⟩⟩⟩⟩⟩⟩⟩⟩⟩⟩⟩⟩⟩⟩⟩⟩⟩⟩⟩⟩⟩⟩⟩⟩⟩⟩⟩⟩⟩⟩⟩⟩⟩⟩⟩⟩⟩⟩⟩⟩⟩⟩⟩⟩⟩⟩⟩, List.forall_mem_cons.mpr ⟨ti12_389, List.forall_mem_cons.mpr ⟨ti12_448, fun _ h => absurd h List.not_mem_nil⟩⟩, List.forall_mem_cons.mpr ⟨tl12_266, List.forall_mem_cons.mpr ⟨tl12_280, List.forall_mem_cons.mpr ⟨tl12_286, List.forall_mem_cons.mpr ⟨tl12_288, List.forall_mem_cons.mpr ⟨tl12_290, List.forall_mem_cons.mpr ⟨tl12_301, List.forall_mem_cons.mpr ⟨tl12_307, List.forall_mem_cons.mpr ⟨tl12_309, List.forall_mem_cons.mpr ⟨tl12_311, List.forall_mem_cons.mpr ⟨tl12_319, List.forall_mem_cons.mpr ⟨tl12_321, List.forall_mem_cons.mpr ⟨tl12_323, List.forall_mem_cons.mpr ⟨tl12_325, List.forall_mem_cons.mpr ⟨tl12_327, List.forall_mem_cons.mpr ⟨tl12_332, List.forall_mem_cons.mpr ⟨tl12_334, List.forall_mem_cons.mpr ⟨tl12_368, List.forall_mem_cons.mpr ⟨tl12_396, fun _ h => absurd h List.not_mem_nil⟩⟩⟩⟩⟩⟩⟩⟩⟩⟩⟩⟩⟩⟩⟩⟩⟩⟩⟩
theorem m12_in_cd : Cond.code yX12_in cX12_in 3 (some .boolean) ∈ zt := zt_of (zq_7 (List.mem_of_getElem? (i := 153) rfl)) rfl
theorem m12_in_ni : Cond.initialized yX12_in.cls ∈ zt := zt_of (zq_1 (List.mem_of_getElem? (i := 14) rfl)) rfl
theorem m12_in_in : Cond.static yX12_in ∈ zt := zt_of (zq_7 (List.mem_of_getElem? (i := 152) rfl)) rfl
theorem m12_isBox_cd : Cond.code yX12_isBox cX12_isBox 2 (some .boolean) ∈ zt := zt_of (zq_7 (List.mem_of_getElem? (i := 161) rfl)) rfl
theorem m12_isBox_ni : Cond.initialized yX12_isBox.cls ∈ zt := zt_of (zq_1 (List.mem_of_getElem? (i := 14) rfl)) rfl
theorem m12_isBox_in : Cond.instanceMethod yX12_isBox ∈ zt := zt_of (zq_7 (List.mem_of_getElem? (i := 160) rfl)) rfl
theorem m12_isBox_se : Cond.selects (zRt 12) yX12_isBox yX12_isBox ∈ zt := zt_of (List.mem_of_getElem? (i := 56) rfl) rfl
theorem m12_isIn_cd : Cond.code yX12_isIn cX12_isIn 2 (some .boolean) ∈ zt := zt_of (zq_7 (List.mem_of_getElem? (i := 196) rfl)) rfl
theorem m12_isIn_ni : Cond.initialized yX12_isIn.cls ∈ zt := zt_of (zq_1 (List.mem_of_getElem? (i := 14) rfl)) rfl
theorem m12_isIn_in : Cond.static yX12_isIn ∈ zt := zt_of (zq_7 (List.mem_of_getElem? (i := 195) rfl)) rfl
theorem m12_bits_cd : Cond.code yX12_bits cX12_bits 3 (some .int) ∈ zt := zt_of (zq_8 (List.mem_of_getElem? (i := 176) rfl)) rfl
theorem m12_bits_ni : Cond.initialized yX12_bits.cls ∈ zt := zt_of (zq_1 (List.mem_of_getElem? (i := 14) rfl)) rfl
theorem m12_bits_in : Cond.static yX12_bits ∈ zt := zt_of (zq_8 (List.mem_of_getElem? (i := 175) rfl)) rfl
theorem m12_box_cd : Cond.code yX12_box cX12_box 4 (some .int) ∈ zt := zt_of (zq_7 (List.mem_of_getElem? (i := 150) rfl)) rfl
theorem m12_box_ni : Cond.initialized yX12_box.cls ∈ zt := zt_of (zq_1 (List.mem_of_getElem? (i := 14) rfl)) rfl
theorem m12_box_in : Cond.instanceMethod yX12_box ∈ zt := zt_of (zq_7 (List.mem_of_getElem? (i := 148) rfl)) rfl
theorem m12_box_se : Cond.selects (zRt 12) yX12_box yX12_box ∈ zt := zt_of (zq_7 (List.mem_of_getElem? (i := 149) rfl)) rfl
theorem m12_hears_cd : Cond.code yX12_hears cX12_hears 5 (some .int) ∈ zt := zt_of (zq_7 (List.mem_of_getElem? (i := 157) rfl)) rfl
theorem m12_hears_ni : Cond.initialized yX12_hears.cls ∈ zt := zt_of (zq_1 (List.mem_of_getElem? (i := 14) rfl)) rfl
theorem m12_hears_in : Cond.instanceMethod yX12_hears ∈ zt := zt_of (zq_7 (List.mem_of_getElem? (i := 155) rfl)) rfl
theorem m12_hears_se : Cond.selects (zRt 12) yX12_hears yX12_hears ∈ zt := zt_of (zq_7 (List.mem_of_getElem? (i := 156) rfl)) rfl
theorem m12_sleep_cd : Cond.code yX12_sleep cX12_sleep 4 (some .int) ∈ zt := zt_of (zq_7 (List.mem_of_getElem? (i := 165) rfl)) rfl
theorem m12_sleep_ni : Cond.initialized yX12_sleep.cls ∈ zt := zt_of (zq_1 (List.mem_of_getElem? (i := 14) rfl)) rfl
theorem m12_sleep_in : Cond.instanceMethod yX12_sleep ∈ zt := zt_of (zq_7 (List.mem_of_getElem? (i := 163) rfl)) rfl
theorem m12_sleep_se : Cond.selects (zRt 12) yX12_sleep yX12_sleep ∈ zt := zt_of (zq_7 (List.mem_of_getElem? (i := 164) rfl)) rfl
theorem m12_clock_cd : Cond.code yX12_clock cX12_clock 4 (some .int) ∈ zt := zt_of (zq_7 (List.mem_of_getElem? (i := 169) rfl)) rfl
theorem m12_clock_ni : Cond.initialized yX12_clock.cls ∈ zt := zt_of (zq_1 (List.mem_of_getElem? (i := 14) rfl)) rfl
theorem m12_clock_in : Cond.instanceMethod yX12_clock ∈ zt := zt_of (zq_7 (List.mem_of_getElem? (i := 167) rfl)) rfl
theorem m12_clock_se : Cond.selects (zRt 12) yX12_clock yX12_clock ∈ zt := zt_of (zq_7 (List.mem_of_getElem? (i := 168) rfl)) rfl
theorem m12_set_cd : Cond.code yX12_set cX12_set 4 (some .int) ∈ zt := zt_of (zq_7 (List.mem_of_getElem? (i := 173) rfl)) rfl
theorem m12_set_ni : Cond.initialized yX12_set.cls ∈ zt := zt_of (zq_1 (List.mem_of_getElem? (i := 14) rfl)) rfl
theorem m12_set_in : Cond.instanceMethod yX12_set ∈ zt := zt_of (zq_7 (List.mem_of_getElem? (i := 171) rfl)) rfl
theorem m12_set_se : Cond.selects (zRt 12) yX12_set yX12_set ∈ zt := zt_of (zq_7 (List.mem_of_getElem? (i := 172) rfl)) rfl
theorem m12_power_cd : Cond.code yX12_power cX12_power 4 (some .int) ∈ zt := zt_of (zq_7 (List.mem_of_getElem? (i := 177) rfl)) rfl
theorem m12_power_ni : Cond.initialized yX12_power.cls ∈ zt := zt_of (zq_1 (List.mem_of_getElem? (i := 14) rfl)) rfl
theorem m12_power_in : Cond.instanceMethod yX12_power ∈ zt := zt_of (zq_7 (List.mem_of_getElem? (i := 175) rfl)) rfl
theorem m12_power_se : Cond.selects (zRt 12) yX12_power yX12_power ∈ zt := zt_of (zq_7 (List.mem_of_getElem? (i := 176) rfl)) rfl
theorem m12_local_cd : Cond.code yX12_local cX12_local 3 (some .int) ∈ zt := zt_of (zq_7 (List.mem_of_getElem? (i := 189) rfl)) rfl
theorem m12_local_ni : Cond.initialized yX12_local.cls ∈ zt := zt_of (zq_1 (List.mem_of_getElem? (i := 14) rfl)) rfl
theorem m12_local_in : Cond.instanceMethod yX12_local ∈ zt := zt_of (zq_7 (List.mem_of_getElem? (i := 188) rfl)) rfl
theorem m12_local_se : Cond.selects (zRt 12) yX12_local yX12_local ∈ zt := zt_of (List.mem_of_getElem? (i := 58) rfl) rfl
theorem m12_isOn_cd : Cond.code yX12_isOn cX12_isOn 4 (some .boolean) ∈ zt := zt_of (zq_7 (List.mem_of_getElem? (i := 193) rfl)) rfl
theorem m12_isOn_ni : Cond.initialized yX12_isOn.cls ∈ zt := zt_of (zq_1 (List.mem_of_getElem? (i := 14) rfl)) rfl
theorem m12_isOn_in : Cond.instanceMethod yX12_isOn ∈ zt := zt_of (zq_7 (List.mem_of_getElem? (i := 192) rfl)) rfl
theorem m12_isOn_se : Cond.selects (zRt 12) yX12_isOn yX12_isOn ∈ zt := zt_of (List.mem_of_getElem? (i := 59) rfl) rfl
theorem m12_countOf_cd : Cond.code yX12_countOf cX12_countOf 2 (some .int) ∈ zt := zt_of (zq_7 (List.mem_of_getElem? (i := 185) rfl)) rfl
theorem m12_countOf_ni : Cond.initialized yX12_countOf.cls ∈ zt := zt_of (zq_1 (List.mem_of_getElem? (i := 14) rfl)) rfl
theorem m12_countOf_in : Cond.instanceMethod yX12_countOf ∈ zt := zt_of (zq_7 (List.mem_of_getElem? (i := 184) rfl)) rfl
theorem m12_countOf_se : Cond.selects (zRt 12) yX12_countOf yX12_countOf ∈ zt := zt_of (List.mem_of_getElem? (i := 57) rfl) rfl
theorem m12_at_cd : Cond.code yX12_at cX12_at 3 (some .int) ∈ zt := zt_of (zq_7 (List.mem_of_getElem? (i := 181) rfl)) rfl
theorem m12_at_ni : Cond.initialized yX12_at.cls ∈ zt := zt_of (zq_1 (List.mem_of_getElem? (i := 14) rfl)) rfl
theorem m12_at_in : Cond.instanceMethod yX12_at ∈ zt := zt_of (zq_7 (List.mem_of_getElem? (i := 179) rfl)) rfl
theorem m12_at_se : Cond.selects (zRt 12) yX12_at yX12_at ∈ zt := zt_of (zq_7 (List.mem_of_getElem? (i := 180) rfl)) rfl
theorem m12_areMates_cd : Cond.code yX12_areMates cX12_areMates 3 (some .boolean) ∈ zt := zt_of (zq_7 (List.mem_of_getElem? (i := 208) rfl)) rfl
theorem m12_areMates_ni : Cond.initialized yX12_areMates.cls ∈ zt := zt_of (zq_1 (List.mem_of_getElem? (i := 14) rfl)) rfl
theorem m12_areMates_in : Cond.instanceMethod yX12_areMates ∈ zt := zt_of (zq_7 (List.mem_of_getElem? (i := 207) rfl)) rfl
theorem m12_areMates_se : Cond.selects (zRt 12) yX12_areMates yX12_areMates ∈ zt := zt_of (List.mem_of_getElem? (i := 61) rfl) rfl
theorem m12_goRound_cd : Cond.code yX12_goRound cX12_goRound 6 (some .boolean) ∈ zt := zt_of (zq_7 (List.mem_of_getElem? (i := 204) rfl)) rfl
theorem m12_goRound_ni : Cond.initialized yX12_goRound.cls ∈ zt := zt_of (zq_1 (List.mem_of_getElem? (i := 14) rfl)) rfl
theorem m12_goRound_in : Cond.instanceMethod yX12_goRound ∈ zt := zt_of (zq_7 (List.mem_of_getElem? (i := 203) rfl)) rfl
theorem m12_goRound_se : Cond.selects (zRt 12) yX12_goRound yX12_goRound ∈ zt := zt_of (List.mem_of_getElem? (i := 60) rfl) rfl
theorem m12_rounds_cd : Cond.code yX12_rounds cX12_rounds 4 (some .int) ∈ zt := zt_of (zq_7 (List.mem_of_getElem? (i := 200) rfl)) rfl
theorem m12_rounds_ni : Cond.initialized yX12_rounds.cls ∈ zt := zt_of (zq_1 (List.mem_of_getElem? (i := 14) rfl)) rfl
theorem m12_rounds_in : Cond.instanceMethod yX12_rounds ∈ zt := zt_of (zq_7 (List.mem_of_getElem? (i := 198) rfl)) rfl
theorem m12_rounds_se : Cond.selects (zRt 12) yX12_rounds yX12_rounds ∈ zt := zt_of (zq_7 (List.mem_of_getElem? (i := 199) rfl)) rfl
theorem m12_rings_cd : Cond.code yX12_rings cX12_rings 6 (some .int) ∈ zt := zt_of (zq_7 (List.mem_of_getElem? (i := 212) rfl)) rfl
theorem m12_rings_ni : Cond.initialized yX12_rings.cls ∈ zt := zt_of (zq_1 (List.mem_of_getElem? (i := 14) rfl)) rfl
theorem m12_rings_in : Cond.instanceMethod yX12_rings ∈ zt := zt_of (zq_7 (List.mem_of_getElem? (i := 210) rfl)) rfl
theorem m12_rings_se : Cond.selects (zRt 12) yX12_rings yX12_rings ∈ zt := zt_of (zq_7 (List.mem_of_getElem? (i := 211) rfl)) rfl
theorem m12_say_cd : Cond.code yX12_say cX12_say 4 (some .int) ∈ zt := zt_of (zq_7 (List.mem_of_getElem? (i := 216) rfl)) rfl
theorem m12_say_ni : Cond.initialized yX12_say.cls ∈ zt := zt_of (zq_1 (List.mem_of_getElem? (i := 14) rfl)) rfl
theorem m12_say_in : Cond.instanceMethod yX12_say ∈ zt := zt_of (zq_7 (List.mem_of_getElem? (i := 214) rfl)) rfl
theorem m12_say_se : Cond.selects (zRt 12) yX12_say yX12_say ∈ zt := zt_of (zq_7 (List.mem_of_getElem? (i := 215) rfl)) rfl
theorem m12_spend_cd : Cond.code yX12_spend cX12_spend 3 (none) ∈ zt := zt_of (zq_7 (List.mem_of_getElem? (i := 228) rfl)) rfl
theorem m12_spend_ni : Cond.initialized yX12_spend.cls ∈ zt := zt_of (zq_1 (List.mem_of_getElem? (i := 14) rfl)) rfl
theorem m12_spend_in : Cond.instanceMethod yX12_spend ∈ zt := zt_of (zq_7 (List.mem_of_getElem? (i := 227) rfl)) rfl
theorem m12_spend_se : Cond.selects (zRt 12) yX12_spend yX12_spend ∈ zt := zt_of (List.mem_of_getElem? (i := 63) rfl) rfl
theorem m12_emptySum_cd : Cond.code yX12_emptySum cX12_emptySum 3 (none) ∈ zt := zt_of (zq_8 (List.mem_of_getElem? (i := 0) rfl)) rfl
theorem m12_emptySum_ni : Cond.initialized yX12_emptySum.cls ∈ zt := zt_of (zq_1 (List.mem_of_getElem? (i := 14) rfl)) rfl
theorem m12_emptySum_in : Cond.instanceMethod yX12_emptySum ∈ zt := zt_of (zq_7 (List.mem_of_getElem? (i := 239) rfl)) rfl
theorem m12_emptySum_se : Cond.selects (zRt 12) yX12_emptySum yX12_emptySum ∈ zt := zt_of (List.mem_of_getElem? (i := 66) rfl) rfl
theorem m12_join_cd : Cond.code yX12_join cX12_join 9 (none) ∈ zt := zt_of (zq_8 (List.mem_of_getElem? (i := 8) rfl)) rfl
theorem m12_join_ni : Cond.initialized yX12_join.cls ∈ zt := zt_of (zq_1 (List.mem_of_getElem? (i := 14) rfl)) rfl
theorem m12_join_in : Cond.instanceMethod yX12_join ∈ zt := zt_of (zq_8 (List.mem_of_getElem? (i := 7) rfl)) rfl
theorem m12_join_se : Cond.selects (zRt 12) yX12_join yX12_join ∈ zt := zt_of (List.mem_of_getElem? (i := 68) rfl) rfl
theorem m12_takeSums_cd : Cond.code yX12_takeSums cX12_takeSums 5 (some .int) ∈ zt := zt_of (zq_7 (List.mem_of_getElem? (i := 236) rfl)) rfl
theorem m12_takeSums_ni : Cond.initialized yX12_takeSums.cls ∈ zt := zt_of (zq_1 (List.mem_of_getElem? (i := 14) rfl)) rfl
theorem m12_takeSums_in : Cond.instanceMethod yX12_takeSums ∈ zt := zt_of (zq_7 (List.mem_of_getElem? (i := 235) rfl)) rfl
theorem m12_takeSums_se : Cond.selects (zRt 12) yX12_takeSums yX12_takeSums ∈ zt := zt_of (List.mem_of_getElem? (i := 65) rfl) rfl
theorem m12_meets_cd : Cond.code yX12_meets cX12_meets 6 (some .boolean) ∈ zt := zt_of (zq_8 (List.mem_of_getElem? (i := 4) rfl)) rfl
theorem m12_meets_ni : Cond.initialized yX12_meets.cls ∈ zt := zt_of (zq_1 (List.mem_of_getElem? (i := 14) rfl)) rfl
theorem m12_meets_in : Cond.instanceMethod yX12_meets ∈ zt := zt_of (zq_8 (List.mem_of_getElem? (i := 3) rfl)) rfl
theorem m12_meets_se : Cond.selects (zRt 12) yX12_meets yX12_meets ∈ zt := zt_of (List.mem_of_getElem? (i := 67) rfl) rfl
theorem m12_beginEpoch_cd : Cond.code yX12_beginEpoch cX12_beginEpoch 5 (none) ∈ zt := zt_of (zq_7 (List.mem_of_getElem? (i := 232) rfl)) rfl
theorem m12_beginEpoch_ni : Cond.initialized yX12_beginEpoch.cls ∈ zt := zt_of (zq_1 (List.mem_of_getElem? (i := 14) rfl)) rfl
theorem m12_beginEpoch_in : Cond.instanceMethod yX12_beginEpoch ∈ zt := zt_of (zq_7 (List.mem_of_getElem? (i := 231) rfl)) rfl
theorem m12_beginEpoch_se : Cond.selects (zRt 12) yX12_beginEpoch yX12_beginEpoch ∈ zt := zt_of (List.mem_of_getElem? (i := 64) rfl) rfl
theorem m12_putOnRow_cd : Cond.code yX12_putOnRow cX12_putOnRow 6 (none) ∈ zt := zt_of (zq_8 (List.mem_of_getElem? (i := 32) rfl)) rfl
theorem m12_putOnRow_ni : Cond.initialized yX12_putOnRow.cls ∈ zt := zt_of (zq_1 (List.mem_of_getElem? (i := 14) rfl)) rfl
theorem m12_putOnRow_in : Cond.instanceMethod yX12_putOnRow ∈ zt := zt_of (zq_8 (List.mem_of_getElem? (i := 31) rfl)) rfl
theorem m12_putOnRow_se : Cond.selects (zRt 12) yX12_putOnRow yX12_putOnRow ∈ zt := zt_of (List.mem_of_getElem? (i := 74) rfl) rfl
theorem m12_queueSums_cd : Cond.code yX12_queueSums cX12_queueSums 7 (none) ∈ zt := zt_of (zq_8 (List.mem_of_getElem? (i := 12) rfl)) rfl
theorem m12_queueSums_ni : Cond.initialized yX12_queueSums.cls ∈ zt := zt_of (zq_1 (List.mem_of_getElem? (i := 14) rfl)) rfl
theorem m12_queueSums_in : Cond.instanceMethod yX12_queueSums ∈ zt := zt_of (zq_8 (List.mem_of_getElem? (i := 11) rfl)) rfl
theorem m12_queueSums_se : Cond.selects (zRt 12) yX12_queueSums yX12_queueSums ∈ zt := zt_of (List.mem_of_getElem? (i := 69) rfl) rfl
theorem m12_speak_cd : Cond.code yX12_speak cX12_speak 3 (none) ∈ zt := zt_of (zq_8 (List.mem_of_getElem? (i := 16) rfl)) rfl
theorem m12_speak_ni : Cond.initialized yX12_speak.cls ∈ zt := zt_of (zq_1 (List.mem_of_getElem? (i := 14) rfl)) rfl
theorem m12_speak_in : Cond.instanceMethod yX12_speak ∈ zt := zt_of (zq_8 (List.mem_of_getElem? (i := 15) rfl)) rfl
theorem m12_speak_se : Cond.selects (zRt 12) yX12_speak yX12_speak ∈ zt := zt_of (List.mem_of_getElem? (i := 70) rfl) rfl
theorem m12_listen_cd : Cond.code yX12_listen cX12_listen 3 (none) ∈ zt := zt_of (zq_8 (List.mem_of_getElem? (i := 20) rfl)) rfl
theorem m12_listen_ni : Cond.initialized yX12_listen.cls ∈ zt := zt_of (zq_1 (List.mem_of_getElem? (i := 14) rfl)) rfl
theorem m12_listen_in : Cond.instanceMethod yX12_listen ∈ zt := zt_of (zq_8 (List.mem_of_getElem? (i := 19) rfl)) rfl
theorem m12_listen_se : Cond.selects (zRt 12) yX12_listen yX12_listen ∈ zt := zt_of (List.mem_of_getElem? (i := 71) rfl) rfl
theorem m12_getWord_cd : Cond.code yX12_getWord cX12_getWord 5 (none) ∈ zt := zt_of (zq_8 (List.mem_of_getElem? (i := 28) rfl)) rfl
theorem m12_getWord_ni : Cond.initialized yX12_getWord.cls ∈ zt := zt_of (zq_1 (List.mem_of_getElem? (i := 14) rfl)) rfl
theorem m12_getWord_in : Cond.instanceMethod yX12_getWord ∈ zt := zt_of (zq_8 (List.mem_of_getElem? (i := 27) rfl)) rfl
theorem m12_getWord_se : Cond.selects (zRt 12) yX12_getWord yX12_getWord ∈ zt := zt_of (List.mem_of_getElem? (i := 73) rfl) rfl
theorem m12_deliver_cd : Cond.code yX12_deliver cX12_deliver 3 (none) ∈ zt := zt_of (zq_8 (List.mem_of_getElem? (i := 24) rfl)) rfl
theorem m12_deliver_ni : Cond.initialized yX12_deliver.cls ∈ zt := zt_of (zq_1 (List.mem_of_getElem? (i := 14) rfl)) rfl
theorem m12_deliver_in : Cond.instanceMethod yX12_deliver ∈ zt := zt_of (zq_8 (List.mem_of_getElem? (i := 23) rfl)) rfl
theorem m12_deliver_se : Cond.selects (zRt 12) yX12_deliver yX12_deliver ∈ zt := zt_of (List.mem_of_getElem? (i := 72) rfl) rfl
theorem m12_goTick_cd : Cond.code yX12_goTick cX12_goTick 4 (none) ∈ zt := zt_of (zq_7 (List.mem_of_getElem? (i := 224) rfl)) rfl
theorem m12_goTick_ni : Cond.initialized yX12_goTick.cls ∈ zt := zt_of (zq_1 (List.mem_of_getElem? (i := 14) rfl)) rfl
theorem m12_goTick_in : Cond.instanceMethod yX12_goTick ∈ zt := zt_of (zq_7 (List.mem_of_getElem? (i := 223) rfl)) rfl
theorem m12_goTick_se : Cond.selects (zRt 12) yX12_goTick yX12_goTick ∈ zt := zt_of (List.mem_of_getElem? (i := 62) rfl) rfl
theorem m12_ticks_cd : Cond.code yX12_ticks cX12_ticks 3 (some .int) ∈ zt := zt_of (zq_7 (List.mem_of_getElem? (i := 220) rfl)) rfl
theorem m12_ticks_ni : Cond.initialized yX12_ticks.cls ∈ zt := zt_of (zq_1 (List.mem_of_getElem? (i := 14) rfl)) rfl
theorem m12_ticks_in : Cond.instanceMethod yX12_ticks ∈ zt := zt_of (zq_7 (List.mem_of_getElem? (i := 218) rfl)) rfl
theorem m12_ticks_se : Cond.selects (zRt 12) yX12_ticks yX12_ticks ∈ zt := zt_of (zq_7 (List.mem_of_getElem? (i := 219) rfl)) rfl
theorem m12_lost_cd : Cond.code yX12_lost cX12_lost 2 (some .int) ∈ zt := zt_of (zq_8 (List.mem_of_getElem? (i := 36) rfl)) rfl
theorem m12_lost_ni : Cond.initialized yX12_lost.cls ∈ zt := zt_of (zq_1 (List.mem_of_getElem? (i := 14) rfl)) rfl
theorem m12_lost_in : Cond.instanceMethod yX12_lost ∈ zt := zt_of (zq_8 (List.mem_of_getElem? (i := 34) rfl)) rfl
theorem m12_lost_se : Cond.selects (zRt 12) yX12_lost yX12_lost ∈ zt := zt_of (zq_8 (List.mem_of_getElem? (i := 35) rfl)) rfl
theorem m12_kept_cd : Cond.code yX12_kept cX12_kept 2 (some .int) ∈ zt := zt_of (zq_8 (List.mem_of_getElem? (i := 40) rfl)) rfl
theorem m12_kept_ni : Cond.initialized yX12_kept.cls ∈ zt := zt_of (zq_1 (List.mem_of_getElem? (i := 14) rfl)) rfl
theorem m12_kept_in : Cond.instanceMethod yX12_kept ∈ zt := zt_of (zq_8 (List.mem_of_getElem? (i := 38) rfl)) rfl
theorem m12_kept_se : Cond.selects (zRt 12) yX12_kept yX12_kept ∈ zt := zt_of (zq_8 (List.mem_of_getElem? (i := 39) rfl)) rfl
theorem m12_write_cd : Cond.code yX12_write cX12_write 5 (some .int) ∈ zt := zt_of (zq_8 (List.mem_of_getElem? (i := 44) rfl)) rfl
theorem m12_write_ni : Cond.initialized yX12_write.cls ∈ zt := zt_of (zq_1 (List.mem_of_getElem? (i := 14) rfl)) rfl
theorem m12_write_in : Cond.instanceMethod yX12_write ∈ zt := zt_of (zq_8 (List.mem_of_getElem? (i := 42) rfl)) rfl
theorem m12_write_se : Cond.selects (zRt 12) yX12_write yX12_write ∈ zt := zt_of (zq_8 (List.mem_of_getElem? (i := 43) rfl)) rfl
theorem m12_erase_cd : Cond.code yX12_erase cX12_erase 2 (some .int) ∈ zt := zt_of (zq_8 (List.mem_of_getElem? (i := 49) rfl)) rfl
theorem m12_erase_ni : Cond.initialized yX12_erase.cls ∈ zt := zt_of (zq_1 (List.mem_of_getElem? (i := 14) rfl)) rfl
theorem m12_erase_in : Cond.instanceMethod yX12_erase ∈ zt := zt_of (zq_8 (List.mem_of_getElem? (i := 47) rfl)) rfl
theorem m12_erase_se : Cond.selects (zRt 12) yX12_erase yX12_erase ∈ zt := zt_of (zq_8 (List.mem_of_getElem? (i := 48) rfl)) rfl
theorem m12_nextToken_cd : Cond.code yX12_nextToken cX12_nextToken 1 (none) ∈ zt := zt_of (zq_8 (List.mem_of_getElem? (i := 61) rfl)) rfl
theorem m12_nextToken_ni : Cond.initialized yX12_nextToken.cls ∈ zt := zt_of (zq_1 (List.mem_of_getElem? (i := 14) rfl)) rfl
theorem m12_nextToken_in : Cond.instanceMethod yX12_nextToken ∈ zt := zt_of (zq_8 (List.mem_of_getElem? (i := 60) rfl)) rfl
theorem m12_nextToken_se : Cond.selects (zRt 12) yX12_nextToken yX12_nextToken ∈ zt := zt_of (List.mem_of_getElem? (i := 76) rfl) rfl
theorem m12_isWord_cd : Cond.code yX12_isWord cX12_isWord 3 (some .boolean) ∈ zt := zt_of (zq_8 (List.mem_of_getElem? (i := 70) rfl)) rfl
theorem m12_isWord_ni : Cond.initialized yX12_isWord.cls ∈ zt := zt_of (zq_1 (List.mem_of_getElem? (i := 14) rfl)) rfl
theorem m12_isWord_in : Cond.instanceMethod yX12_isWord ∈ zt := zt_of (zq_8 (List.mem_of_getElem? (i := 69) rfl)) rfl
theorem m12_isWord_se : Cond.selects (zRt 12) yX12_isWord yX12_isWord ∈ zt := zt_of (List.mem_of_getElem? (i := 77) rfl) rfl
theorem m12_isNumber_cd : Cond.code yX12_isNumber cX12_isNumber 3 (some .boolean) ∈ zt := zt_of (zq_8 (List.mem_of_getElem? (i := 86) rfl)) rfl
theorem m12_isNumber_ni : Cond.initialized yX12_isNumber.cls ∈ zt := zt_of (zq_1 (List.mem_of_getElem? (i := 14) rfl)) rfl
theorem m12_isNumber_in : Cond.instanceMethod yX12_isNumber ∈ zt := zt_of (zq_8 (List.mem_of_getElem? (i := 85) rfl)) rfl
theorem m12_isNumber_se : Cond.selects (zRt 12) yX12_isNumber yX12_isNumber ∈ zt := zt_of (List.mem_of_getElem? (i := 79) rfl) rfl
theorem m12_fails_cd : Cond.code yX12_fails cX12_fails 1 (some .boolean) ∈ zt := zt_of (zq_8 (List.mem_of_getElem? (i := 77) rfl)) rfl
theorem m12_fails_ni : Cond.initialized yX12_fails.cls ∈ zt := zt_of (zq_1 (List.mem_of_getElem? (i := 14) rfl)) rfl
theorem m12_fails_in : Cond.instanceMethod yX12_fails ∈ zt := zt_of (zq_8 (List.mem_of_getElem? (i := 76) rfl)) rfl
theorem m12_fails_se : Cond.selects (zRt 12) yX12_fails yX12_fails ∈ zt := zt_of (List.mem_of_getElem? (i := 78) rfl) rfl
theorem m12_isRead_cd : Cond.code yX12_isRead cX12_isRead 2 (some .boolean) ∈ zt := zt_of (zq_8 (List.mem_of_getElem? (i := 57) rfl)) rfl
theorem m12_isRead_ni : Cond.initialized yX12_isRead.cls ∈ zt := zt_of (zq_1 (List.mem_of_getElem? (i := 14) rfl)) rfl
theorem m12_isRead_in : Cond.instanceMethod yX12_isRead ∈ zt := zt_of (zq_8 (List.mem_of_getElem? (i := 56) rfl)) rfl
theorem m12_isRead_se : Cond.selects (zRt 12) yX12_isRead yX12_isRead ∈ zt := zt_of (List.mem_of_getElem? (i := 75) rfl) rfl
theorem m12_fault_cd : Cond.code yX12_fault cX12_fault 1 (some .int) ∈ zt := zt_of (zq_8 (List.mem_of_getElem? (i := 53) rfl)) rfl
theorem m12_fault_ni : Cond.initialized yX12_fault.cls ∈ zt := zt_of (zq_1 (List.mem_of_getElem? (i := 14) rfl)) rfl
theorem m12_fault_in : Cond.instanceMethod yX12_fault ∈ zt := zt_of (zq_8 (List.mem_of_getElem? (i := 51) rfl)) rfl
theorem m12_fault_se : Cond.selects (zRt 12) yX12_fault yX12_fault ∈ zt := zt_of (zq_8 (List.mem_of_getElem? (i := 52) rfl)) rfl
theorem m12_ask_cd : Cond.code yX12_ask cX12_ask 2 (some .int) ∈ zt := zt_of (zq_8 (List.mem_of_getElem? (i := 92) rfl)) rfl
theorem m12_ask_ni : Cond.initialized yX12_ask.cls ∈ zt := zt_of (zq_1 (List.mem_of_getElem? (i := 14) rfl)) rfl
theorem m12_ask_in : Cond.instanceMethod yX12_ask ∈ zt := zt_of (zq_8 (List.mem_of_getElem? (i := 90) rfl)) rfl
theorem m12_ask_se : Cond.selects (zRt 12) yX12_ask yX12_ask ∈ zt := zt_of (zq_8 (List.mem_of_getElem? (i := 91) rfl)) rfl
theorem m12_loud_cd : Cond.code yX12_loud cX12_loud 5 (some .int) ∈ zt := zt_of (zq_8 (List.mem_of_getElem? (i := 96) rfl)) rfl
theorem m12_loud_ni : Cond.initialized yX12_loud.cls ∈ zt := zt_of (zq_1 (List.mem_of_getElem? (i := 14) rfl)) rfl
theorem m12_loud_in : Cond.instanceMethod yX12_loud ∈ zt := zt_of (zq_8 (List.mem_of_getElem? (i := 94) rfl)) rfl
theorem m12_loud_se : Cond.selects (zRt 12) yX12_loud yX12_loud ∈ zt := zt_of (zq_8 (List.mem_of_getElem? (i := 95) rfl)) rfl
theorem m12_lies_cd : Cond.code yX12_lies cX12_lies 4 (some .int) ∈ zt := zt_of (zq_8 (List.mem_of_getElem? (i := 100) rfl)) rfl
theorem m12_lies_ni : Cond.initialized yX12_lies.cls ∈ zt := zt_of (zq_1 (List.mem_of_getElem? (i := 14) rfl)) rfl
theorem m12_lies_in : Cond.instanceMethod yX12_lies ∈ zt := zt_of (zq_8 (List.mem_of_getElem? (i := 98) rfl)) rfl
theorem m12_lies_se : Cond.selects (zRt 12) yX12_lies yX12_lies ∈ zt := zt_of (zq_8 (List.mem_of_getElem? (i := 99) rfl)) rfl
theorem m12_common_cd : Cond.code yX12_common cX12_common 5 (some .int) ∈ zt := zt_of (zq_8 (List.mem_of_getElem? (i := 107) rfl)) rfl
theorem m12_common_ni : Cond.initialized yX12_common.cls ∈ zt := zt_of (zq_1 (List.mem_of_getElem? (i := 14) rfl)) rfl
theorem m12_common_in : Cond.static yX12_common ∈ zt := zt_of (zq_8 (List.mem_of_getElem? (i := 106) rfl)) rfl
theorem m12_result_cd : Cond.code yX12_result cX12_result 4 (some .int) ∈ zt := zt_of (zq_8 (List.mem_of_getElem? (i := 104) rfl)) rfl
theorem m12_result_ni : Cond.initialized yX12_result.cls ∈ zt := zt_of (zq_1 (List.mem_of_getElem? (i := 14) rfl)) rfl
theorem m12_result_in : Cond.instanceMethod yX12_result ∈ zt := zt_of (zq_8 (List.mem_of_getElem? (i := 102) rfl)) rfl
theorem m12_result_se : Cond.selects (zRt 12) yX12_result yX12_result ∈ zt := zt_of (zq_8 (List.mem_of_getElem? (i := 103) rfl)) rfl
theorem m12_isEpoch_cd : Cond.code yX12_isEpoch cX12_isEpoch 2 (some .boolean) ∈ zt := zt_of (zq_8 (List.mem_of_getElem? (i := 123) rfl)) rfl
theorem m12_isEpoch_ni : Cond.initialized yX12_isEpoch.cls ∈ zt := zt_of (zq_1 (List.mem_of_getElem? (i := 14) rfl)) rfl
theorem m12_isEpoch_in : Cond.instanceMethod yX12_isEpoch ∈ zt := zt_of (zq_8 (List.mem_of_getElem? (i := 122) rfl)) rfl
theorem m12_isEpoch_se : Cond.selects (zRt 12) yX12_isEpoch yX12_isEpoch ∈ zt := zt_of (List.mem_of_getElem? (i := 82) rfl) rfl
theorem m12_foretoldFor_cd : Cond.code yX12_foretoldFor cX12_foretoldFor 7 (some .int) ∈ zt := zt_of (zq_8 (List.mem_of_getElem? (i := 119) rfl)) rfl
theorem m12_foretoldFor_ni : Cond.initialized yX12_foretoldFor.cls ∈ zt := zt_of (zq_1 (List.mem_of_getElem? (i := 14) rfl)) rfl
theorem m12_foretoldFor_in : Cond.instanceMethod yX12_foretoldFor ∈ zt := zt_of (zq_8 (List.mem_of_getElem? (i := 118) rfl)) rfl
theorem m12_foretoldFor_se : Cond.selects (zRt 12) yX12_foretoldFor yX12_foretoldFor ∈ zt := zt_of (List.mem_of_getElem? (i := 81) rfl) rfl
theorem m12_childrenOf_cd : Cond.code yX12_childrenOf cX12_childrenOf 4 (some .int) ∈ zt := zt_of (zq_8 (List.mem_of_getElem? (i := 115) rfl)) rfl
theorem m12_childrenOf_ni : Cond.initialized yX12_childrenOf.cls ∈ zt := zt_of (zq_1 (List.mem_of_getElem? (i := 14) rfl)) rfl
theorem m12_childrenOf_in : Cond.instanceMethod yX12_childrenOf ∈ zt := zt_of (zq_8 (List.mem_of_getElem? (i := 114) rfl)) rfl
theorem m12_childrenOf_se : Cond.selects (zRt 12) yX12_childrenOf yX12_childrenOf ∈ zt := zt_of (List.mem_of_getElem? (i := 80) rfl) rfl
theorem m12_foretold_cd : Cond.code yX12_foretold cX12_foretold 3 (some .int) ∈ zt := zt_of (zq_8 (List.mem_of_getElem? (i := 111) rfl)) rfl
theorem m12_foretold_ni : Cond.initialized yX12_foretold.cls ∈ zt := zt_of (zq_1 (List.mem_of_getElem? (i := 14) rfl)) rfl
theorem m12_foretold_in : Cond.instanceMethod yX12_foretold ∈ zt := zt_of (zq_8 (List.mem_of_getElem? (i := 109) rfl)) rfl
theorem m12_foretold_se : Cond.selects (zRt 12) yX12_foretold yX12_foretold ∈ zt := zt_of (zq_8 (List.mem_of_getElem? (i := 110) rfl)) rfl
theorem m12_lifeFor_cd : Cond.code yX12_lifeFor cX12_lifeFor 7 (some .int) ∈ zt := zt_of (zq_8 (List.mem_of_getElem? (i := 131) rfl)) rfl
theorem m12_lifeFor_ni : Cond.initialized yX12_lifeFor.cls ∈ zt := zt_of (zq_1 (List.mem_of_getElem? (i := 14) rfl)) rfl
theorem m12_lifeFor_in : Cond.instanceMethod yX12_lifeFor ∈ zt := zt_of (zq_8 (List.mem_of_getElem? (i := 130) rfl)) rfl
theorem m12_lifeFor_se : Cond.selects (zRt 12) yX12_lifeFor yX12_lifeFor ∈ zt := zt_of (List.mem_of_getElem? (i := 83) rfl) rfl
theorem m12_life_cd : Cond.code yX12_life cX12_life 2 (some .int) ∈ zt := zt_of (zq_8 (List.mem_of_getElem? (i := 127) rfl)) rfl
theorem m12_life_ni : Cond.initialized yX12_life.cls ∈ zt := zt_of (zq_1 (List.mem_of_getElem? (i := 14) rfl)) rfl
theorem m12_life_in : Cond.instanceMethod yX12_life ∈ zt := zt_of (zq_8 (List.mem_of_getElem? (i := 125) rfl)) rfl
theorem m12_life_se : Cond.selects (zRt 12) yX12_life yX12_life ∈ zt := zt_of (zq_8 (List.mem_of_getElem? (i := 126) rfl)) rfl
theorem m12_findHome_cd : Cond.code yX12_findHome cX12_findHome 4 (none) ∈ zt := zt_of (zq_8 (List.mem_of_getElem? (i := 143) rfl)) rfl
theorem m12_findHome_ni : Cond.initialized yX12_findHome.cls ∈ zt := zt_of (zq_1 (List.mem_of_getElem? (i := 14) rfl)) rfl
theorem m12_findHome_in : Cond.instanceMethod yX12_findHome ∈ zt := zt_of (zq_8 (List.mem_of_getElem? (i := 142) rfl)) rfl
theorem m12_findHome_se : Cond.selects (zRt 12) yX12_findHome yX12_findHome ∈ zt := zt_of (List.mem_of_getElem? (i := 85) rfl) rfl
theorem m12_mayLead_cd : Cond.code yX12_mayLead cX12_mayLead 3 (some .boolean) ∈ zt := zt_of (zq_8 (List.mem_of_getElem? (i := 147) rfl)) rfl
theorem m12_mayLead_ni : Cond.initialized yX12_mayLead.cls ∈ zt := zt_of (zq_1 (List.mem_of_getElem? (i := 14) rfl)) rfl
theorem m12_mayLead_in : Cond.instanceMethod yX12_mayLead ∈ zt := zt_of (zq_8 (List.mem_of_getElem? (i := 146) rfl)) rfl
theorem m12_mayLead_se : Cond.selects (zRt 12) yX12_mayLead yX12_mayLead ∈ zt := zt_of (List.mem_of_getElem? (i := 86) rfl) rfl
theorem m12_leastLife_cd : Cond.code yX12_leastLife cX12_leastLife 5 (some .int) ∈ zt := zt_of (zq_8 (List.mem_of_getElem? (i := 156) rfl)) rfl
theorem m12_leastLife_ni : Cond.initialized yX12_leastLife.cls ∈ zt := zt_of (zq_1 (List.mem_of_getElem? (i := 14) rfl)) rfl
theorem m12_leastLife_in : Cond.instanceMethod yX12_leastLife ∈ zt := zt_of (zq_8 (List.mem_of_getElem? (i := 155) rfl)) rfl
theorem m12_leastLife_se : Cond.selects (zRt 12) yX12_leastLife yX12_leastLife ∈ zt := zt_of (List.mem_of_getElem? (i := 88) rfl) rfl
theorem m12_firstFor_cd : Cond.code yX12_firstFor cX12_firstFor 3 (some .int) ∈ zt := zt_of (zq_8 (List.mem_of_getElem? (i := 151) rfl)) rfl
theorem m12_firstFor_ni : Cond.initialized yX12_firstFor.cls ∈ zt := zt_of (zq_1 (List.mem_of_getElem? (i := 14) rfl)) rfl
theorem m12_firstFor_in : Cond.instanceMethod yX12_firstFor ∈ zt := zt_of (zq_8 (List.mem_of_getElem? (i := 150) rfl)) rfl
theorem m12_firstFor_se : Cond.selects (zRt 12) yX12_firstFor yX12_firstFor ∈ zt := zt_of (List.mem_of_getElem? (i := 87) rfl) rfl
theorem m12_hasNextTree_cd : Cond.code yX12_hasNextTree cX12_hasNextTree 3 (some .boolean) ∈ zt := zt_of (zq_8 (List.mem_of_getElem? (i := 160) rfl)) rfl
theorem m12_hasNextTree_ni : Cond.initialized yX12_hasNextTree.cls ∈ zt := zt_of (zq_1 (List.mem_of_getElem? (i := 14) rfl)) rfl
theorem m12_hasNextTree_in : Cond.instanceMethod yX12_hasNextTree ∈ zt := zt_of (zq_8 (List.mem_of_getElem? (i := 159) rfl)) rfl
theorem m12_hasNextTree_se : Cond.selects (zRt 12) yX12_hasNextTree yX12_hasNextTree ∈ zt := zt_of (List.mem_of_getElem? (i := 89) rfl) rfl
theorem m12_findLongest_cd : Cond.code yX12_findLongest cX12_findLongest 6 (some .boolean) ∈ zt := zt_of (zq_8 (List.mem_of_getElem? (i := 139) rfl)) rfl
theorem m12_findLongest_ni : Cond.initialized yX12_findLongest.cls ∈ zt := zt_of (zq_1 (List.mem_of_getElem? (i := 14) rfl)) rfl
theorem m12_findLongest_in : Cond.instanceMethod yX12_findLongest ∈ zt := zt_of (zq_8 (List.mem_of_getElem? (i := 138) rfl)) rfl
theorem m12_findLongest_se : Cond.selects (zRt 12) yX12_findLongest yX12_findLongest ∈ zt := zt_of (List.mem_of_getElem? (i := 84) rfl) rfl
theorem m12_longest_cd : Cond.code yX12_longest cX12_longest 1 (some .int) ∈ zt := zt_of (zq_8 (List.mem_of_getElem? (i := 135) rfl)) rfl
theorem m12_longest_ni : Cond.initialized yX12_longest.cls ∈ zt := zt_of (zq_1 (List.mem_of_getElem? (i := 14) rfl)) rfl
theorem m12_longest_in : Cond.instanceMethod yX12_longest ∈ zt := zt_of (zq_8 (List.mem_of_getElem? (i := 133) rfl)) rfl
theorem m12_longest_se : Cond.selects (zRt 12) yX12_longest yX12_longest ∈ zt := zt_of (zq_8 (List.mem_of_getElem? (i := 134) rfl)) rfl
theorem m12_best_cd : Cond.code yX12_best cX12_best 2 (some .int) ∈ zt := zt_of (zq_8 (List.mem_of_getElem? (i := 164) rfl)) rfl
theorem m12_best_ni : Cond.initialized yX12_best.cls ∈ zt := zt_of (zq_1 (List.mem_of_getElem? (i := 14) rfl)) rfl
theorem m12_best_in : Cond.instanceMethod yX12_best ∈ zt := zt_of (zq_8 (List.mem_of_getElem? (i := 162) rfl)) rfl
theorem m12_best_se : Cond.selects (zRt 12) yX12_best yX12_best ∈ zt := zt_of (zq_8 (List.mem_of_getElem? (i := 163) rfl)) rfl
theorem m12_fact_cd : Cond.code yX12_fact cX12_fact 6 (some .int) ∈ zt := zt_of (zq_8 (List.mem_of_getElem? (i := 168) rfl)) rfl
theorem m12_fact_ni : Cond.initialized yX12_fact.cls ∈ zt := zt_of (zq_1 (List.mem_of_getElem? (i := 14) rfl)) rfl
theorem m12_fact_in : Cond.instanceMethod yX12_fact ∈ zt := zt_of (zq_8 (List.mem_of_getElem? (i := 166) rfl)) rfl
theorem m12_fact_se : Cond.selects (zRt 12) yX12_fact yX12_fact ∈ zt := zt_of (zq_8 (List.mem_of_getElem? (i := 167) rfl)) rfl
theorem m12_lessen_cd : Cond.code yX12_lessen cX12_lessen 4 (none) ∈ zt := zt_of (zq_8 (List.mem_of_getElem? (i := 184) rfl)) rfl
theorem m12_lessen_ni : Cond.initialized yX12_lessen.cls ∈ zt := zt_of (zq_1 (List.mem_of_getElem? (i := 14) rfl)) rfl
theorem m12_lessen_in : Cond.instanceMethod yX12_lessen ∈ zt := zt_of (zq_8 (List.mem_of_getElem? (i := 183) rfl)) rfl
theorem m12_lessen_se : Cond.selects (zRt 12) yX12_lessen yX12_lessen ∈ zt := zt_of (List.mem_of_getElem? (i := 91) rfl) rfl
theorem m12_canBe_cd : Cond.code yX12_canBe cX12_canBe 5 (some .boolean) ∈ zt := zt_of (zq_8 (List.mem_of_getElem? (i := 180) rfl)) rfl
theorem m12_canBe_ni : Cond.initialized yX12_canBe.cls ∈ zt := zt_of (zq_1 (List.mem_of_getElem? (i := 14) rfl)) rfl
theorem m12_canBe_in : Cond.instanceMethod yX12_canBe ∈ zt := zt_of (zq_8 (List.mem_of_getElem? (i := 179) rfl)) rfl
theorem m12_canBe_se : Cond.selects (zRt 12) yX12_canBe yX12_canBe ∈ zt := zt_of (List.mem_of_getElem? (i := 90) rfl) rfl
theorem m12_hour_cd : Cond.code yX12_hour cX12_hour 9 (some .int) ∈ zt := zt_of (zq_8 (List.mem_of_getElem? (i := 172) rfl)) rfl
theorem m12_hour_ni : Cond.initialized yX12_hour.cls ∈ zt := zt_of (zq_1 (List.mem_of_getElem? (i := 14) rfl)) rfl
theorem m12_hour_in : Cond.instanceMethod yX12_hour ∈ zt := zt_of (zq_8 (List.mem_of_getElem? (i := 170) rfl)) rfl
theorem m12_hour_se : Cond.selects (zRt 12) yX12_hour yX12_hour ∈ zt := zt_of (zq_8 (List.mem_of_getElem? (i := 171) rfl)) rfl
theorem m12_place_cd : Cond.code yX12_place cX12_place 4 (some .int) ∈ zt := zt_of (zq_8 (List.mem_of_getElem? (i := 188) rfl)) rfl
theorem m12_place_ni : Cond.initialized yX12_place.cls ∈ zt := zt_of (zq_1 (List.mem_of_getElem? (i := 14) rfl)) rfl
theorem m12_place_in : Cond.instanceMethod yX12_place ∈ zt := zt_of (zq_8 (List.mem_of_getElem? (i := 186) rfl)) rfl
theorem m12_place_se : Cond.selects (zRt 12) yX12_place yX12_place ∈ zt := zt_of (zq_8 (List.mem_of_getElem? (i := 187) rfl)) rfl
theorem m12_cells_cd : Cond.code yX12_cells cX12_cells 12 (some .long) ∈ zt := zt_of (zq_8 (List.mem_of_getElem? (i := 192) rfl)) rfl
theorem m12_cells_ni : Cond.initialized yX12_cells.cls ∈ zt := zt_of (zq_1 (List.mem_of_getElem? (i := 14) rfl)) rfl
theorem m12_cells_in : Cond.instanceMethod yX12_cells ∈ zt := zt_of (zq_8 (List.mem_of_getElem? (i := 190) rfl)) rfl
theorem m12_cells_se : Cond.selects (zRt 12) yX12_cells yX12_cells ∈ zt := zt_of (zq_8 (List.mem_of_getElem? (i := 191) rfl)) rfl
theorem m12_program_cd : Cond.code yX12_program cX12_program 6 (some .int) ∈ zt := zt_of (zq_8 (List.mem_of_getElem? (i := 197) rfl)) rfl
theorem m12_program_ni : Cond.initialized yX12_program.cls ∈ zt := zt_of (zq_1 (List.mem_of_getElem? (i := 14) rfl)) rfl
theorem m12_program_in : Cond.instanceMethod yX12_program ∈ zt := zt_of (zq_8 (List.mem_of_getElem? (i := 195) rfl)) rfl
theorem m12_program_se : Cond.selects (zRt 12) yX12_program yX12_program ∈ zt := zt_of (zq_8 (List.mem_of_getElem? (i := 196) rfl)) rfl
theorem m12_partFor_cd : Cond.code yX12_partFor cX12_partFor 4 (some .int) ∈ zt := zt_of (zq_8 (List.mem_of_getElem? (i := 205) rfl)) rfl
theorem m12_partFor_ni : Cond.initialized yX12_partFor.cls ∈ zt := zt_of (zq_1 (List.mem_of_getElem? (i := 14) rfl)) rfl
theorem m12_partFor_in : Cond.instanceMethod yX12_partFor ∈ zt := zt_of (zq_8 (List.mem_of_getElem? (i := 204) rfl)) rfl
theorem m12_partFor_se : Cond.selects (zRt 12) yX12_partFor yX12_partFor ∈ zt := zt_of (List.mem_of_getElem? (i := 92) rfl) rfl
theorem m12_hand_cd : Cond.code yX12_hand cX12_hand 6 (some .int) ∈ zt := zt_of (zq_8 (List.mem_of_getElem? (i := 201) rfl)) rfl
theorem m12_hand_ni : Cond.initialized yX12_hand.cls ∈ zt := zt_of (zq_1 (List.mem_of_getElem? (i := 14) rfl)) rfl
theorem m12_hand_in : Cond.instanceMethod yX12_hand ∈ zt := zt_of (zq_8 (List.mem_of_getElem? (i := 199) rfl)) rfl
theorem m12_hand_se : Cond.selects (zRt 12) yX12_hand yX12_hand ∈ zt := zt_of (zq_8 (List.mem_of_getElem? (i := 200) rfl)) rfl
theorem m12_tear_cd : Cond.code yX12_tear cX12_tear 5 (some .int) ∈ zt := zt_of (zq_8 (List.mem_of_getElem? (i := 209) rfl)) rfl
theorem m12_tear_ni : Cond.initialized yX12_tear.cls ∈ zt := zt_of (zq_1 (List.mem_of_getElem? (i := 14) rfl)) rfl
theorem m12_tear_in : Cond.instanceMethod yX12_tear ∈ zt := zt_of (zq_8 (List.mem_of_getElem? (i := 207) rfl)) rfl
theorem m12_tear_se : Cond.selects (zRt 12) yX12_tear yX12_tear ∈ zt := zt_of (zq_8 (List.mem_of_getElem? (i := 208) rfl)) rfl
theorem m12_isSound_cd : Cond.code yX12_isSound cX12_isSound 4 (some .boolean) ∈ zt := zt_of (zq_8 (List.mem_of_getElem? (i := 217) rfl)) rfl
theorem m12_isSound_ni : Cond.initialized yX12_isSound.cls ∈ zt := zt_of (zq_1 (List.mem_of_getElem? (i := 14) rfl)) rfl
theorem m12_isSound_in : Cond.instanceMethod yX12_isSound ∈ zt := zt_of (zq_8 (List.mem_of_getElem? (i := 216) rfl)) rfl
theorem m12_isSound_se : Cond.selects (zRt 12) yX12_isSound yX12_isSound ∈ zt := zt_of (List.mem_of_getElem? (i := 93) rfl) rfl
theorem m12_has_cd : Cond.code yX12_has cX12_has 3 (some .int) ∈ zt := zt_of (zq_8 (List.mem_of_getElem? (i := 213) rfl)) rfl
theorem m12_has_ni : Cond.initialized yX12_has.cls ∈ zt := zt_of (zq_1 (List.mem_of_getElem? (i := 14) rfl)) rfl
theorem m12_has_in : Cond.instanceMethod yX12_has ∈ zt := zt_of (zq_8 (List.mem_of_getElem? (i := 211) rfl)) rfl
theorem m12_has_se : Cond.selects (zRt 12) yX12_has yX12_has ∈ zt := zt_of (zq_8 (List.mem_of_getElem? (i := 212) rfl)) rfl
theorem m12_begin_cd : Cond.code yX12_begin cX12_begin 5 (some .int) ∈ zt := zt_of (zq_8 (List.mem_of_getElem? (i := 221) rfl)) rfl
theorem m12_begin_ni : Cond.initialized yX12_begin.cls ∈ zt := zt_of (zq_1 (List.mem_of_getElem? (i := 14) rfl)) rfl
theorem m12_begin_in : Cond.instanceMethod yX12_begin ∈ zt := zt_of (zq_8 (List.mem_of_getElem? (i := 219) rfl)) rfl
theorem m12_begin_se : Cond.selects (zRt 12) yX12_begin yX12_begin ∈ zt := zt_of (zq_8 (List.mem_of_getElem? (i := 220) rfl)) rfl
theorem m12_days_cd : Cond.code yX12_days cX12_days 4 (some .int) ∈ zt := zt_of (zq_8 (List.mem_of_getElem? (i := 225) rfl)) rfl
theorem m12_days_ni : Cond.initialized yX12_days.cls ∈ zt := zt_of (zq_1 (List.mem_of_getElem? (i := 14) rfl)) rfl
theorem m12_days_in : Cond.instanceMethod yX12_days ∈ zt := zt_of (zq_8 (List.mem_of_getElem? (i := 223) rfl)) rfl
theorem m12_days_se : Cond.selects (zRt 12) yX12_days yX12_days ∈ zt := zt_of (zq_8 (List.mem_of_getElem? (i := 224) rfl)) rfl
theorem m12_isSpot_cd : Cond.code yX12_isSpot cX12_isSpot 1 (some .boolean) ∈ zt := zt_of (zq_8 (List.mem_of_getElem? (i := 232) rfl)) rfl
theorem m12_isSpot_ni : Cond.initialized yX12_isSpot.cls ∈ zt := zt_of (zq_1 (List.mem_of_getElem? (i := 14) rfl)) rfl
theorem m12_isSpot_in : Cond.static yX12_isSpot ∈ zt := zt_of (zq_8 (List.mem_of_getElem? (i := 231) rfl)) rfl
theorem m12_isDay_cd : Cond.code yX12_isDay cX12_isDay 2 (some .boolean) ∈ zt := zt_of (zq_9 (List.mem_of_getElem? (i := 4) rfl)) rfl
theorem m12_isDay_ni : Cond.initialized yX12_isDay.cls ∈ zt := zt_of (zq_1 (List.mem_of_getElem? (i := 14) rfl)) rfl
theorem m12_isDay_in : Cond.instanceMethod yX12_isDay ∈ zt := zt_of (zq_9 (List.mem_of_getElem? (i := 3) rfl)) rfl
theorem m12_isDay_se : Cond.selects (zRt 12) yX12_isDay yX12_isDay ∈ zt := zt_of (List.mem_of_getElem? (i := 94) rfl) rfl
theorem m12_way_cd : Cond.code yX12_way cX12_way 5 (some .int) ∈ zt := zt_of (zq_8 (List.mem_of_getElem? (i := 229) rfl)) rfl
theorem m12_way_ni : Cond.initialized yX12_way.cls ∈ zt := zt_of (zq_1 (List.mem_of_getElem? (i := 14) rfl)) rfl
theorem m12_way_in : Cond.instanceMethod yX12_way ∈ zt := zt_of (zq_8 (List.mem_of_getElem? (i := 227) rfl)) rfl
theorem m12_way_se : Cond.selects (zRt 12) yX12_way yX12_way ∈ zt := zt_of (zq_8 (List.mem_of_getElem? (i := 228) rfl)) rfl
theorem m12_ear_cd : Cond.code yX12_ear cX12_ear 4 (some .int) ∈ zt := zt_of (zq_8 (List.mem_of_getElem? (i := 236) rfl)) rfl
theorem m12_ear_ni : Cond.initialized yX12_ear.cls ∈ zt := zt_of (zq_1 (List.mem_of_getElem? (i := 14) rfl)) rfl
theorem m12_ear_in : Cond.instanceMethod yX12_ear ∈ zt := zt_of (zq_8 (List.mem_of_getElem? (i := 234) rfl)) rfl
theorem m12_ear_se : Cond.selects (zRt 12) yX12_ear yX12_ear ∈ zt := zt_of (zq_8 (List.mem_of_getElem? (i := 235) rfl)) rfl
theorem m12_log_cd : Cond.code yX12_log cX12_log 5 (some .int) ∈ zt := zt_of (zq_9 (List.mem_of_getElem? (i := 0) rfl)) rfl
theorem m12_log_ni : Cond.initialized yX12_log.cls ∈ zt := zt_of (zq_1 (List.mem_of_getElem? (i := 14) rfl)) rfl
theorem m12_log_in : Cond.instanceMethod yX12_log ∈ zt := zt_of (zq_8 (List.mem_of_getElem? (i := 238) rfl)) rfl
theorem m12_log_se : Cond.selects (zRt 12) yX12_log yX12_log ∈ zt := zt_of (zq_8 (List.mem_of_getElem? (i := 239) rfl)) rfl
theorem m12_liars_cd : Cond.code yX12_liars cX12_liars 3 (some .int) ∈ zt := zt_of (zq_9 (List.mem_of_getElem? (i := 8) rfl)) rfl
theorem m12_liars_ni : Cond.initialized yX12_liars.cls ∈ zt := zt_of (zq_1 (List.mem_of_getElem? (i := 14) rfl)) rfl
theorem m12_liars_in : Cond.instanceMethod yX12_liars ∈ zt := zt_of (zq_9 (List.mem_of_getElem? (i := 6) rfl)) rfl
theorem m12_liars_se : Cond.selects (zRt 12) yX12_liars yX12_liars ∈ zt := zt_of (zq_9 (List.mem_of_getElem? (i := 7) rfl)) rfl
theorem m12_spotOf_cd : Cond.code yX12_spotOf cX12_spotOf 5 (some .int) ∈ zt := zt_of (zq_9 (List.mem_of_getElem? (i := 28) rfl)) rfl
theorem m12_spotOf_ni : Cond.initialized yX12_spotOf.cls ∈ zt := zt_of (zq_1 (List.mem_of_getElem? (i := 14) rfl)) rfl
theorem m12_spotOf_in : Cond.instanceMethod yX12_spotOf ∈ zt := zt_of (zq_9 (List.mem_of_getElem? (i := 27) rfl)) rfl
theorem m12_spotOf_se : Cond.selects (zRt 12) yX12_spotOf yX12_spotOf ∈ zt := zt_of (List.mem_of_getElem? (i := 98) rfl) rfl
theorem m12_agrees_cd : Cond.code yX12_agrees cX12_agrees 9 (some .boolean) ∈ zt := zt_of (zq_9 (List.mem_of_getElem? (i := 24) rfl)) rfl
theorem m12_agrees_ni : Cond.initialized yX12_agrees.cls ∈ zt := zt_of (zq_1 (List.mem_of_getElem? (i := 14) rfl)) rfl
theorem m12_agrees_in : Cond.instanceMethod yX12_agrees ∈ zt := zt_of (zq_9 (List.mem_of_getElem? (i := 23) rfl)) rfl
theorem m12_agrees_se : Cond.selects (zRt 12) yX12_agrees yX12_agrees ∈ zt := zt_of (List.mem_of_getElem? (i := 97) rfl) rfl
theorem m12_allCourses_cd : Cond.code yX12_allCourses cX12_allCourses 3 (some .int) ∈ zt := zt_of (zq_9 (List.mem_of_getElem? (i := 20) rfl)) rfl
theorem m12_allCourses_ni : Cond.initialized yX12_allCourses.cls ∈ zt := zt_of (zq_1 (List.mem_of_getElem? (i := 14) rfl)) rfl
theorem m12_allCourses_in : Cond.instanceMethod yX12_allCourses ∈ zt := zt_of (zq_9 (List.mem_of_getElem? (i := 19) rfl)) rfl
theorem m12_allCourses_se : Cond.selects (zRt 12) yX12_allCourses yX12_allCourses ∈ zt := zt_of (List.mem_of_getElem? (i := 96) rfl) rfl
theorem m12_findCourses_cd : Cond.code yX12_findCourses cX12_findCourses 3 (none) ∈ zt := zt_of (zq_9 (List.mem_of_getElem? (i := 16) rfl)) rfl
theorem m12_findCourses_ni : Cond.initialized yX12_findCourses.cls ∈ zt := zt_of (zq_1 (List.mem_of_getElem? (i := 14) rfl)) rfl
theorem m12_findCourses_in : Cond.instanceMethod yX12_findCourses ∈ zt := zt_of (zq_9 (List.mem_of_getElem? (i := 15) rfl)) rfl
theorem m12_findCourses_se : Cond.selects (zRt 12) yX12_findCourses yX12_findCourses ∈ zt := zt_of (List.mem_of_getElem? (i := 95) rfl) rfl
theorem m12_courses_cd : Cond.code yX12_courses cX12_courses 1 (some .int) ∈ zt := zt_of (zq_9 (List.mem_of_getElem? (i := 12) rfl)) rfl
theorem m12_courses_ni : Cond.initialized yX12_courses.cls ∈ zt := zt_of (zq_1 (List.mem_of_getElem? (i := 14) rfl)) rfl
theorem m12_courses_in : Cond.instanceMethod yX12_courses ∈ zt := zt_of (zq_9 (List.mem_of_getElem? (i := 10) rfl)) rfl
theorem m12_courses_se : Cond.selects (zRt 12) yX12_courses yX12_courses ∈ zt := zt_of (zq_9 (List.mem_of_getElem? (i := 11) rfl)) rfl
theorem m12_course_cd : Cond.code yX12_course cX12_course 3 (some .int) ∈ zt := zt_of (zq_9 (List.mem_of_getElem? (i := 32) rfl)) rfl
theorem m12_course_ni : Cond.initialized yX12_course.cls ∈ zt := zt_of (zq_1 (List.mem_of_getElem? (i := 14) rfl)) rfl
theorem m12_course_in : Cond.instanceMethod yX12_course ∈ zt := zt_of (zq_9 (List.mem_of_getElem? (i := 30) rfl)) rfl
theorem m12_course_se : Cond.selects (zRt 12) yX12_course yX12_course ∈ zt := zt_of (zq_9 (List.mem_of_getElem? (i := 31) rfl)) rfl
theorem m12_wrongClaim_cd : Cond.code yX12_wrongClaim cX12_wrongClaim 6 (some .int) ∈ zt := zt_of (zq_9 (List.mem_of_getElem? (i := 40) rfl)) rfl
theorem m12_wrongClaim_ni : Cond.initialized yX12_wrongClaim.cls ∈ zt := zt_of (zq_1 (List.mem_of_getElem? (i := 14) rfl)) rfl
theorem m12_wrongClaim_in : Cond.instanceMethod yX12_wrongClaim ∈ zt := zt_of (zq_9 (List.mem_of_getElem? (i := 39) rfl)) rfl
theorem m12_wrongClaim_se : Cond.selects (zRt 12) yX12_wrongClaim yX12_wrongClaim ∈ zt := zt_of (List.mem_of_getElem? (i := 99) rfl) rfl
theorem m12_isSo_cd : Cond.code yX12_isSo cX12_isSo 11 (some .boolean) ∈ zt := zt_of (zq_9 (List.mem_of_getElem? (i := 44) rfl)) rfl
theorem m12_isSo_ni : Cond.initialized yX12_isSo.cls ∈ zt := zt_of (zq_1 (List.mem_of_getElem? (i := 14) rfl)) rfl
theorem m12_isSo_in : Cond.instanceMethod yX12_isSo ∈ zt := zt_of (zq_9 (List.mem_of_getElem? (i := 43) rfl)) rfl
theorem m12_isSo_se : Cond.selects (zRt 12) yX12_isSo yX12_isSo ∈ zt := zt_of (List.mem_of_getElem? (i := 100) rfl) rfl
theorem m12_judge_cd : Cond.code yX12_judge cX12_judge 9 (some .int) ∈ zt := zt_of (zq_9 (List.mem_of_getElem? (i := 36) rfl)) rfl
theorem m12_judge_ni : Cond.initialized yX12_judge.cls ∈ zt := zt_of (zq_1 (List.mem_of_getElem? (i := 14) rfl)) rfl
theorem m12_judge_in : Cond.instanceMethod yX12_judge ∈ zt := zt_of (zq_9 (List.mem_of_getElem? (i := 34) rfl)) rfl
theorem m12_judge_se : Cond.selects (zRt 12) yX12_judge yX12_judge ∈ zt := zt_of (zq_9 (List.mem_of_getElem? (i := 35) rfl)) rfl
theorem m12_quarrel_cd : Cond.code yX12_quarrel cX12_quarrel 5 (some .int) ∈ zt := zt_of (zq_9 (List.mem_of_getElem? (i := 48) rfl)) rfl
theorem m12_quarrel_ni : Cond.initialized yX12_quarrel.cls ∈ zt := zt_of (zq_1 (List.mem_of_getElem? (i := 14) rfl)) rfl
theorem m12_quarrel_in : Cond.instanceMethod yX12_quarrel ∈ zt := zt_of (zq_9 (List.mem_of_getElem? (i := 46) rfl)) rfl
theorem m12_quarrel_se : Cond.selects (zRt 12) yX12_quarrel yX12_quarrel ∈ zt := zt_of (zq_9 (List.mem_of_getElem? (i := 47) rfl)) rfl
theorem m12_told_cd : Cond.code yX12_told cX12_told 6 (some .int) ∈ zt := zt_of (zq_9 (List.mem_of_getElem? (i := 60) rfl)) rfl
theorem m12_told_ni : Cond.initialized yX12_told.cls ∈ zt := zt_of (zq_1 (List.mem_of_getElem? (i := 14) rfl)) rfl
theorem m12_told_in : Cond.instanceMethod yX12_told ∈ zt := zt_of (zq_9 (List.mem_of_getElem? (i := 59) rfl)) rfl
theorem m12_told_se : Cond.selects (zRt 12) yX12_told yX12_told ∈ zt := zt_of (List.mem_of_getElem? (i := 102) rfl) rfl
theorem m12_settles_cd : Cond.code yX12_settles cX12_settles 11 (some .boolean) ∈ zt := zt_of (zq_9 (List.mem_of_getElem? (i := 56) rfl)) rfl
theorem m12_settles_ni : Cond.initialized yX12_settles.cls ∈ zt := zt_of (zq_1 (List.mem_of_getElem? (i := 14) rfl)) rfl
theorem m12_settles_in : Cond.instanceMethod yX12_settles ∈ zt := zt_of (zq_9 (List.mem_of_getElem? (i := 55) rfl)) rfl
theorem m12_settles_se : Cond.selects (zRt 12) yX12_settles yX12_settles ∈ zt := zt_of (List.mem_of_getElem? (i := 101) rfl) rfl
theorem m12_settle_cd : Cond.code yX12_settle cX12_settle 9 (some .int) ∈ zt := zt_of (zq_9 (List.mem_of_getElem? (i := 52) rfl)) rfl
theorem m12_settle_ni : Cond.initialized yX12_settle.cls ∈ zt := zt_of (zq_1 (List.mem_of_getElem? (i := 14) rfl)) rfl
theorem m12_settle_in : Cond.instanceMethod yX12_settle ∈ zt := zt_of (zq_9 (List.mem_of_getElem? (i := 50) rfl)) rfl
theorem m12_settle_se : Cond.selects (zRt 12) yX12_settle yX12_settle ∈ zt := zt_of (zq_9 (List.mem_of_getElem? (i := 51) rfl)) rfl
theorem m12_count_cd : Cond.code yX12_count cX12_count 4 (some .int) ∈ zt := zt_of (zq_9 (List.mem_of_getElem? (i := 65) rfl)) rfl
theorem m12_count_ni : Cond.initialized yX12_count.cls ∈ zt := zt_of (zq_1 (List.mem_of_getElem? (i := 14) rfl)) rfl
theorem m12_count_in : Cond.instanceMethod yX12_count ∈ zt := zt_of (zq_9 (List.mem_of_getElem? (i := 63) rfl)) rfl
theorem m12_count_se : Cond.selects (zRt 12) yX12_count yX12_count ∈ zt := zt_of (zq_9 (List.mem_of_getElem? (i := 64) rfl)) rfl
theorem cw12_171 : zcw RX12 171 yX12_in cX12_in 3 (some .boolean) 3 := ⟨zt_of (zq_7 (List.mem_of_getElem? (i := 151) rfl)) rfl, m12_in_cd, m12_in_ni, by decide +kernel, by decide +kernel⟩
theorem cw12_175 : zcw RX12 175 yX12_isBox cX12_isBox 2 (some .boolean) 1 := ⟨zt_of (zq_7 (List.mem_of_getElem? (i := 158) rfl)) rfl, m12_isBox_cd, m12_isBox_ni, by decide +kernel, by decide +kernel⟩
theorem cw12_179 : zcw RX12 179 yX12_local cX12_local 3 (some .int) 2 := ⟨zt_of (zq_7 (List.mem_of_getElem? (i := 186) rfl)) rfl, m12_local_cd, m12_local_ni, by decide +kernel, by decide +kernel⟩
theorem cw12_183 : zcw RX12 183 yX12_isIn cX12_isIn 2 (some .boolean) 2 := ⟨zt_of (zq_7 (List.mem_of_getElem? (i := 194) rfl)) rfl, m12_isIn_cd, m12_isIn_ni, by decide +kernel, by decide +kernel⟩
theorem cw12_187 : zcw RX12 187 yX12_countOf cX12_countOf 2 (some .int) 1 := ⟨zt_of (zq_7 (List.mem_of_getElem? (i := 182) rfl)) rfl, m12_countOf_cd, m12_countOf_ni, by decide +kernel, by decide +kernel⟩
theorem cw12_194 : zcw RX12 194 yX12_isOn cX12_isOn 4 (some .boolean) 2 := ⟨zt_of (zq_7 (List.mem_of_getElem? (i := 190) rfl)) rfl, m12_isOn_cd, m12_isOn_ni, by decide +kernel, by decide +kernel⟩
theorem cw12_197 : zcw RX12 197 yX12_areMates cX12_areMates 3 (some .boolean) 2 := ⟨zt_of (zq_7 (List.mem_of_getElem? (i := 205) rfl)) rfl, m12_areMates_cd, m12_areMates_ni, by decide +kernel, by decide +kernel⟩
theorem cw12_200 : zcw RX12 200 yX12_goRound cX12_goRound 6 (some .boolean) 0 := ⟨zt_of (zq_7 (List.mem_of_getElem? (i := 201) rfl)) rfl, m12_goRound_cd, m12_goRound_ni, by decide +kernel, by decide +kernel⟩
theorem cw12_207 : zcw RX12 207 yX12_takeSums cX12_takeSums 5 (some .int) 0 := ⟨zt_of (zq_7 (List.mem_of_getElem? (i := 233) rfl)) rfl, m12_takeSums_cd, m12_takeSums_ni, by decide +kernel, by decide +kernel⟩
theorem cw12_214 : zcw RX12 214 yX12_emptySum cX12_emptySum 3 (none) 1 := ⟨zt_of (zq_7 (List.mem_of_getElem? (i := 237) rfl)) rfl, m12_emptySum_cd, m12_emptySum_ni, by decide +kernel, by decide +kernel⟩
theorem cw12_218 : zcw RX12 218 yX12_meets cX12_meets 6 (some .boolean) 2 := ⟨zt_of (zq_8 (List.mem_of_getElem? (i := 1) rfl)) rfl, m12_meets_cd, m12_meets_ni, by decide +kernel, by decide +kernel⟩
theorem cw12_221 : zcw RX12 221 yX12_join cX12_join 9 (none) 6 := ⟨zt_of (zq_8 (List.mem_of_getElem? (i := 5) rfl)) rfl, m12_join_cd, m12_join_ni, by decide +kernel, by decide +kernel⟩
theorem cw12_225 : zcw RX12 225 yX12_spend cX12_spend 3 (none) 2 := ⟨zt_of (zq_7 (List.mem_of_getElem? (i := 225) rfl)) rfl, m12_spend_cd, m12_spend_ni, by decide +kernel, by decide +kernel⟩
theorem cw12_229 : zcw RX12 229 yX12_getWord cX12_getWord 5 (none) 2 := ⟨zt_of (zq_8 (List.mem_of_getElem? (i := 25) rfl)) rfl, m12_getWord_cd, m12_getWord_ni, by decide +kernel, by decide +kernel⟩
theorem cw12_235 : zcw RX12 235 yX12_putOnRow cX12_putOnRow 6 (none) 3 := ⟨zt_of (zq_8 (List.mem_of_getElem? (i := 29) rfl)) rfl, m12_putOnRow_cd, m12_putOnRow_ni, by decide +kernel, by decide +kernel⟩
theorem cw12_245 : zcw RX12 245 yX12_beginEpoch cX12_beginEpoch 5 (none) 1 := ⟨zt_of (zq_7 (List.mem_of_getElem? (i := 229) rfl)) rfl, m12_beginEpoch_cd, m12_beginEpoch_ni, by decide +kernel, by decide +kernel⟩
theorem cw12_248 : zcw RX12 248 yX12_queueSums cX12_queueSums 7 (none) 1 := ⟨zt_of (zq_8 (List.mem_of_getElem? (i := 9) rfl)) rfl, m12_queueSums_cd, m12_queueSums_ni, by decide +kernel, by decide +kernel⟩
theorem cw12_251 : zcw RX12 251 yX12_speak cX12_speak 3 (none) 0 := ⟨zt_of (zq_8 (List.mem_of_getElem? (i := 13) rfl)) rfl, m12_speak_cd, m12_speak_ni, by decide +kernel, by decide +kernel⟩
theorem cw12_254 : zcw RX12 254 yX12_listen cX12_listen 3 (none) 0 := ⟨zt_of (zq_8 (List.mem_of_getElem? (i := 17) rfl)) rfl, m12_listen_cd, m12_listen_ni, by decide +kernel, by decide +kernel⟩
theorem cw12_257 : zcw RX12 257 yX12_deliver cX12_deliver 3 (none) 1 := ⟨zt_of (zq_8 (List.mem_of_getElem? (i := 21) rfl)) rfl, m12_deliver_cd, m12_deliver_ni, by decide +kernel, by decide +kernel⟩
theorem cw12_260 : zcw RX12 260 yX12_goTick cX12_goTick 4 (none) 1 := ⟨zt_of (zq_7 (List.mem_of_getElem? (i := 221) rfl)) rfl, m12_goTick_cd, m12_goTick_ni, by decide +kernel, by decide +kernel⟩
theorem cw12_298 : zcw RX12 298 yX12_nextToken cX12_nextToken 1 (none) 0 := ⟨zt_of (zq_8 (List.mem_of_getElem? (i := 58) rfl)) rfl, m12_nextToken_cd, m12_nextToken_ni, by decide +kernel, by decide +kernel⟩
theorem cw12_303 : zcw RX12 303 yX12_isWord cX12_isWord 3 (some .boolean) 1 := ⟨zt_of (zq_8 (List.mem_of_getElem? (i := 67) rfl)) rfl, m12_isWord_cd, m12_isWord_ni, by decide +kernel, by decide +kernel⟩
theorem cw12_316 : zcw RX12 316 yX12_fails cX12_fails 1 (some .boolean) 0 := ⟨zt_of (zq_8 (List.mem_of_getElem? (i := 74) rfl)) rfl, m12_fails_cd, m12_fails_ni, by decide +kernel, by decide +kernel⟩
theorem cw12_329 : zcw RX12 329 yX12_isNumber cX12_isNumber 3 (some .boolean) 2 := ⟨zt_of (zq_8 (List.mem_of_getElem? (i := 83) rfl)) rfl, m12_isNumber_cd, m12_isNumber_ni, by decide +kernel, by decide +kernel⟩
theorem cw12_339 : zcw RX12 339 yX12_isRead cX12_isRead 2 (some .boolean) 0 := ⟨zt_of (zq_8 (List.mem_of_getElem? (i := 54) rfl)) rfl, m12_isRead_cd, m12_isRead_ni, by decide +kernel, by decide +kernel⟩
theorem cw12_342 : zcw RX12 342 yX12_common cX12_common 5 (some .int) 2 := ⟨zt_of (zq_8 (List.mem_of_getElem? (i := 105) rfl)) rfl, m12_common_cd, m12_common_ni, by decide +kernel, by decide +kernel⟩
theorem cw12_345 : zcw RX12 345 yX12_isEpoch cX12_isEpoch 2 (some .boolean) 1 := ⟨zt_of (zq_8 (List.mem_of_getElem? (i := 120) rfl)) rfl, m12_isEpoch_cd, m12_isEpoch_ni, by decide +kernel, by decide +kernel⟩
theorem cw12_348 : zcw RX12 348 yX12_childrenOf cX12_childrenOf 4 (some .int) 1 := ⟨zt_of (zq_8 (List.mem_of_getElem? (i := 112) rfl)) rfl, m12_childrenOf_cd, m12_childrenOf_ni, by decide +kernel, by decide +kernel⟩
theorem cw12_351 : zcw RX12 351 yX12_foretoldFor cX12_foretoldFor 7 (some .int) 4 := ⟨zt_of (zq_8 (List.mem_of_getElem? (i := 116) rfl)) rfl, m12_foretoldFor_cd, m12_foretoldFor_ni, by decide +kernel, by decide +kernel⟩
theorem cw12_355 : zcw RX12 355 yX12_lifeFor cX12_lifeFor 7 (some .int) 3 := ⟨zt_of (zq_8 (List.mem_of_getElem? (i := 128) rfl)) rfl, m12_lifeFor_cd, m12_lifeFor_ni, by decide +kernel, by decide +kernel⟩
theorem cw12_359 : zcw RX12 359 yX12_mayLead cX12_mayLead 3 (some .boolean) 2 := ⟨zt_of (zq_8 (List.mem_of_getElem? (i := 144) rfl)) rfl, m12_mayLead_cd, m12_mayLead_ni, by decide +kernel, by decide +kernel⟩
theorem cw12_362 : zcw RX12 362 yX12_firstFor cX12_firstFor 3 (some .int) 1 := ⟨zt_of (zq_8 (List.mem_of_getElem? (i := 148) rfl)) rfl, m12_firstFor_cd, m12_firstFor_ni, by decide +kernel, by decide +kernel⟩
theorem cw12_365 : zcw RX12 365 yX12_findHome cX12_findHome 4 (none) 0 := ⟨zt_of (zq_8 (List.mem_of_getElem? (i := 140) rfl)) rfl, m12_findHome_cd, m12_findHome_ni, by decide +kernel, by decide +kernel⟩
theorem cw12_373 : zcw RX12 373 yX12_leastLife cX12_leastLife 5 (some .int) 0 := ⟨zt_of (zq_8 (List.mem_of_getElem? (i := 153) rfl)) rfl, m12_leastLife_cd, m12_leastLife_ni, by decide +kernel, by decide +kernel⟩
theorem cw12_376 : zcw RX12 376 yX12_hasNextTree cX12_hasNextTree 3 (some .boolean) 0 := ⟨zt_of (zq_8 (List.mem_of_getElem? (i := 157) rfl)) rfl, m12_hasNextTree_cd, m12_hasNextTree_ni, by decide +kernel, by decide +kernel⟩
theorem cw12_379 : zcw RX12 379 yX12_findLongest cX12_findLongest 6 (some .boolean) 0 := ⟨zt_of (zq_8 (List.mem_of_getElem? (i := 136) rfl)) rfl, m12_findLongest_cd, m12_findLongest_ni, by decide +kernel, by decide +kernel⟩
theorem cw12_385 : zcw RX12 385 yX12_lessen cX12_lessen 4 (none) 3 := ⟨zt_of (zq_8 (List.mem_of_getElem? (i := 181) rfl)) rfl, m12_lessen_cd, m12_lessen_ni, by decide +kernel, by decide +kernel⟩
theorem cw12_390 : zcw RX12 390 yX12_bits cX12_bits 3 (some .int) 1 := ⟨zt_of (zq_8 (List.mem_of_getElem? (i := 174) rfl)) rfl, m12_bits_cd, m12_bits_ni, by decide +kernel, by decide +kernel⟩
theorem cw12_393 : zcw RX12 393 yX12_canBe cX12_canBe 5 (some .boolean) 1 := ⟨zt_of (zq_8 (List.mem_of_getElem? (i := 177) rfl)) rfl, m12_canBe_cd, m12_canBe_ni, by decide +kernel, by decide +kernel⟩
theorem cw12_407 : zcw RX12 407 yX12_partFor cX12_partFor 4 (some .int) 2 := ⟨zt_of (zq_8 (List.mem_of_getElem? (i := 202) rfl)) rfl, m12_partFor_cd, m12_partFor_ni, by decide +kernel, by decide +kernel⟩
theorem cw12_410 : zcw RX12 410 yX12_isSound cX12_isSound 4 (some .boolean) 1 := ⟨zt_of (zq_8 (List.mem_of_getElem? (i := 214) rfl)) rfl, m12_isSound_cd, m12_isSound_ni, by decide +kernel, by decide +kernel⟩
theorem cw12_413 : zcw RX12 413 yX12_isSpot cX12_isSpot 1 (some .boolean) 1 := ⟨zt_of (zq_8 (List.mem_of_getElem? (i := 230) rfl)) rfl, m12_isSpot_cd, m12_isSpot_ni, by decide +kernel, by decide +kernel⟩
theorem cw12_416 : zcw RX12 416 yX12_isDay cX12_isDay 2 (some .boolean) 1 := ⟨zt_of (zq_9 (List.mem_of_getElem? (i := 1) rfl)) rfl, m12_isDay_cd, m12_isDay_ni, by decide +kernel, by decide +kernel⟩
theorem cw12_422 : zcw RX12 422 yX12_spotOf cX12_spotOf 5 (some .int) 2 := ⟨zt_of (zq_9 (List.mem_of_getElem? (i := 25) rfl)) rfl, m12_spotOf_cd, m12_spotOf_ni, by decide +kernel, by decide +kernel⟩
theorem cw12_428 : zcw RX12 428 yX12_allCourses cX12_allCourses 3 (some .int) 0 := ⟨zt_of (zq_9 (List.mem_of_getElem? (i := 17) rfl)) rfl, m12_allCourses_cd, m12_allCourses_ni, by decide +kernel, by decide +kernel⟩
theorem cw12_431 : zcw RX12 431 yX12_agrees cX12_agrees 9 (some .boolean) 2 := ⟨zt_of (zq_9 (List.mem_of_getElem? (i := 21) rfl)) rfl, m12_agrees_cd, m12_agrees_ni, by decide +kernel, by decide +kernel⟩
theorem cw12_434 : zcw RX12 434 yX12_findCourses cX12_findCourses 3 (none) 1 := ⟨zt_of (zq_9 (List.mem_of_getElem? (i := 13) rfl)) rfl, m12_findCourses_cd, m12_findCourses_ni, by decide +kernel, by decide +kernel⟩
theorem cw12_437 : zcw RX12 437 yX12_wrongClaim cX12_wrongClaim 6 (some .int) 5 := ⟨zt_of (zq_9 (List.mem_of_getElem? (i := 37) rfl)) rfl, m12_wrongClaim_cd, m12_wrongClaim_ni, by decide +kernel, by decide +kernel⟩
theorem cw12_441 : zcw RX12 441 yX12_isSo cX12_isSo 11 (some .boolean) 6 := ⟨zt_of (zq_9 (List.mem_of_getElem? (i := 41) rfl)) rfl, m12_isSo_cd, m12_isSo_ni, by decide +kernel, by decide +kernel⟩
theorem cw12_445 : zcw RX12 445 yX12_told cX12_told 6 (some .int) 2 := ⟨zt_of (zq_9 (List.mem_of_getElem? (i := 57) rfl)) rfl, m12_told_cd, m12_told_ni, by decide +kernel, by decide +kernel⟩
theorem cw12_449 : zcw RX12 449 yX12_settles cX12_settles 11 (some .boolean) 6 := ⟨zt_of (zq_9 (List.mem_of_getElem? (i := 53) rfl)) rfl, m12_settles_cd, m12_settles_ni, by decide +kernel, by decide +kernel⟩
