def tbX11 : zT := ([(10, 11, 0), (19, 11, 1), (28, 11, 2), (34, 0, 1), (41, 11, 3), (48, 11, 4), (55, 11, 5), (62, 11, 6), (82, 2, 9), (88, 2, 3), (91, 2, 4), (94, 2, 5), (97, 2, 6), (112, 2, 2), (119, 2, 7), (122, 3, 5), (131, 2, 15), (135, 8, 2), (166, 10, 1), (174, 10, 4), (181, 7, 1), (186, 2, 12), (190, 2, 10), (196, 0, 2), (205, 9, 0), (208, 9, 1), (211, 9, 2), (214, 9, 3), (217, 9, 4), (250, 2, 11), (261, 3, 4), (272, 2, 16), (285, 2, 18), (288, 6, 1), (294, 4, 1), (309, 4, 3), (319, 4, 2), (347, 1, 6)], [(245, (-2147483648))], [(167, 255), (253, (-2)), (255, (-3))])
theorem tf11_10 : zfw RX11 (10, 11, 0) ∈ zt := zt_of (zq_2 (List.mem_of_getElem? (i := 220) rfl)) rfl
theorem tf11_19 : zfw RX11 (19, 11, 1) ∈ zt := zt_of (zq_2 (List.mem_of_getElem? (i := 221) rfl)) rfl
theorem tf11_28 : zfw RX11 (28, 11, 2) ∈ zt := zt_of (zq_2 (List.mem_of_getElem? (i := 222) rfl)) rfl
theorem tf11_34 : zfw RX11 (34, 0, 1) ∈ zt := zt_of (zq_2 (List.mem_of_getElem? (i := 38) rfl)) rfl
theorem tf11_41 : zfw RX11 (41, 11, 3) ∈ zt := zt_of (zq_2 (List.mem_of_getElem? (i := 223) rfl)) rfl
theorem tf11_48 : zfw RX11 (48, 11, 4) ∈ zt := zt_of (zq_2 (List.mem_of_getElem? (i := 224) rfl)) rfl
theorem tf11_55 : zfw RX11 (55, 11, 5) ∈ zt := zt_of (zq_2 (List.mem_of_getElem? (i := 225) rfl)) rfl
theorem tf11_62 : zfw RX11 (62, 11, 6) ∈ zt := zt_of (zq_2 (List.mem_of_getElem? (i := 226) rfl)) rfl
theorem tf11_82 : zfw RX11 (82, 2, 9) ∈ zt := zt_of (zq_1 (List.mem_of_getElem? (i := 123) rfl)) rfl
theorem tf11_88 : zfw RX11 (88, 2, 3) ∈ zt := zt_of (zq_1 (List.mem_of_getElem? (i := 109) rfl)) rfl
theorem tf11_91 : zfw RX11 (91, 2, 4) ∈ zt := zt_of (zq_1 (List.mem_of_getElem? (i := 111) rfl)) rfl
theorem tf11_94 : zfw RX11 (94, 2, 5) ∈ zt := zt_of (zq_1 (List.mem_of_getElem? (i := 113) rfl)) rfl
theorem tf11_97 : zfw RX11 (97, 2, 6) ∈ zt := zt_of (zq_1 (List.mem_of_getElem? (i := 115) rfl)) rfl
theorem tf11_112 : zfw RX11 (112, 2, 2) ∈ zt := zt_of (zq_1 (List.mem_of_getElem? (i := 106) rfl)) rfl
theorem tf11_119 : zfw RX11 (119, 2, 7) ∈ zt := zt_of (zq_1 (List.mem_of_getElem? (i := 118) rfl)) rfl
theorem tf11_122 : zfw RX11 (122, 3, 5) ∈ zt := zt_of (zq_1 (List.mem_of_getElem? (i := 199) rfl)) rfl
theorem tf11_131 : zfw RX11 (131, 2, 15) ∈ zt := zt_of (zq_1 (List.mem_of_getElem? (i := 140) rfl)) rfl
theorem tf11_135 : zfw RX11 (135, 8, 2) ∈ zt := zt_of (zq_1 (List.mem_of_getElem? (i := 87) rfl)) rfl
theorem tf11_166 : zfw RX11 (166, 10, 1) ∈ zt := zt_of (zq_2 (List.mem_of_getElem? (i := 10) rfl)) rfl
theorem tf11_174 : zfw RX11 (174, 10, 4) ∈ zt := zt_of (zq_2 (List.mem_of_getElem? (i := 14) rfl)) rfl
theorem tf11_181 : zfw RX11 (181, 7, 1) ∈ zt := zt_of (zq_1 (List.mem_of_getElem? (i := 229) rfl)) rfl
theorem tf11_186 : zfw RX11 (186, 2, 12) ∈ zt := zt_of (zq_1 (List.mem_of_getElem? (i := 134) rfl)) rfl
theorem tf11_190 : zfw RX11 (190, 2, 10) ∈ zt := zt_of (zq_1 (List.mem_of_getElem? (i := 129) rfl)) rfl
theorem tf11_196 : zfw RX11 (196, 0, 2) ∈ zt := zt_of (zq_2 (List.mem_of_getElem? (i := 40) rfl)) rfl
theorem tf11_205 : zfw RX11 (205, 9, 0) ∈ zt := zt_of (zq_1 (List.mem_of_getElem? (i := 51) rfl)) rfl
theorem tf11_208 : zfw RX11 (208, 9, 1) ∈ zt := zt_of (zq_1 (List.mem_of_getElem? (i := 54) rfl)) rfl
theorem tf11_211 : zfw RX11 (211, 9, 2) ∈ zt := zt_of (zq_1 (List.mem_of_getElem? (i := 57) rfl)) rfl
theorem tf11_214 : zfw RX11 (214, 9, 3) ∈ zt := zt_of (zq_1 (List.mem_of_getElem? (i := 60) rfl)) rfl
theorem tf11_217 : zfw RX11 (217, 9, 4) ∈ zt := zt_of (zq_1 (List.mem_of_getElem? (i := 62) rfl)) rfl
theorem tf11_250 : zfw RX11 (250, 2, 11) ∈ zt := zt_of (zq_1 (List.mem_of_getElem? (i := 132) rfl)) rfl
theorem tf11_261 : zfw RX11 (261, 3, 4) ∈ zt := zt_of (zq_1 (List.mem_of_getElem? (i := 196) rfl)) rfl
theorem tf11_272 : zfw RX11 (272, 2, 16) ∈ zt := zt_of (zq_1 (List.mem_of_getElem? (i := 144) rfl)) rfl
theorem tf11_285 : zfw RX11 (285, 2, 18) ∈ zt := zt_of (zq_1 (List.mem_of_getElem? (i := 147) rfl)) rfl
theorem tf11_288 : zfw RX11 (288, 6, 1) ∈ zt := zt_of (zq_2 (List.mem_of_getElem? (i := 140) rfl)) rfl
theorem tf11_294 : zfw RX11 (294, 4, 1) ∈ zt := zt_of (zq_2 (List.mem_of_getElem? (i := 164) rfl)) rfl
theorem tf11_309 : zfw RX11 (309, 4, 3) ∈ zt := zt_of (zq_2 (List.mem_of_getElem? (i := 168) rfl)) rfl
theorem tf11_319 : zfw RX11 (319, 4, 2) ∈ zt := zt_of (zq_2 (List.mem_of_getElem? (i := 166) rfl)) rfl
theorem tf11_347 : zfw RX11 (347, 1, 6) ∈ zt := zt_of (zq_2 (List.mem_of_getElem? (i := 113) rfl)) rfl
theorem ti11_245 : Cond.constant RX11 245 (Int32.ofInt (-2147483648)) ∈ zt := zt_of (zq_5 (List.mem_of_getElem? (i := 90) rfl)) rfl
theorem tl11_167 : Cond.constantLong RX11 167 (Int64.ofInt 255) ∈ zt := zt_of (zq_4 (List.mem_of_getElem? (i := 69) rfl)) rfl
theorem tl11_253 : Cond.constantLong RX11 253 (Int64.ofInt (-2)) ∈ zt := zt_of (zq_5 (List.mem_of_getElem? (i := 133) rfl)) rfl
theorem tl11_255 : Cond.constantLong RX11 255 (Int64.ofInt (-3)) ∈ zt := zt_of (zq_5 (List.mem_of_getElem? (i := 134) rfl)) rfl
theorem tbX11_ok : zTok RX11 tbX11 := ⟨List.forall_mem_cons.mpr ⟨tf11_10, List.forall_mem_cons.mpr ⟨tf11_19, List.forall_mem_cons.mpr ⟨tf11_28, List.forall_mem_cons.mpr ⟨tf11_34, List.forall_mem_cons.mpr ⟨tf11_41, List.forall_mem_cons.mpr ⟨tf11_48, List.forall_mem_cons.mpr ⟨tf11_55, List.forall_mem_cons.mpr ⟨tf11_62, List.forall_mem_cons.mpr ⟨tf11_82, List.forall_mem_cons.mpr ⟨tf11_88, List.forall_mem_cons.mpr ⟨tf11_91, List.forall_mem_cons.mpr ⟨tf11_94, List.forall_mem_cons.mpr ⟨tf11_97, List.forall_mem_cons.mpr ⟨tf11_112, List.forall_mem_cons.mpr ⟨tf11_119, List.forall_mem_cons.mpr ⟨tf11_122, List.forall_mem_cons.mpr ⟨tf11_131, List.forall_mem_cons.mpr ⟨tf11_135, List.forall_mem_cons.mpr ⟨tf11_166, List.forall_mem_cons.mpr ⟨tf11_174, List.forall_mem_cons.mpr ⟨tf11_181, List.forall_mem_cons.mpr ⟨tf11_186, List.forall_mem_cons.mpr ⟨tf11_190, List.forall_mem_cons.mpr ⟨tf11_196, List.forall_mem_cons.mpr ⟨tf11_205, List.forall_mem_cons.mpr ⟨tf11_208, List.forall_mem_cons.mpr ⟨tf11_211, List.forall_mem_cons.mpr ⟨tf11_214, List.forall_mem_cons.mpr ⟨tf11_217, List.forall_mem_cons.mpr ⟨tf11_250, List.forall_mem_cons.mpr ⟨tf11_261, List.forall_mem_cons.mpr ⟨tf11_272, List.forall_mem_cons.mpr ⟨tf11_285, List.forall_mem_cons.mpr ⟨tf11_288, List.forall_mem_cons.mpr ⟨tf11_294, List.forall_mem_cons.mpr ⟨tf11_309, List.forall_mem_cons.mpr ⟨tf11_319, List.forall_mem_cons.mpr ⟨tf11_347, fun _ h => absurd h List.not_mem_nil⟩⟩⟩⟩⟩⟩⟩⟩⟩⟩⟩⟩⟩⟩⟩⟩⟩⟩⟩⟩⟩⟩⟩⟩⟩⟩⟩⟩⟩⟩⟩⟩⟩⟩⟩⟩⟩⟩, List.forall_mem_cons.mpr ⟨ti11_245, fun _ h => absurd h List.not_mem_nil⟩, List.forall_mem_cons.mpr ⟨tl11_167, List.forall_mem_cons.mpr ⟨tl11_253, List.forall_mem_cons.mpr ⟨tl11_255, fun _ h => absurd h List.not_mem_nil⟩⟩⟩⟩
def tbX3 : zT := ([(13, 3, 0), (17, 3, 1), (21, 3, 2), (24, 3, 3), (30, 3, 4), (34, 2, 1), (37, 2, 2), (40, 2, 0), (75, 2, 7), (94, 2, 8)], [], [])
theorem tf3_13 : zfw RX3 (13, 3, 0) ∈ zt := zt_of (zq_1 (List.mem_of_getElem? (i := 187) rfl)) rfl
theorem tf3_17 : zfw RX3 (17, 3, 1) ∈ zt := zt_of (zq_1 (List.mem_of_getElem? (i := 188) rfl)) rfl
theorem tf3_21 : zfw RX3 (21, 3, 2) ∈ zt := zt_of (zq_1 (List.mem_of_getElem? (i := 189) rfl)) rfl
theorem tf3_24 : zfw RX3 (24, 3, 3) ∈ zt := zt_of (zq_1 (List.mem_of_getElem? (i := 190) rfl)) rfl
theorem tf3_30 : zfw RX3 (30, 3, 4) ∈ zt := zt_of (zq_1 (List.mem_of_getElem? (i := 191) rfl)) rfl
theorem tf3_34 : zfw RX3 (34, 2, 1) ∈ zt := zt_of (zq_1 (List.mem_of_getElem? (i := 102) rfl)) rfl
theorem tf3_37 : zfw RX3 (37, 2, 2) ∈ zt := zt_of (zq_1 (List.mem_of_getElem? (i := 105) rfl)) rfl
theorem tf3_40 : zfw RX3 (40, 2, 0) ∈ zt := zt_of (zq_1 (List.mem_of_getElem? (i := 100) rfl)) rfl
theorem tf3_75 : zfw RX3 (75, 2, 7) ∈ zt := zt_of (zq_1 (List.mem_of_getElem? (i := 120) rfl)) rfl
theorem tf3_94 : zfw RX3 (94, 2, 8) ∈ zt := zt_of (zq_1 (List.mem_of_getElem? (i := 122) rfl)) rfl
theorem tbX3_ok : zTok RX3 tbX3 := ⟨List.forall_mem_cons.mpr ⟨tf3_13, List.forall_mem_cons.mpr ⟨tf3_17, List.forall_mem_cons.mpr ⟨tf3_21, List.forall_mem_cons.mpr ⟨tf3_24, List.forall_mem_cons.mpr ⟨tf3_30, List.forall_mem_cons.mpr ⟨tf3_34, List.forall_mem_cons.mpr ⟨tf3_37, List.forall_mem_cons.mpr ⟨tf3_40, List.forall_mem_cons.mpr ⟨tf3_75, List.forall_mem_cons.mpr ⟨tf3_94, fun _ h => absurd h List.not_mem_nil⟩⟩⟩⟩⟩⟩⟩⟩⟩⟩, fun _ h => absurd h List.not_mem_nil, fun _ h => absurd h List.not_mem_nil⟩
def tbX2 : zT := ([(9, 2, 3), (15, 2, 4), (21, 2, 8), (30, 2, 12), (37, 2, 13), (44, 2, 15), (50, 2, 17), (53, 2, 0), (62, 2, 2), (71, 2, 5), (74, 2, 6), (92, 2, 9), (98, 2, 14), (109, 2, 16)], [], [])
theorem tf2_9 : zfw RX2 (9, 2, 3) ∈ zt := zt_of (zq_1 (List.mem_of_getElem? (i := 108) rfl)) rfl
theorem tf2_15 : zfw RX2 (15, 2, 4) ∈ zt := zt_of (zq_1 (List.mem_of_getElem? (i := 110) rfl)) rfl
theorem tf2_21 : zfw RX2 (21, 2, 8) ∈ zt := zt_of (zq_1 (List.mem_of_getElem? (i := 121) rfl)) rfl
theorem tf2_30 : zfw RX2 (30, 2, 12) ∈ zt := zt_of (zq_1 (List.mem_of_getElem? (i := 133) rfl)) rfl
theorem tf2_37 : zfw RX2 (37, 2, 13) ∈ zt := zt_of (zq_1 (List.mem_of_getElem? (i := 135) rfl)) rfl
theorem tf2_44 : zfw RX2 (44, 2, 15) ∈ zt := zt_of (zq_1 (List.mem_of_getElem? (i := 139) rfl)) rfl
theorem tf2_50 : zfw RX2 (50, 2, 17) ∈ zt := zt_of (zq_1 (List.mem_of_getElem? (i := 145) rfl)) rfl
theorem tf2_53 : zfw RX2 (53, 2, 0) ∈ zt := zt_of (zq_1 (List.mem_of_getElem? (i := 99) rfl)) rfl
theorem tf2_62 : zfw RX2 (62, 2, 2) ∈ zt := zt_of (zq_1 (List.mem_of_getElem? (i := 104) rfl)) rfl
theorem tf2_71 : zfw RX2 (71, 2, 5) ∈ zt := zt_of (zq_1 (List.mem_of_getElem? (i := 112) rfl)) rfl
theorem tf2_74 : zfw RX2 (74, 2, 6) ∈ zt := zt_of (zq_1 (List.mem_of_getElem? (i := 114) rfl)) rfl
theorem tf2_92 : zfw RX2 (92, 2, 9) ∈ zt := zt_of (zq_1 (List.mem_of_getElem? (i := 125) rfl)) rfl
theorem tf2_98 : zfw RX2 (98, 2, 14) ∈ zt := zt_of (zq_1 (List.mem_of_getElem? (i := 138) rfl)) rfl
theorem tf2_109 : zfw RX2 (109, 2, 16) ∈ zt := zt_of (zq_1 (List.mem_of_getElem? (i := 143) rfl)) rfl
theorem tbX2_ok : zTok RX2 tbX2 := ⟨List.forall_mem_cons.mpr ⟨tf2_9, List.forall_mem_cons.mpr ⟨tf2_15, List.forall_mem_cons.mpr ⟨tf2_21, List.forall_mem_cons.mpr ⟨tf2_30, List.forall_mem_cons.mpr ⟨tf2_37, List.forall_mem_cons.mpr ⟨tf2_44, List.forall_mem_cons.mpr ⟨tf2_50, List.forall_mem_cons.mpr ⟨tf2_53, List.forall_mem_cons.mpr ⟨tf2_62, List.forall_mem_cons.mpr ⟨tf2_71, List.forall_mem_cons.mpr ⟨tf2_74, List.forall_mem_cons.mpr ⟨tf2_92, List.forall_mem_cons.mpr ⟨tf2_98, List.forall_mem_cons.mpr ⟨tf2_109, fun _ h => absurd h List.not_mem_nil⟩⟩⟩⟩⟩⟩⟩⟩⟩⟩⟩⟩⟩⟩, fun _ h => absurd h List.not_mem_nil, fun _ h => absurd h List.not_mem_nil⟩
def tbJ9 : zT := ([], [], [])
theorem tbJ9_ok : zTok RJ9 tbJ9 := ⟨fun _ h => absurd h List.not_mem_nil, fun _ h => absurd h List.not_mem_nil, fun _ h => absurd h List.not_mem_nil⟩
def tbX8 : zT := ([(9, 8, 0), (15, 8, 1), (20, 8, 2)], [], [])
theorem tf8_9 : zfw RX8 (9, 8, 0) ∈ zt := zt_of (zq_1 (List.mem_of_getElem? (i := 84) rfl)) rfl
theorem tf8_15 : zfw RX8 (15, 8, 1) ∈ zt := zt_of (zq_1 (List.mem_of_getElem? (i := 85) rfl)) rfl
theorem tf8_20 : zfw RX8 (20, 8, 2) ∈ zt := zt_of (zq_1 (List.mem_of_getElem? (i := 86) rfl)) rfl
theorem tbX8_ok : zTok RX8 tbX8 := ⟨List.forall_mem_cons.mpr ⟨tf8_9, List.forall_mem_cons.mpr ⟨tf8_15, List.forall_mem_cons.mpr ⟨tf8_20, fun _ h => absurd h List.not_mem_nil⟩⟩⟩, fun _ h => absurd h List.not_mem_nil, fun _ h => absurd h List.not_mem_nil⟩
def tbX0 : zT := ([(12, 0, 1), (21, 0, 2), (25, 0, 3), (29, 0, 4), (32, 0, 0), (36, 0, 5), (47, 3, 4), (65, 3, 5), (84, 0, 9), (95, 0, 7), (98, 0, 8), (115, 0, 6), (128, 2, 0), (134, 2, 10), (137, 2, 13), (147, 2, 7), (153, 2, 15), (166, 2, 14), (170, 8, 2), (173, 2, 9), (211, 2, 1)], [], [])
theorem tf0_12 : zfw RX0 (12, 0, 1) ∈ zt := zt_of (zq_2 (List.mem_of_getElem? (i := 37) rfl)) rfl
theorem tf0_21 : zfw RX0 (21, 0, 2) ∈ zt := zt_of (zq_2 (List.mem_of_getElem? (i := 39) rfl)) rfl
theorem tf0_25 : zfw RX0 (25, 0, 3) ∈ zt := zt_of (zq_2 (List.mem_of_getElem? (i := 41) rfl)) rfl
theorem tf0_29 : zfw RX0 (29, 0, 4) ∈ zt := zt_of (zq_2 (List.mem_of_getElem? (i := 42) rfl)) rfl
theorem tf0_32 : zfw RX0 (32, 0, 0) ∈ zt := zt_of (zq_2 (List.mem_of_getElem? (i := 36) rfl)) rfl
theorem tf0_36 : zfw RX0 (36, 0, 5) ∈ zt := zt_of (zq_2 (List.mem_of_getElem? (i := 43) rfl)) rfl
theorem tf0_47 : zfw RX0 (47, 3, 4) ∈ zt := zt_of (zq_1 (List.mem_of_getElem? (i := 193) rfl)) rfl
theorem tf0_65 : zfw RX0 (65, 3, 5) ∈ zt := zt_of (zq_1 (List.mem_of_getElem? (i := 198) rfl)) rfl
theorem tf0_84 : zfw RX0 (84, 0, 9) ∈ zt := zt_of (zq_2 (List.mem_of_getElem? (i := 47) rfl)) rfl
theorem tf0_95 : zfw RX0 (95, 0, 7) ∈ zt := zt_of (zq_2 (List.mem_of_getElem? (i := 45) rfl)) rfl
theorem tf0_98 : zfw RX0 (98, 0, 8) ∈ zt := zt_of (zq_2 (List.mem_of_getElem? (i := 46) rfl)) rfl
theorem tf0_115 : zfw RX0 (115, 0, 6) ∈ zt := zt_of (zq_2 (List.mem_of_getElem? (i := 44) rfl)) rfl
theorem tf0_128 : zfw RX0 (128, 2, 0) ∈ zt := zt_of (zq_1 (List.mem_of_getElem? (i := 101) rfl)) rfl
theorem tf0_134 : zfw RX0 (134, 2, 10) ∈ zt := zt_of (zq_1 (List.mem_of_getElem? (i := 128) rfl)) rfl
theorem tf0_137 : zfw RX0 (137, 2, 13) ∈ zt := zt_of (zq_1 (List.mem_of_getElem? (i := 136) rfl)) rfl
theorem tf0_147 : zfw RX0 (147, 2, 7) ∈ zt := zt_of (zq_1 (List.mem_of_getElem? (i := 119) rfl)) rfl
theorem tf0_153 : zfw RX0 (153, 2, 15) ∈ zt := zt_of (zq_1 (List.mem_of_getElem? (i := 141) rfl)) rfl
theorem tf0_166 : zfw RX0 (166, 2, 14) ∈ zt := zt_of (zq_1 (List.mem_of_getElem? (i := 137) rfl)) rfl
theorem tf0_170 : zfw RX0 (170, 8, 2) ∈ zt := zt_of (zq_1 (List.mem_of_getElem? (i := 88) rfl)) rfl
theorem tf0_173 : zfw RX0 (173, 2, 9) ∈ zt := zt_of (zq_1 (List.mem_of_getElem? (i := 126) rfl)) rfl
theorem tf0_211 : zfw RX0 (211, 2, 1) ∈ zt := zt_of (zq_1 (List.mem_of_getElem? (i := 103) rfl)) rfl
theorem tbX0_ok : zTok RX0 tbX0 := ⟨List.forall_mem_cons.mpr ⟨tf0_12, List.forall_mem_cons.mpr ⟨tf0_21, List.forall_mem_cons.mpr ⟨tf0_25, List.forall_mem_cons.mpr ⟨tf0_29, List.forall_mem_cons.mpr ⟨tf0_32, List.forall_mem_cons.mpr ⟨tf0_36, List.forall_mem_cons.mpr ⟨tf0_47, List.forall_mem_cons.mpr ⟨tf0_65, List.forall_mem_cons.mpr ⟨tf0_84, List.forall_mem_cons.mpr ⟨tf0_95, List.forall_mem_cons.mpr ⟨tf0_98, List.forall_mem_cons.mpr ⟨tf0_115, List.forall_mem_cons.mpr ⟨tf0_128, List.forall_mem_cons.mpr ⟨tf0_134, List.forall_mem_cons.mpr ⟨tf0_137, List.forall_mem_cons.mpr ⟨tf0_147, List.forall_mem_cons.mpr ⟨tf0_153, List.forall_mem_cons.mpr ⟨tf0_166, List.forall_mem_cons.mpr ⟨tf0_170, List.forall_mem_cons.mpr ⟨tf0_173, List.forall_mem_cons.mpr ⟨tf0_211, fun _ h => absurd h List.not_mem_nil⟩⟩⟩⟩⟩⟩⟩⟩⟩⟩⟩⟩⟩⟩⟩⟩⟩⟩⟩⟩⟩, fun _ h => absurd h List.not_mem_nil, fun _ h => absurd h List.not_mem_nil⟩
def tbX7 : zT := ([(11, 7, 3), (15, 7, 4), (18, 7, 5), (22, 7, 1), (26, 7, 0), (29, 7, 2), (36, 9, 2), (44, 9, 0), (47, 9, 1), (50, 9, 3)], [], [])
theorem tf7_11 : zfw RX7 (11, 7, 3) ∈ zt := zt_of (zq_1 (List.mem_of_getElem? (i := 231) rfl)) rfl
theorem tf7_15 : zfw RX7 (15, 7, 4) ∈ zt := zt_of (zq_1 (List.mem_of_getElem? (i := 232) rfl)) rfl
theorem tf7_18 : zfw RX7 (18, 7, 5) ∈ zt := zt_of (zq_1 (List.mem_of_getElem? (i := 233) rfl)) rfl
theorem tf7_22 : zfw RX7 (22, 7, 1) ∈ zt := zt_of (zq_1 (List.mem_of_getElem? (i := 227) rfl)) rfl
theorem tf7_26 : zfw RX7 (26, 7, 0) ∈ zt := zt_of (zq_1 (List.mem_of_getElem? (i := 225) rfl)) rfl
theorem tf7_29 : zfw RX7 (29, 7, 2) ∈ zt := zt_of (zq_1 (List.mem_of_getElem? (i := 230) rfl)) rfl
theorem tf7_36 : zfw RX7 (36, 9, 2) ∈ zt := zt_of (zq_1 (List.mem_of_getElem? (i := 56) rfl)) rfl
theorem tf7_44 : zfw RX7 (44, 9, 0) ∈ zt := zt_of (zq_1 (List.mem_of_getElem? (i := 50) rfl)) rfl
theorem tf7_47 : zfw RX7 (47, 9, 1) ∈ zt := zt_of (zq_1 (List.mem_of_getElem? (i := 53) rfl)) rfl
theorem tf7_50 : zfw RX7 (50, 9, 3) ∈ zt := zt_of (zq_1 (List.mem_of_getElem? (i := 59) rfl)) rfl
theorem tbX7_ok : zTok RX7 tbX7 := ⟨List.forall_mem_cons.mpr ⟨tf7_11, List.forall_mem_cons.mpr ⟨tf7_15, List.forall_mem_cons.mpr ⟨tf7_18, List.forall_mem_cons.mpr ⟨tf7_22, List.forall_mem_cons.mpr ⟨tf7_26, List.forall_mem_cons.mpr ⟨tf7_29, List.forall_mem_cons.mpr ⟨tf7_36, List.forall_mem_cons.mpr ⟨tf7_44, List.forall_mem_cons.mpr ⟨tf7_47, List.forall_mem_cons.mpr ⟨tf7_50, fun _ h => absurd h List.not_mem_nil⟩⟩⟩⟩⟩⟩⟩⟩⟩⟩, fun _ h => absurd h List.not_mem_nil, fun _ h => absurd h List.not_mem_nil⟩
def tbX9 : zT := ([(7, 9, 2), (13, 9, 0), (16, 9, 1), (19, 9, 3), (22, 9, 4)], [], [])
theorem tf9_7 : zfw RX9 (7, 9, 2) ∈ zt := zt_of (zq_1 (List.mem_of_getElem? (i := 55) rfl)) rfl
theorem tf9_13 : zfw RX9 (13, 9, 0) ∈ zt := zt_of (zq_1 (List.mem_of_getElem? (i := 49) rfl)) rfl
theorem tf9_16 : zfw RX9 (16, 9, 1) ∈ zt := zt_of (zq_1 (List.mem_of_getElem? (i := 52) rfl)) rfl
theorem tf9_19 : zfw RX9 (19, 9, 3) ∈ zt := zt_of (zq_1 (List.mem_of_getElem? (i := 58) rfl)) rfl
theorem tf9_22 : zfw RX9 (22, 9, 4) ∈ zt := zt_of (zq_1 (List.mem_of_getElem? (i := 61) rfl)) rfl
theorem tbX9_ok : zTok RX9 tbX9 := ⟨List.forall_mem_cons.mpr ⟨tf9_7, List.forall_mem_cons.mpr ⟨tf9_13, List.forall_mem_cons.mpr ⟨tf9_16, List.forall_mem_cons.mpr ⟨tf9_19, List.forall_mem_cons.mpr ⟨tf9_22, fun _ h => absurd h List.not_mem_nil⟩⟩⟩⟩⟩, fun _ h => absurd h List.not_mem_nil, fun _ h => absurd h List.not_mem_nil⟩
def tbJ6 : zT := ([], [(264, 65536), (265, 1431655765), (266, 858993459), (267, 252645135)], [])
theorem tiJ6_264 : Cond.constant RJ6 264 (Int32.ofInt 65536) ∈ zt := zt_of (zq_5 (List.mem_of_getElem? (i := 56) rfl)) rfl
theorem tiJ6_265 : Cond.constant RJ6 265 (Int32.ofInt 1431655765) ∈ zt := zt_of (zq_4 (List.mem_of_getElem? (i := 15) rfl)) rfl
theorem tiJ6_266 : Cond.constant RJ6 266 (Int32.ofInt 858993459) ∈ zt := zt_of (zq_4 (List.mem_of_getElem? (i := 16) rfl)) rfl
theorem tiJ6_267 : Cond.constant RJ6 267 (Int32.ofInt 252645135) ∈ zt := zt_of (zq_4 (List.mem_of_getElem? (i := 17) rfl)) rfl
theorem tbJ6_ok : zTok RJ6 tbJ6 := ⟨fun _ h => absurd h List.not_mem_nil, List.forall_mem_cons.mpr ⟨tiJ6_264, List.forall_mem_cons.mpr ⟨tiJ6_265, List.forall_mem_cons.mpr ⟨tiJ6_266, List.forall_mem_cons.mpr ⟨tiJ6_267, fun _ h => absurd h List.not_mem_nil⟩⟩⟩⟩, fun _ h => absurd h List.not_mem_nil⟩
def tbX10 : zT := ([(11, 10, 0), (18, 10, 4), (22, 10, 1), (29, 10, 3), (45, 10, 2), (54, 7, 0), (88, 7, 1)], [], [])
theorem tf10_11 : zfw RX10 (11, 10, 0) ∈ zt := zt_of (zq_2 (List.mem_of_getElem? (i := 8) rfl)) rfl
theorem tf10_18 : zfw RX10 (18, 10, 4) ∈ zt := zt_of (zq_2 (List.mem_of_getElem? (i := 13) rfl)) rfl
theorem tf10_22 : zfw RX10 (22, 10, 1) ∈ zt := zt_of (zq_2 (List.mem_of_getElem? (i := 9) rfl)) rfl
theorem tf10_29 : zfw RX10 (29, 10, 3) ∈ zt := zt_of (zq_2 (List.mem_of_getElem? (i := 12) rfl)) rfl
theorem tf10_45 : zfw RX10 (45, 10, 2) ∈ zt := zt_of (zq_2 (List.mem_of_getElem? (i := 11) rfl)) rfl
theorem tf10_54 : zfw RX10 (54, 7, 0) ∈ zt := zt_of (zq_1 (List.mem_of_getElem? (i := 226) rfl)) rfl
theorem tf10_88 : zfw RX10 (88, 7, 1) ∈ zt := zt_of (zq_1 (List.mem_of_getElem? (i := 228) rfl)) rfl
theorem tbX10_ok : zTok RX10 tbX10 := ⟨List.forall_mem_cons.mpr ⟨tf10_11, List.forall_mem_cons.mpr ⟨tf10_18, List.forall_mem_cons.mpr ⟨tf10_22, List.forall_mem_cons.mpr ⟨tf10_29, List.forall_mem_cons.mpr ⟨tf10_45, List.forall_mem_cons.mpr ⟨tf10_54, List.forall_mem_cons.mpr ⟨tf10_88, fun _ h => absurd h List.not_mem_nil⟩⟩⟩⟩⟩⟩⟩, fun _ h => absurd h List.not_mem_nil, fun _ h => absurd h List.not_mem_nil⟩
def tbX5 : zT := ([(11, 5, 2), (17, 5, 3), (20, 5, 4), (23, 5, 5), (26, 5, 6), (29, 5, 7), (32, 5, 0), (36, 5, 1), (51, 2, 7), (57, 3, 5), (95, 3, 4), (114, 2, 2)], [], [])
theorem tf5_11 : zfw RX5 (11, 5, 2) ∈ zt := zt_of (zq_2 (List.mem_of_getElem? (i := 77) rfl)) rfl
theorem tf5_17 : zfw RX5 (17, 5, 3) ∈ zt := zt_of (zq_2 (List.mem_of_getElem? (i := 78) rfl)) rfl
theorem tf5_20 : zfw RX5 (20, 5, 4) ∈ zt := zt_of (zq_2 (List.mem_of_getElem? (i := 79) rfl)) rfl
theorem tf5_23 : zfw RX5 (23, 5, 5) ∈ zt := zt_of (zq_2 (List.mem_of_getElem? (i := 80) rfl)) rfl
theorem tf5_26 : zfw RX5 (26, 5, 6) ∈ zt := zt_of (zq_2 (List.mem_of_getElem? (i := 81) rfl)) rfl
theorem tf5_29 : zfw RX5 (29, 5, 7) ∈ zt := zt_of (zq_2 (List.mem_of_getElem? (i := 82) rfl)) rfl
theorem tf5_32 : zfw RX5 (32, 5, 0) ∈ zt := zt_of (zq_2 (List.mem_of_getElem? (i := 75) rfl)) rfl
theorem tf5_36 : zfw RX5 (36, 5, 1) ∈ zt := zt_of (zq_2 (List.mem_of_getElem? (i := 76) rfl)) rfl
theorem tf5_51 : zfw RX5 (51, 2, 7) ∈ zt := zt_of (zq_1 (List.mem_of_getElem? (i := 117) rfl)) rfl
theorem tf5_57 : zfw RX5 (57, 3, 5) ∈ zt := zt_of (zq_1 (List.mem_of_getElem? (i := 197) rfl)) rfl
theorem tf5_95 : zfw RX5 (95, 3, 4) ∈ zt := zt_of (zq_1 (List.mem_of_getElem? (i := 194) rfl)) rfl
theorem tf5_114 : zfw RX5 (114, 2, 2) ∈ zt := zt_of (zq_1 (List.mem_of_getElem? (i := 107) rfl)) rfl
theorem tbX5_ok : zTok RX5 tbX5 := ⟨List.forall_mem_cons.mpr ⟨tf5_11, List.forall_mem_cons.mpr ⟨tf5_17, List.forall_mem_cons.mpr ⟨tf5_20, List.forall_mem_cons.mpr ⟨tf5_23, List.forall_mem_cons.mpr ⟨tf5_26, List.forall_mem_cons.mpr ⟨tf5_29, List.forall_mem_cons.mpr ⟨tf5_32, List.forall_mem_cons.mpr ⟨tf5_36, List.forall_mem_cons.mpr ⟨tf5_51, List.forall_mem_cons.mpr ⟨tf5_57, List.forall_mem_cons.mpr ⟨tf5_95, List.forall_mem_cons.mpr ⟨tf5_114, fun _ h => absurd h List.not_mem_nil⟩⟩⟩⟩⟩⟩⟩⟩⟩⟩⟩⟩, fun _ h => absurd h List.not_mem_nil, fun _ h => absurd h List.not_mem_nil⟩
def tbJ7 : zT := ([], [], [])
theorem tbJ7_ok : zTok RJ7 tbJ7 := ⟨fun _ h => absurd h List.not_mem_nil, fun _ h => absurd h List.not_mem_nil, fun _ h => absurd h List.not_mem_nil⟩
def tbX1 : zT := ([(11, 1, 1), (15, 1, 2), (18, 1, 3), (21, 1, 4), (24, 1, 5), (29, 1, 7), (32, 1, 0), (36, 1, 6), (74, 3, 4), (98, 2, 11)], [(42, (-2147483648)), (43, 2147483647)], [])
theorem tf1_11 : zfw RX1 (11, 1, 1) ∈ zt := zt_of (zq_2 (List.mem_of_getElem? (i := 107) rfl)) rfl
theorem tf1_15 : zfw RX1 (15, 1, 2) ∈ zt := zt_of (zq_2 (List.mem_of_getElem? (i := 108) rfl)) rfl
theorem tf1_18 : zfw RX1 (18, 1, 3) ∈ zt := zt_of (zq_2 (List.mem_of_getElem? (i := 109) rfl)) rfl
theorem tf1_21 : zfw RX1 (21, 1, 4) ∈ zt := zt_of (zq_2 (List.mem_of_getElem? (i := 110) rfl)) rfl
theorem tf1_24 : zfw RX1 (24, 1, 5) ∈ zt := zt_of (zq_2 (List.mem_of_getElem? (i := 111) rfl)) rfl
theorem tf1_29 : zfw RX1 (29, 1, 7) ∈ zt := zt_of (zq_2 (List.mem_of_getElem? (i := 114) rfl)) rfl
theorem tf1_32 : zfw RX1 (32, 1, 0) ∈ zt := zt_of (zq_2 (List.mem_of_getElem? (i := 106) rfl)) rfl
theorem tf1_36 : zfw RX1 (36, 1, 6) ∈ zt := zt_of (zq_2 (List.mem_of_getElem? (i := 112) rfl)) rfl
theorem tf1_74 : zfw RX1 (74, 3, 4) ∈ zt := zt_of (zq_1 (List.mem_of_getElem? (i := 195) rfl)) rfl
theorem tf1_98 : zfw RX1 (98, 2, 11) ∈ zt := zt_of (zq_1 (List.mem_of_getElem? (i := 131) rfl)) rfl
theorem ti1_42 : Cond.constant RX1 42 (Int32.ofInt (-2147483648)) ∈ zt := zt_of (zq_5 (List.mem_of_getElem? (i := 95) rfl)) rfl
theorem ti1_43 : Cond.constant RX1 43 (Int32.ofInt 2147483647) ∈ zt := zt_of (zq_5 (List.mem_of_getElem? (i := 96) rfl)) rfl
theorem tbX1_ok : zTok RX1 tbX1 := ⟨List.forall_mem_cons.mpr ⟨tf1_11, List.forall_mem_cons.mpr ⟨tf1_15, List.forall_mem_cons.mpr ⟨tf1_18, List.forall_mem_cons.mpr ⟨tf1_21, List.forall_mem_cons.mpr ⟨tf1_24, List.forall_mem_cons.mpr ⟨tf1_29, List.forall_mem_cons.mpr ⟨tf1_32, List.forall_mem_cons.mpr ⟨tf1_36, List.forall_mem_cons.mpr ⟨tf1_74, List.forall_mem_cons.mpr ⟨tf1_98, fun _ h => absurd h List.not_mem_nil⟩⟩⟩⟩⟩⟩⟩⟩⟩⟩, List.forall_mem_cons.mpr ⟨ti1_42, List.forall_mem_cons.mpr ⟨ti1_43, fun _ h => absurd h List.not_mem_nil⟩⟩, fun _ h => absurd h List.not_mem_nil⟩
def tbX6 : zT := ([(9, 6, 4), (15, 6, 0), (19, 6, 2), (23, 6, 1), (26, 3, 4), (33, 2, 16), (48, 6, 3), (63, 2, 9), (84, 2, 18)], [], [(38, 255)])
theorem tf6_9 : zfw RX6 (9, 6, 4) ∈ zt := zt_of (zq_2 (List.mem_of_getElem? (i := 143) rfl)) rfl
theorem tf6_15 : zfw RX6 (15, 6, 0) ∈ zt := zt_of (zq_2 (List.mem_of_getElem? (i := 138) rfl)) rfl
theorem tf6_19 : zfw RX6 (19, 6, 2) ∈ zt := zt_of (zq_2 (List.mem_of_getElem? (i := 141) rfl)) rfl
theorem tf6_23 : zfw RX6 (23, 6, 1) ∈ zt := zt_of (zq_2 (List.mem_of_getElem? (i := 139) rfl)) rfl
theorem tf6_26 : zfw RX6 (26, 3, 4) ∈ zt := zt_of (zq_1 (List.mem_of_getElem? (i := 192) rfl)) rfl
theorem tf6_33 : zfw RX6 (33, 2, 16) ∈ zt := zt_of (zq_1 (List.mem_of_getElem? (i := 142) rfl)) rfl
theorem tf6_48 : zfw RX6 (48, 6, 3) ∈ zt := zt_of (zq_2 (List.mem_of_getElem? (i := 142) rfl)) rfl
theorem tf6_63 : zfw RX6 (63, 2, 9) ∈ zt := zt_of (zq_1 (List.mem_of_getElem? (i := 124) rfl)) rfl
theorem tf6_84 : zfw RX6 (84, 2, 18) ∈ zt := zt_of (zq_1 (List.mem_of_getElem? (i := 146) rfl)) rfl
theorem tl6_38 : Cond.constantLong RX6 38 (Int64.ofInt 255) ∈ zt := zt_of (zq_5 (List.mem_of_getElem? (i := 159) rfl)) rfl
theorem tbX6_ok : zTok RX6 tbX6 := ⟨List.forall_mem_cons.mpr ⟨tf6_9, List.forall_mem_cons.mpr ⟨tf6_15, List.forall_mem_cons.mpr ⟨tf6_19, List.forall_mem_cons.mpr ⟨tf6_23, List.forall_mem_cons.mpr ⟨tf6_26, List.forall_mem_cons.mpr ⟨tf6_33, List.forall_mem_cons.mpr ⟨tf6_48, List.forall_mem_cons.mpr ⟨tf6_63, List.forall_mem_cons.mpr ⟨tf6_84, fun _ h => absurd h List.not_mem_nil⟩⟩⟩⟩⟩⟩⟩⟩⟩, fun _ h => absurd h List.not_mem_nil, List.forall_mem_cons.mpr ⟨tl6_38, fun _ h => absurd h List.not_mem_nil⟩⟩
def tbX4 : zT := ([(9, 4, 1), (15, 4, 3), (19, 4, 4), (22, 4, 5), (25, 4, 6), (28, 4, 7), (31, 4, 8), (34, 4, 9), (37, 4, 10), (40, 4, 11), (43, 4, 12), (46, 4, 0), (75, 4, 2), (108, 4, 13), (111, 4, 14), (114, 4, 15), (117, 4, 16), (120, 4, 17)], [], [])
theorem tf4_9 : zfw RX4 (9, 4, 1) ∈ zt := zt_of (zq_2 (List.mem_of_getElem? (i := 163) rfl)) rfl
theorem tf4_15 : zfw RX4 (15, 4, 3) ∈ zt := zt_of (zq_2 (List.mem_of_getElem? (i := 167) rfl)) rfl
theorem tf4_19 : zfw RX4 (19, 4, 4) ∈ zt := zt_of (zq_2 (List.mem_of_getElem? (i := 169) rfl)) rfl
theorem tf4_22 : zfw RX4 (22, 4, 5) ∈ zt := zt_of (zq_2 (List.mem_of_getElem? (i := 170) rfl)) rfl
theorem tf4_25 : zfw RX4 (25, 4, 6) ∈ zt := zt_of (zq_2 (List.mem_of_getElem? (i := 171) rfl)) rfl
theorem tf4_28 : zfw RX4 (28, 4, 7) ∈ zt := zt_of (zq_2 (List.mem_of_getElem? (i := 172) rfl)) rfl
theorem tf4_31 : zfw RX4 (31, 4, 8) ∈ zt := zt_of (zq_2 (List.mem_of_getElem? (i := 173) rfl)) rfl
theorem tf4_34 : zfw RX4 (34, 4, 9) ∈ zt := zt_of (zq_2 (List.mem_of_getElem? (i := 174) rfl)) rfl
theorem tf4_37 : zfw RX4 (37, 4, 10) ∈ zt := zt_of (zq_2 (List.mem_of_getElem? (i := 175) rfl)) rfl
theorem tf4_40 : zfw RX4 (40, 4, 11) ∈ zt := zt_of (zq_2 (List.mem_of_getElem? (i := 176) rfl)) rfl
theorem tf4_43 : zfw RX4 (43, 4, 12) ∈ zt := zt_of (zq_2 (List.mem_of_getElem? (i := 177) rfl)) rfl
theorem tf4_46 : zfw RX4 (46, 4, 0) ∈ zt := zt_of (zq_2 (List.mem_of_getElem? (i := 162) rfl)) rfl
theorem tf4_75 : zfw RX4 (75, 4, 2) ∈ zt := zt_of (zq_2 (List.mem_of_getElem? (i := 165) rfl)) rfl
theorem tf4_108 : zfw RX4 (108, 4, 13) ∈ zt := zt_of (zq_2 (List.mem_of_getElem? (i := 178) rfl)) rfl
theorem tf4_111 : zfw RX4 (111, 4, 14) ∈ zt := zt_of (zq_2 (List.mem_of_getElem? (i := 179) rfl)) rfl
theorem tf4_114 : zfw RX4 (114, 4, 15) ∈ zt := zt_of (zq_2 (List.mem_of_getElem? (i := 180) rfl)) rfl
theorem tf4_117 : zfw RX4 (117, 4, 16) ∈ zt := zt_of (zq_2 (List.mem_of_getElem? (i := 181) rfl)) rfl
theorem tf4_120 : zfw RX4 (120, 4, 17) ∈ zt := zt_of (zq_2 (List.mem_of_getElem? (i := 182) rfl)) rfl
theorem tbX4_ok : zTok RX4 tbX4 := ⟨List.forall_mem_cons.mpr ⟨tf4_9, List.forall_mem_cons.mpr ⟨tf4_15, List.forall_mem_cons.mpr ⟨tf4_19, List.forall_mem_cons.mpr ⟨tf4_22, List.forall_mem_cons.mpr ⟨tf4_25, List.forall_mem_cons.mpr ⟨tf4_28, List.forall_mem_cons.mpr ⟨tf4_31, List.forall_mem_cons.mpr ⟨tf4_34, List.forall_mem_cons.mpr ⟨tf4_37, List.forall_mem_cons.mpr ⟨tf4_40, List.forall_mem_cons.mpr ⟨tf4_43, List.forall_mem_cons.mpr ⟨tf4_46, List.forall_mem_cons.mpr ⟨tf4_75, List.forall_mem_cons.mpr ⟨tf4_108, List.forall_mem_cons.mpr ⟨tf4_111, List.forall_mem_cons.mpr ⟨tf4_114, List.forall_mem_cons.mpr ⟨tf4_117, List.forall_mem_cons.mpr ⟨tf4_120, fun _ h => absurd h List.not_mem_nil⟩⟩⟩⟩⟩⟩⟩⟩⟩⟩⟩⟩⟩⟩⟩⟩⟩⟩, fun _ h => absurd h List.not_mem_nil, fun _ h => absurd h List.not_mem_nil⟩
theorem m11_outside_cd : Cond.code yX11_outside cX11_outside 3 (some .boolean) ∈ zt := zt_of (zq_3 (List.mem_of_getElem? (i := 8) rfl)) rfl
theorem m11_outside_ni : Cond.initialized yX11_outside.cls ∈ zt := zt_of (zq_1 (List.mem_of_getElem? (i := 1) rfl)) rfl
theorem m11_outside_in : Cond.static yX11_outside ∈ zt := zt_of (zq_3 (List.mem_of_getElem? (i := 7) rfl)) rfl
theorem m3_add_cd : Cond.code yX3_add cX3_add 4 (some .int) ∈ zt := zt_of (zq_3 (List.mem_of_getElem? (i := 12) rfl)) rfl
theorem m3_add_ni : Cond.initialized yX3_add.cls ∈ zt := zt_of (zq_1 (List.mem_of_getElem? (i := 2) rfl)) rfl
theorem m3_add_in : Cond.instanceMethod yX3_add ∈ zt := zt_of (zq_3 (List.mem_of_getElem? (i := 10) rfl)) rfl
theorem m3_add_se : Cond.selects (zRt 3) yX3_add yX3_add ∈ zt := zt_of (zq_3 (List.mem_of_getElem? (i := 11) rfl)) rfl
theorem m11_box_cd : Cond.code yX11_box cX11_box 3 (some .int) ∈ zt := zt_of (zq_3 (List.mem_of_getElem? (i := 5) rfl)) rfl
theorem m11_box_ni : Cond.initialized yX11_box.cls ∈ zt := zt_of (zq_1 (List.mem_of_getElem? (i := 1) rfl)) rfl
theorem m11_box_in : Cond.instanceMethod yX11_box ∈ zt := zt_of (zq_3 (List.mem_of_getElem? (i := 3) rfl)) rfl
theorem m11_box_se : Cond.selects (zRt 11) yX11_box yX11_box ∈ zt := zt_of (zq_3 (List.mem_of_getElem? (i := 4) rfl)) rfl
theorem m3_knows_cd : Cond.code yX3_knows cX3_knows 2 (some .boolean) ∈ zt := zt_of (zq_3 (List.mem_of_getElem? (i := 20) rfl)) rfl
theorem m3_knows_ni : Cond.initialized yX3_knows.cls ∈ zt := zt_of (zq_1 (List.mem_of_getElem? (i := 2) rfl)) rfl
theorem m3_knows_in : Cond.instanceMethod yX3_knows ∈ zt := zt_of (zq_3 (List.mem_of_getElem? (i := 18) rfl)) rfl
theorem m3_knows_se : Cond.selects (zRt 3) yX3_knows yX3_knows ∈ zt := zt_of (zq_3 (List.mem_of_getElem? (i := 19) rfl)) rfl
theorem m3_of_cd : Cond.code yX3_of cX3_of 2 (some (.object "EarField$Box")) ∈ zt := zt_of (zq_3 (List.mem_of_getElem? (i := 24) rfl)) rfl
theorem m3_of_ni : Cond.initialized yX3_of.cls ∈ zt := zt_of (zq_1 (List.mem_of_getElem? (i := 2) rfl)) rfl
theorem m3_of_in : Cond.instanceMethod yX3_of ∈ zt := zt_of (zq_3 (List.mem_of_getElem? (i := 22) rfl)) rfl
theorem m3_of_se : Cond.selects (zRt 3) yX3_of yX3_of ∈ zt := zt_of (zq_3 (List.mem_of_getElem? (i := 23) rfl)) rfl
theorem m11_hears_cd : Cond.code yX11_hears cX11_hears 6 (some .int) ∈ zt := zt_of (zq_3 (List.mem_of_getElem? (i := 16) rfl)) rfl
theorem m11_hears_ni : Cond.initialized yX11_hears.cls ∈ zt := zt_of (zq_1 (List.mem_of_getElem? (i := 1) rfl)) rfl
theorem m11_hears_in : Cond.instanceMethod yX11_hears ∈ zt := zt_of (zq_3 (List.mem_of_getElem? (i := 14) rfl)) rfl
theorem m11_hears_se : Cond.selects (zRt 11) yX11_hears yX11_hears ∈ zt := zt_of (zq_3 (List.mem_of_getElem? (i := 15) rfl)) rfl
theorem m11_sleep_cd : Cond.code yX11_sleep cX11_sleep 5 (some .int) ∈ zt := zt_of (zq_3 (List.mem_of_getElem? (i := 28) rfl)) rfl
theorem m11_sleep_ni : Cond.initialized yX11_sleep.cls ∈ zt := zt_of (zq_1 (List.mem_of_getElem? (i := 1) rfl)) rfl
theorem m11_sleep_in : Cond.instanceMethod yX11_sleep ∈ zt := zt_of (zq_3 (List.mem_of_getElem? (i := 26) rfl)) rfl
theorem m11_sleep_se : Cond.selects (zRt 11) yX11_sleep yX11_sleep ∈ zt := zt_of (zq_3 (List.mem_of_getElem? (i := 27) rfl)) rfl
theorem m11_clock_cd : Cond.code yX11_clock cX11_clock 5 (some .int) ∈ zt := zt_of (zq_3 (List.mem_of_getElem? (i := 32) rfl)) rfl
theorem m11_clock_ni : Cond.initialized yX11_clock.cls ∈ zt := zt_of (zq_1 (List.mem_of_getElem? (i := 1) rfl)) rfl
theorem m11_clock_in : Cond.instanceMethod yX11_clock ∈ zt := zt_of (zq_3 (List.mem_of_getElem? (i := 30) rfl)) rfl
theorem m11_clock_se : Cond.selects (zRt 11) yX11_clock yX11_clock ∈ zt := zt_of (zq_3 (List.mem_of_getElem? (i := 31) rfl)) rfl
theorem m3_maySet_cd : Cond.code yX3_maySet cX3_maySet 3 (some .boolean) ∈ zt := zt_of (zq_3 (List.mem_of_getElem? (i := 40) rfl)) rfl
theorem m3_maySet_ni : Cond.initialized yX3_maySet.cls ∈ zt := zt_of (zq_1 (List.mem_of_getElem? (i := 2) rfl)) rfl
theorem m3_maySet_in : Cond.instanceMethod yX3_maySet ∈ zt := zt_of (zq_3 (List.mem_of_getElem? (i := 38) rfl)) rfl
theorem m3_maySet_se : Cond.selects (zRt 3) yX3_maySet yX3_maySet ∈ zt := zt_of (zq_3 (List.mem_of_getElem? (i := 39) rfl)) rfl
theorem m3_setting_cd : Cond.code yX3_setting cX3_setting 2 (some .int) ∈ zt := zt_of (zq_3 (List.mem_of_getElem? (i := 48) rfl)) rfl
theorem m3_setting_ni : Cond.initialized yX3_setting.cls ∈ zt := zt_of (zq_1 (List.mem_of_getElem? (i := 2) rfl)) rfl
theorem m3_setting_in : Cond.instanceMethod yX3_setting ∈ zt := zt_of (zq_3 (List.mem_of_getElem? (i := 46) rfl)) rfl
theorem m3_setting_se : Cond.selects (zRt 3) yX3_setting yX3_setting ∈ zt := zt_of (zq_3 (List.mem_of_getElem? (i := 47) rfl)) rfl
theorem m3_change_cd : Cond.code yX3_change cX3_change 3 (none) ∈ zt := zt_of (zq_3 (List.mem_of_getElem? (i := 52) rfl)) rfl
theorem m3_change_ni : Cond.initialized yX3_change.cls ∈ zt := zt_of (zq_1 (List.mem_of_getElem? (i := 2) rfl)) rfl
theorem m3_change_in : Cond.instanceMethod yX3_change ∈ zt := zt_of (zq_3 (List.mem_of_getElem? (i := 50) rfl)) rfl
theorem m3_change_se : Cond.selects (zRt 3) yX3_change yX3_change ∈ zt := zt_of (zq_3 (List.mem_of_getElem? (i := 51) rfl)) rfl
theorem m11_set_cd : Cond.code yX11_set cX11_set 4 (some .int) ∈ zt := zt_of (zq_3 (List.mem_of_getElem? (i := 36) rfl)) rfl
theorem m11_set_ni : Cond.initialized yX11_set.cls ∈ zt := zt_of (zq_1 (List.mem_of_getElem? (i := 1) rfl)) rfl
theorem m11_set_in : Cond.instanceMethod yX11_set ∈ zt := zt_of (zq_3 (List.mem_of_getElem? (i := 34) rfl)) rfl
theorem m11_set_se : Cond.selects (zRt 11) yX11_set yX11_set ∈ zt := zt_of (zq_3 (List.mem_of_getElem? (i := 35) rfl)) rfl
theorem m11_power_cd : Cond.code yX11_power cX11_power 5 (some .int) ∈ zt := zt_of (zq_3 (List.mem_of_getElem? (i := 57) rfl)) rfl
theorem m11_power_ni : Cond.initialized yX11_power.cls ∈ zt := zt_of (zq_1 (List.mem_of_getElem? (i := 1) rfl)) rfl
theorem m11_power_in : Cond.instanceMethod yX11_power ∈ zt := zt_of (zq_3 (List.mem_of_getElem? (i := 55) rfl)) rfl
theorem m11_power_se : Cond.selects (zRt 11) yX11_power yX11_power ∈ zt := zt_of (zq_3 (List.mem_of_getElem? (i := 56) rfl)) rfl
theorem m2_isDead_cd : Cond.code yX2_isDead cX2_isDead 1 (some .boolean) ∈ zt := zt_of (zq_3 (List.mem_of_getElem? (i := 69) rfl)) rfl
theorem m2_isDead_ni : Cond.initialized yX2_isDead.cls ∈ zt := zt_of (zq_1 (List.mem_of_getElem? (i := 3) rfl)) rfl
theorem m2_isDead_in : Cond.instanceMethod yX2_isDead ∈ zt := zt_of (zq_3 (List.mem_of_getElem? (i := 67) rfl)) rfl
theorem m2_isDead_se : Cond.selects (zRt 2) yX2_isDead yX2_isDead ∈ zt := zt_of (zq_3 (List.mem_of_getElem? (i := 68) rfl)) rfl
theorem m2_countNow_cd : Cond.code yX2_countNow cX2_countNow 1 (some .int) ∈ zt := zt_of (zq_3 (List.mem_of_getElem? (i := 65) rfl)) rfl
theorem m2_countNow_ni : Cond.initialized yX2_countNow.cls ∈ zt := zt_of (zq_1 (List.mem_of_getElem? (i := 3) rfl)) rfl
theorem m2_countNow_in : Cond.instanceMethod yX2_countNow ∈ zt := zt_of (zq_3 (List.mem_of_getElem? (i := 63) rfl)) rfl
theorem m2_countNow_se : Cond.selects (zRt 2) yX2_countNow yX2_countNow ∈ zt := zt_of (zq_3 (List.mem_of_getElem? (i := 64) rfl)) rfl
theorem m2_localHour_cd : Cond.code yX2_localHour cX2_localHour 2 (some .int) ∈ zt := zt_of (zq_3 (List.mem_of_getElem? (i := 73) rfl)) rfl
theorem m2_localHour_ni : Cond.initialized yX2_localHour.cls ∈ zt := zt_of (zq_1 (List.mem_of_getElem? (i := 3) rfl)) rfl
theorem m2_localHour_in : Cond.instanceMethod yX2_localHour ∈ zt := zt_of (zq_3 (List.mem_of_getElem? (i := 71) rfl)) rfl
theorem m2_localHour_se : Cond.selects (zRt 2) yX2_localHour yX2_localHour ∈ zt := zt_of (zq_3 (List.mem_of_getElem? (i := 72) rfl)) rfl
theorem mJ9_floorMod_cd : Cond.code yJ9_floorMod_7cf53 cJ9_floorMod_7cf53 3 (some .int) ∈ zt := zt_of (zq_3 (List.mem_of_getElem? (i := 85) rfl)) rfl
theorem mJ9_floorMod_ni : Cond.initialized yJ9_floorMod_7cf53.cls ∈ zt := zt_of (zq_1 (List.mem_of_getElem? (i := 15) rfl)) rfl
theorem mJ9_floorMod_in : Cond.static yJ9_floorMod_7cf53 ∈ zt := zt_of (zq_3 (List.mem_of_getElem? (i := 84) rfl)) rfl
theorem m2_rowWakes_cd : Cond.code yX2_rowWakes cX2_rowWakes 2 (some .boolean) ∈ zt := zt_of (zq_3 (List.mem_of_getElem? (i := 81) rfl)) rfl
theorem m2_rowWakes_ni : Cond.initialized yX2_rowWakes.cls ∈ zt := zt_of (zq_1 (List.mem_of_getElem? (i := 3) rfl)) rfl
theorem m2_rowWakes_in : Cond.instanceMethod yX2_rowWakes ∈ zt := zt_of (zq_3 (List.mem_of_getElem? (i := 79) rfl)) rfl
theorem m2_rowWakes_se : Cond.selects (zRt 2) yX2_rowWakes yX2_rowWakes ∈ zt := zt_of (zq_3 (List.mem_of_getElem? (i := 80) rfl)) rfl
theorem m2_isAwake_cd : Cond.code yX2_isAwake cX2_isAwake 2 (some .boolean) ∈ zt := zt_of (zq_3 (List.mem_of_getElem? (i := 77) rfl)) rfl
theorem m2_isAwake_ni : Cond.initialized yX2_isAwake.cls ∈ zt := zt_of (zq_1 (List.mem_of_getElem? (i := 3) rfl)) rfl
theorem m2_isAwake_in : Cond.instanceMethod yX2_isAwake ∈ zt := zt_of (zq_3 (List.mem_of_getElem? (i := 75) rfl)) rfl
theorem m2_isAwake_se : Cond.selects (zRt 2) yX2_isAwake yX2_isAwake ∈ zt := zt_of (zq_3 (List.mem_of_getElem? (i := 76) rfl)) rfl
theorem m11_at_cd : Cond.code yX11_at cX11_at 4 (some .int) ∈ zt := zt_of (zq_3 (List.mem_of_getElem? (i := 61) rfl)) rfl
theorem m11_at_ni : Cond.initialized yX11_at.cls ∈ zt := zt_of (zq_1 (List.mem_of_getElem? (i := 1) rfl)) rfl
theorem m11_at_in : Cond.instanceMethod yX11_at ∈ zt := zt_of (zq_3 (List.mem_of_getElem? (i := 59) rfl)) rfl
theorem m11_at_se : Cond.selects (zRt 11) yX11_at yX11_at ∈ zt := zt_of (zq_3 (List.mem_of_getElem? (i := 60) rfl)) rfl
theorem m3_living_cd : Cond.code yX3_living cX3_living 3 (some .int) ∈ zt := zt_of (zq_3 (List.mem_of_getElem? (i := 97) rfl)) rfl
theorem m3_living_ni : Cond.initialized yX3_living.cls ∈ zt := zt_of (zq_1 (List.mem_of_getElem? (i := 2) rfl)) rfl
theorem m3_living_in : Cond.instanceMethod yX3_living ∈ zt := zt_of (zq_3 (List.mem_of_getElem? (i := 95) rfl)) rfl
theorem m3_living_se : Cond.selects (zRt 3) yX3_living yX3_living ∈ zt := zt_of (zq_3 (List.mem_of_getElem? (i := 96) rfl)) rfl
theorem m2_hearsBox_cd : Cond.code yX2_hearsBox cX2_hearsBox 2 (some .boolean) ∈ zt := zt_of (zq_3 (List.mem_of_getElem? (i := 107) rfl)) rfl
theorem m2_hearsBox_ni : Cond.initialized yX2_hearsBox.cls ∈ zt := zt_of (zq_1 (List.mem_of_getElem? (i := 3) rfl)) rfl
theorem m2_hearsBox_in : Cond.instanceMethod yX2_hearsBox ∈ zt := zt_of (zq_3 (List.mem_of_getElem? (i := 105) rfl)) rfl
theorem m2_hearsBox_se : Cond.selects (zRt 2) yX2_hearsBox yX2_hearsBox ∈ zt := zt_of (zq_3 (List.mem_of_getElem? (i := 106) rfl)) rfl
theorem m3_friends_cd : Cond.code yX3_friends cX3_friends 4 (some .int) ∈ zt := zt_of (zq_3 (List.mem_of_getElem? (i := 103) rfl)) rfl
theorem m3_friends_ni : Cond.initialized yX3_friends.cls ∈ zt := zt_of (zq_1 (List.mem_of_getElem? (i := 2) rfl)) rfl
theorem m3_friends_in : Cond.instanceMethod yX3_friends ∈ zt := zt_of (zq_3 (List.mem_of_getElem? (i := 101) rfl)) rfl
theorem m3_friends_se : Cond.selects (zRt 3) yX3_friends yX3_friends ∈ zt := zt_of (zq_3 (List.mem_of_getElem? (i := 102) rfl)) rfl
theorem m3_lookHome_cd : Cond.code yX3_lookHome cX3_lookHome 6 (none) ∈ zt := zt_of (zq_3 (List.mem_of_getElem? (i := 111) rfl)) rfl
theorem m3_lookHome_ni : Cond.initialized yX3_lookHome.cls ∈ zt := zt_of (zq_1 (List.mem_of_getElem? (i := 2) rfl)) rfl
theorem m3_lookHome_in : Cond.instanceMethod yX3_lookHome ∈ zt := zt_of (zq_3 (List.mem_of_getElem? (i := 110) rfl)) rfl
theorem m3_lookHome_se : Cond.selects (zRt 3) yX3_lookHome yX3_lookHome ∈ zt := zt_of (List.mem_of_getElem? (i := 0) rfl) rfl
theorem m3_mend_cd : Cond.code yX3_mend cX3_mend 5 (some .boolean) ∈ zt := zt_of (zq_3 (List.mem_of_getElem? (i := 93) rfl)) rfl
theorem m3_mend_ni : Cond.initialized yX3_mend.cls ∈ zt := zt_of (zq_1 (List.mem_of_getElem? (i := 2) rfl)) rfl
theorem m3_mend_in : Cond.instanceMethod yX3_mend ∈ zt := zt_of (zq_3 (List.mem_of_getElem? (i := 91) rfl)) rfl
theorem m3_mend_se : Cond.selects (zRt 3) yX3_mend yX3_mend ∈ zt := zt_of (zq_3 (List.mem_of_getElem? (i := 92) rfl)) rfl
theorem m11_rounds_cd : Cond.code yX11_rounds cX11_rounds 4 (some .int) ∈ zt := zt_of (zq_3 (List.mem_of_getElem? (i := 89) rfl)) rfl
theorem m11_rounds_ni : Cond.initialized yX11_rounds.cls ∈ zt := zt_of (zq_1 (List.mem_of_getElem? (i := 1) rfl)) rfl
theorem m11_rounds_in : Cond.instanceMethod yX11_rounds ∈ zt := zt_of (zq_3 (List.mem_of_getElem? (i := 87) rfl)) rfl
theorem m11_rounds_se : Cond.selects (zRt 11) yX11_rounds yX11_rounds ∈ zt := zt_of (zq_3 (List.mem_of_getElem? (i := 88) rfl)) rfl
theorem m3_isLeastOfRing_cd : Cond.code yX3_isLeastOfRing cX3_isLeastOfRing 4 (some .boolean) ∈ zt := zt_of (zq_3 (List.mem_of_getElem? (i := 124) rfl)) rfl
theorem m3_isLeastOfRing_ni : Cond.initialized yX3_isLeastOfRing.cls ∈ zt := zt_of (zq_1 (List.mem_of_getElem? (i := 2) rfl)) rfl
theorem m3_isLeastOfRing_in : Cond.instanceMethod yX3_isLeastOfRing ∈ zt := zt_of (zq_3 (List.mem_of_getElem? (i := 123) rfl)) rfl
theorem m3_isLeastOfRing_se : Cond.selects (zRt 3) yX3_isLeastOfRing yX3_isLeastOfRing ∈ zt := zt_of (List.mem_of_getElem? (i := 1) rfl) rfl
theorem m3_countRings_cd : Cond.code yX3_countRings cX3_countRings 3 (some .int) ∈ zt := zt_of (zq_3 (List.mem_of_getElem? (i := 120) rfl)) rfl
theorem m3_countRings_ni : Cond.initialized yX3_countRings.cls ∈ zt := zt_of (zq_1 (List.mem_of_getElem? (i := 2) rfl)) rfl
theorem m3_countRings_in : Cond.instanceMethod yX3_countRings ∈ zt := zt_of (zq_3 (List.mem_of_getElem? (i := 118) rfl)) rfl
theorem m3_countRings_se : Cond.selects (zRt 3) yX3_countRings yX3_countRings ∈ zt := zt_of (zq_3 (List.mem_of_getElem? (i := 119) rfl)) rfl
theorem m11_rings_cd : Cond.code yX11_rings cX11_rings 1 (some .int) ∈ zt := zt_of (zq_3 (List.mem_of_getElem? (i := 116) rfl)) rfl
theorem m11_rings_ni : Cond.initialized yX11_rings.cls ∈ zt := zt_of (zq_1 (List.mem_of_getElem? (i := 1) rfl)) rfl
theorem m11_rings_in : Cond.instanceMethod yX11_rings ∈ zt := zt_of (zq_3 (List.mem_of_getElem? (i := 114) rfl)) rfl
theorem m11_rings_se : Cond.selects (zRt 11) yX11_rings yX11_rings ∈ zt := zt_of (zq_3 (List.mem_of_getElem? (i := 115) rfl)) rfl
theorem m8_isFull_cd : Cond.code yX8_isFull cX8_isFull 1 (some .boolean) ∈ zt := zt_of (zq_3 (List.mem_of_getElem? (i := 133) rfl)) rfl
theorem m8_isFull_ni : Cond.initialized yX8_isFull.cls ∈ zt := zt_of (zq_1 (List.mem_of_getElem? (i := 5) rfl)) rfl
theorem m8_isFull_in : Cond.instanceMethod yX8_isFull ∈ zt := zt_of (zq_3 (List.mem_of_getElem? (i := 131) rfl)) rfl
theorem m8_isFull_se : Cond.selects (zRt 8) yX8_isFull yX8_isFull ∈ zt := zt_of (zq_3 (List.mem_of_getElem? (i := 132) rfl)) rfl
theorem m8_addWord_cd : Cond.code yX8_addWord cX8_addWord 2 (none) ∈ zt := zt_of (zq_3 (List.mem_of_getElem? (i := 137) rfl)) rfl
theorem m8_addWord_ni : Cond.initialized yX8_addWord.cls ∈ zt := zt_of (zq_1 (List.mem_of_getElem? (i := 5) rfl)) rfl
theorem m8_addWord_in : Cond.instanceMethod yX8_addWord ∈ zt := zt_of (zq_3 (List.mem_of_getElem? (i := 135) rfl)) rfl
theorem m8_addWord_se : Cond.selects (zRt 8) yX8_addWord yX8_addWord ∈ zt := zt_of (zq_3 (List.mem_of_getElem? (i := 136) rfl)) rfl
theorem m11_say_cd : Cond.code yX11_say cX11_say 4 (some .int) ∈ zt := zt_of (zq_3 (List.mem_of_getElem? (i := 128) rfl)) rfl
theorem m11_say_ni : Cond.initialized yX11_say.cls ∈ zt := zt_of (zq_1 (List.mem_of_getElem? (i := 1) rfl)) rfl
theorem m11_say_in : Cond.instanceMethod yX11_say ∈ zt := zt_of (zq_3 (List.mem_of_getElem? (i := 126) rfl)) rfl
theorem m11_say_se : Cond.selects (zRt 11) yX11_say yX11_say ∈ zt := zt_of (zq_3 (List.mem_of_getElem? (i := 127) rfl)) rfl
theorem mJ9_min_cd : Cond.code yJ9_min_7cf53 cJ9_min_7cf53 2 (some .int) ∈ zt := zt_of (zq_3 (List.mem_of_getElem? (i := 161) rfl)) rfl
theorem mJ9_min_ni : Cond.initialized yJ9_min_7cf53.cls ∈ zt := zt_of (zq_1 (List.mem_of_getElem? (i := 15) rfl)) rfl
theorem mJ9_min_in : Cond.static yJ9_min_7cf53 ∈ zt := zt_of (zq_3 (List.mem_of_getElem? (i := 160) rfl)) rfl
theorem m2_spend_cd : Cond.code yX2_spend cX2_spend 2 (none) ∈ zt := zt_of (zq_3 (List.mem_of_getElem? (i := 158) rfl)) rfl
theorem m2_spend_ni : Cond.initialized yX2_spend.cls ∈ zt := zt_of (zq_1 (List.mem_of_getElem? (i := 3) rfl)) rfl
theorem m2_spend_in : Cond.instanceMethod yX2_spend ∈ zt := zt_of (zq_3 (List.mem_of_getElem? (i := 156) rfl)) rfl
theorem m2_spend_se : Cond.selects (zRt 2) yX2_spend yX2_spend ∈ zt := zt_of (zq_3 (List.mem_of_getElem? (i := 157) rfl)) rfl
theorem m0_spendRest_cd : Cond.code yX0_spendRest cX0_spendRest 4 (none) ∈ zt := zt_of (zq_3 (List.mem_of_getElem? (i := 150) rfl)) rfl
theorem m0_spendRest_ni : Cond.initialized yX0_spendRest.cls ∈ zt := zt_of (zq_1 (List.mem_of_getElem? (i := 9) rfl)) rfl
theorem m0_spendRest_in : Cond.instanceMethod yX0_spendRest ∈ zt := zt_of (zq_3 (List.mem_of_getElem? (i := 149) rfl)) rfl
theorem m0_spendRest_se : Cond.selects (zRt 0) yX0_spendRest yX0_spendRest ∈ zt := zt_of (List.mem_of_getElem? (i := 2) rfl) rfl
theorem m7_beginsEpoch_cd : Cond.code yX7_beginsEpoch cX7_beginsEpoch 2 (some .boolean) ∈ zt := zt_of (zq_3 (List.mem_of_getElem? (i := 165) rfl)) rfl
theorem m7_beginsEpoch_ni : Cond.initialized yX7_beginsEpoch.cls ∈ zt := zt_of (zq_1 (List.mem_of_getElem? (i := 8) rfl)) rfl
theorem m7_beginsEpoch_in : Cond.instanceMethod yX7_beginsEpoch ∈ zt := zt_of (zq_3 (List.mem_of_getElem? (i := 163) rfl)) rfl
theorem m7_beginsEpoch_se : Cond.selects (zRt 7) yX7_beginsEpoch yX7_beginsEpoch ∈ zt := zt_of (zq_3 (List.mem_of_getElem? (i := 164) rfl)) rfl
theorem mJ9_max_cd : Cond.code yJ9_max_7cf53 cJ9_max_7cf53 2 (some .int) ∈ zt := zt_of (zq_3 (List.mem_of_getElem? (i := 224) rfl)) rfl
theorem mJ9_max_ni : Cond.initialized yJ9_max_7cf53.cls ∈ zt := zt_of (zq_1 (List.mem_of_getElem? (i := 15) rfl)) rfl
theorem mJ9_max_in : Cond.static yJ9_max_7cf53 ∈ zt := zt_of (zq_3 (List.mem_of_getElem? (i := 223) rfl)) rfl
theorem m3_deepest_cd : Cond.code yX3_deepest cX3_deepest 3 (some .int) ∈ zt := zt_of (zq_3 (List.mem_of_getElem? (i := 221) rfl)) rfl
theorem m3_deepest_ni : Cond.initialized yX3_deepest.cls ∈ zt := zt_of (zq_1 (List.mem_of_getElem? (i := 2) rfl)) rfl
theorem m3_deepest_in : Cond.instanceMethod yX3_deepest ∈ zt := zt_of (zq_3 (List.mem_of_getElem? (i := 219) rfl)) rfl
theorem m3_deepest_se : Cond.selects (zRt 3) yX3_deepest yX3_deepest ∈ zt := zt_of (zq_3 (List.mem_of_getElem? (i := 220) rfl)) rfl
theorem m0_isIn_cd : Cond.code yX0_isIn cX0_isIn 2 (some .boolean) ∈ zt := zt_of (zq_3 (List.mem_of_getElem? (i := 197) rfl)) rfl
theorem m0_isIn_ni : Cond.initialized yX0_isIn.cls ∈ zt := zt_of (zq_1 (List.mem_of_getElem? (i := 9) rfl)) rfl
theorem m0_isIn_in : Cond.static yX0_isIn ∈ zt := zt_of (zq_3 (List.mem_of_getElem? (i := 196) rfl)) rfl
theorem m9_isEmpty_cd : Cond.code yX9_isEmpty cX9_isEmpty 1 (some .boolean) ∈ zt := zt_of (zq_3 (List.mem_of_getElem? (i := 181) rfl)) rfl
theorem m9_isEmpty_ni : Cond.initialized yX9_isEmpty.cls ∈ zt := zt_of (zq_1 (List.mem_of_getElem? (i := 4) rfl)) rfl
theorem m9_isEmpty_in : Cond.instanceMethod yX9_isEmpty ∈ zt := zt_of (zq_3 (List.mem_of_getElem? (i := 179) rfl)) rfl
theorem m9_isEmpty_se : Cond.selects (zRt 9) yX9_isEmpty yX9_isEmpty ∈ zt := zt_of (zq_3 (List.mem_of_getElem? (i := 180) rfl)) rfl
theorem m2_hasUnsaidSum_cd : Cond.code yX2_hasUnsaidSum cX2_hasUnsaidSum 1 (some .boolean) ∈ zt := zt_of (zq_3 (List.mem_of_getElem? (i := 177) rfl)) rfl
theorem m2_hasUnsaidSum_ni : Cond.initialized yX2_hasUnsaidSum.cls ∈ zt := zt_of (zq_1 (List.mem_of_getElem? (i := 3) rfl)) rfl
theorem m2_hasUnsaidSum_in : Cond.instanceMethod yX2_hasUnsaidSum ∈ zt := zt_of (zq_3 (List.mem_of_getElem? (i := 175) rfl)) rfl
theorem m2_hasUnsaidSum_se : Cond.selects (zRt 2) yX2_hasUnsaidSum yX2_hasUnsaidSum ∈ zt := zt_of (zq_3 (List.mem_of_getElem? (i := 176) rfl)) rfl
theorem m9_copy_cd : Cond.code yX9_copy cX9_copy 2 (none) ∈ zt := zt_of (zq_3 (List.mem_of_getElem? (i := 234) rfl)) rfl
theorem m9_copy_ni : Cond.initialized yX9_copy.cls ∈ zt := zt_of (zq_1 (List.mem_of_getElem? (i := 4) rfl)) rfl
theorem m9_copy_in : Cond.instanceMethod yX9_copy ∈ zt := zt_of (zq_3 (List.mem_of_getElem? (i := 232) rfl)) rfl
theorem m9_copy_se : Cond.selects (zRt 9) yX9_copy yX9_copy ∈ zt := zt_of (zq_3 (List.mem_of_getElem? (i := 233) rfl)) rfl
theorem m8_addSum_cd : Cond.code yX8_addSum cX8_addSum 2 (none) ∈ zt := zt_of (zq_3 (List.mem_of_getElem? (i := 230) rfl)) rfl
theorem m8_addSum_ni : Cond.initialized yX8_addSum.cls ∈ zt := zt_of (zq_1 (List.mem_of_getElem? (i := 5) rfl)) rfl
theorem m8_addSum_in : Cond.instanceMethod yX8_addSum ∈ zt := zt_of (zq_3 (List.mem_of_getElem? (i := 228) rfl)) rfl
theorem m8_addSum_se : Cond.selects (zRt 8) yX8_addSum yX8_addSum ∈ zt := zt_of (zq_3 (List.mem_of_getElem? (i := 229) rfl)) rfl
theorem m0_queueSums_cd : Cond.code yX0_queueSums cX0_queueSums 5 (none) ∈ zt := zt_of (zq_3 (List.mem_of_getElem? (i := 217) rfl)) rfl
theorem m0_queueSums_ni : Cond.initialized yX0_queueSums.cls ∈ zt := zt_of (zq_1 (List.mem_of_getElem? (i := 9) rfl)) rfl
theorem m0_queueSums_in : Cond.instanceMethod yX0_queueSums ∈ zt := zt_of (zq_3 (List.mem_of_getElem? (i := 216) rfl)) rfl
theorem m0_queueSums_se : Cond.selects (zRt 0) yX0_queueSums yX0_queueSums ∈ zt := zt_of (List.mem_of_getElem? (i := 5) rfl) rfl
theorem m0_speak_cd : Cond.code yX0_speak cX0_speak 3 (none) ∈ zt := zt_of (zq_3 (List.mem_of_getElem? (i := 238) rfl)) rfl
theorem m0_speak_ni : Cond.initialized yX0_speak.cls ∈ zt := zt_of (zq_1 (List.mem_of_getElem? (i := 9) rfl)) rfl
theorem m0_speak_in : Cond.instanceMethod yX0_speak ∈ zt := zt_of (zq_3 (List.mem_of_getElem? (i := 237) rfl)) rfl
theorem m0_speak_se : Cond.selects (zRt 0) yX0_speak yX0_speak ∈ zt := zt_of (List.mem_of_getElem? (i := 6) rfl) rfl
theorem m0_spendHearing_cd : Cond.code yX0_spendHearing cX0_spendHearing 3 (none) ∈ zt := zt_of (zq_4 (List.mem_of_getElem? (i := 2) rfl)) rfl
theorem m0_spendHearing_ni : Cond.initialized yX0_spendHearing.cls ∈ zt := zt_of (zq_1 (List.mem_of_getElem? (i := 9) rfl)) rfl
theorem m0_spendHearing_in : Cond.instanceMethod yX0_spendHearing ∈ zt := zt_of (zq_4 (List.mem_of_getElem? (i := 1) rfl)) rfl
theorem m0_spendHearing_se : Cond.selects (zRt 0) yX0_spendHearing yX0_spendHearing ∈ zt := zt_of (List.mem_of_getElem? (i := 7) rfl) rfl
theorem mJ6_bitCount_cd : Cond.code yJ6_bitCount_0f7a4 cJ6_bitCount_0f7a4 1 (some .int) ∈ zt := zt_of (zq_4 (List.mem_of_getElem? (i := 14) rfl)) rfl
theorem mJ6_bitCount_ni : Cond.initialized yJ6_bitCount_0f7a4.cls ∈ zt := zt_of (zq_1 (List.mem_of_getElem? (i := 16) rfl)) rfl
theorem mJ6_bitCount_in : Cond.static yJ6_bitCount_0f7a4 ∈ zt := zt_of (zq_4 (List.mem_of_getElem? (i := 13) rfl)) rfl
theorem m0_whyLost_cd : Cond.code yX0_whyLost cX0_whyLost 3 (some .int) ∈ zt := zt_of (zq_4 (List.mem_of_getElem? (i := 10) rfl)) rfl
theorem m0_whyLost_ni : Cond.initialized yX0_whyLost.cls ∈ zt := zt_of (zq_1 (List.mem_of_getElem? (i := 9) rfl)) rfl
theorem m0_whyLost_in : Cond.instanceMethod yX0_whyLost ∈ zt := zt_of (zq_4 (List.mem_of_getElem? (i := 9) rfl)) rfl
theorem m0_whyLost_se : Cond.selects (zRt 0) yX0_whyLost yX0_whyLost ∈ zt := zt_of (List.mem_of_getElem? (i := 9) rfl) rfl
theorem m8_drop_cd : Cond.code yX8_drop cX8_drop 4 (none) ∈ zt := zt_of (zq_3 (List.mem_of_getElem? (i := 194) rfl)) rfl
theorem m8_drop_ni : Cond.initialized yX8_drop.cls ∈ zt := zt_of (zq_1 (List.mem_of_getElem? (i := 5) rfl)) rfl
theorem m8_drop_in : Cond.instanceMethod yX8_drop ∈ zt := zt_of (zq_3 (List.mem_of_getElem? (i := 192) rfl)) rfl
theorem m8_drop_se : Cond.selects (zRt 8) yX8_drop yX8_drop ∈ zt := zt_of (zq_3 (List.mem_of_getElem? (i := 193) rfl)) rfl
theorem m8_firstIsSum_cd : Cond.code yX8_firstIsSum cX8_firstIsSum 1 (some .boolean) ∈ zt := zt_of (zq_4 (List.mem_of_getElem? (i := 25) rfl)) rfl
theorem m8_firstIsSum_ni : Cond.initialized yX8_firstIsSum.cls ∈ zt := zt_of (zq_1 (List.mem_of_getElem? (i := 5) rfl)) rfl
theorem m8_firstIsSum_in : Cond.instanceMethod yX8_firstIsSum ∈ zt := zt_of (zq_4 (List.mem_of_getElem? (i := 23) rfl)) rfl
theorem m8_firstIsSum_se : Cond.selects (zRt 8) yX8_firstIsSum yX8_firstIsSum ∈ zt := zt_of (zq_4 (List.mem_of_getElem? (i := 24) rfl)) rfl
theorem m8_firstWord_cd : Cond.code yX8_firstWord cX8_firstWord 1 (some .int) ∈ zt := zt_of (zq_4 (List.mem_of_getElem? (i := 41) rfl)) rfl
theorem m8_firstWord_ni : Cond.initialized yX8_firstWord.cls ∈ zt := zt_of (zq_1 (List.mem_of_getElem? (i := 5) rfl)) rfl
theorem m8_firstWord_in : Cond.instanceMethod yX8_firstWord ∈ zt := zt_of (zq_4 (List.mem_of_getElem? (i := 39) rfl)) rfl
theorem m8_firstWord_se : Cond.selects (zRt 8) yX8_firstWord yX8_firstWord ∈ zt := zt_of (zq_4 (List.mem_of_getElem? (i := 40) rfl)) rfl
theorem m8_firstSum_cd : Cond.code yX8_firstSum cX8_firstSum 1 (some (.object "EarField$Sum")) ∈ zt := zt_of (zq_4 (List.mem_of_getElem? (i := 29) rfl)) rfl
theorem m8_firstSum_ni : Cond.initialized yX8_firstSum.cls ∈ zt := zt_of (zq_1 (List.mem_of_getElem? (i := 5) rfl)) rfl
theorem m8_firstSum_in : Cond.instanceMethod yX8_firstSum ∈ zt := zt_of (zq_4 (List.mem_of_getElem? (i := 27) rfl)) rfl
theorem m8_firstSum_se : Cond.selects (zRt 8) yX8_firstSum yX8_firstSum ∈ zt := zt_of (zq_4 (List.mem_of_getElem? (i := 28) rfl)) rfl
theorem m9_join_cd : Cond.code yX9_join cX9_join 2 (none) ∈ zt := zt_of (zq_4 (List.mem_of_getElem? (i := 33) rfl)) rfl
theorem m9_join_ni : Cond.initialized yX9_join.cls ∈ zt := zt_of (zq_1 (List.mem_of_getElem? (i := 4) rfl)) rfl
theorem m9_join_in : Cond.instanceMethod yX9_join ∈ zt := zt_of (zq_4 (List.mem_of_getElem? (i := 31) rfl)) rfl
theorem m9_join_se : Cond.selects (zRt 9) yX9_join yX9_join ∈ zt := zt_of (zq_4 (List.mem_of_getElem? (i := 32) rfl)) rfl
theorem m0_keepWord_cd : Cond.code yX0_keepWord cX0_keepWord 3 (none) ∈ zt := zt_of (zq_4 (List.mem_of_getElem? (i := 45) rfl)) rfl
theorem m0_keepWord_ni : Cond.initialized yX0_keepWord.cls ∈ zt := zt_of (zq_1 (List.mem_of_getElem? (i := 9) rfl)) rfl
theorem m0_keepWord_in : Cond.instanceMethod yX0_keepWord ∈ zt := zt_of (zq_4 (List.mem_of_getElem? (i := 44) rfl)) rfl
theorem m0_keepWord_se : Cond.selects (zRt 0) yX0_keepWord yX0_keepWord ∈ zt := zt_of (List.mem_of_getElem? (i := 11) rfl) rfl
theorem m0_give_cd : Cond.code yX0_give cX0_give 3 (none) ∈ zt := zt_of (zq_4 (List.mem_of_getElem? (i := 21) rfl)) rfl
theorem m0_give_ni : Cond.initialized yX0_give.cls ∈ zt := zt_of (zq_1 (List.mem_of_getElem? (i := 9) rfl)) rfl
theorem m0_give_in : Cond.instanceMethod yX0_give ∈ zt := zt_of (zq_4 (List.mem_of_getElem? (i := 20) rfl)) rfl
theorem m0_give_se : Cond.selects (zRt 0) yX0_give yX0_give ∈ zt := zt_of (List.mem_of_getElem? (i := 10) rfl) rfl
theorem m0_carry_cd : Cond.code yX0_carry cX0_carry 5 (none) ∈ zt := zt_of (zq_4 (List.mem_of_getElem? (i := 6) rfl)) rfl
theorem m0_carry_ni : Cond.initialized yX0_carry.cls ∈ zt := zt_of (zq_1 (List.mem_of_getElem? (i := 9) rfl)) rfl
theorem m0_carry_in : Cond.instanceMethod yX0_carry ∈ zt := zt_of (zq_4 (List.mem_of_getElem? (i := 5) rfl)) rfl
theorem m0_carry_se : Cond.selects (zRt 0) yX0_carry yX0_carry ∈ zt := zt_of (List.mem_of_getElem? (i := 8) rfl) rfl
theorem m9_clear_cd : Cond.code yX9_clear cX9_clear 1 (none) ∈ zt := zt_of (zq_3 (List.mem_of_getElem? (i := 173) rfl)) rfl
theorem m9_clear_ni : Cond.initialized yX9_clear.cls ∈ zt := zt_of (zq_1 (List.mem_of_getElem? (i := 4) rfl)) rfl
theorem m9_clear_in : Cond.instanceMethod yX9_clear ∈ zt := zt_of (zq_3 (List.mem_of_getElem? (i := 171) rfl)) rfl
theorem m9_clear_se : Cond.selects (zRt 9) yX9_clear yX9_clear ∈ zt := zt_of (zq_3 (List.mem_of_getElem? (i := 172) rfl)) rfl
theorem m8_dropSums_cd : Cond.code yX8_dropSums cX8_dropSums 3 (some .int) ∈ zt := zt_of (zq_3 (List.mem_of_getElem? (i := 190) rfl)) rfl
theorem m8_dropSums_ni : Cond.initialized yX8_dropSums.cls ∈ zt := zt_of (zq_1 (List.mem_of_getElem? (i := 5) rfl)) rfl
theorem m8_dropSums_in : Cond.instanceMethod yX8_dropSums ∈ zt := zt_of (zq_3 (List.mem_of_getElem? (i := 188) rfl)) rfl
theorem m8_dropSums_se : Cond.selects (zRt 8) yX8_dropSums yX8_dropSums ∈ zt := zt_of (zq_3 (List.mem_of_getElem? (i := 189) rfl)) rfl
theorem m2_forgetSums_cd : Cond.code yX2_forgetSums cX2_forgetSums 1 (some .int) ∈ zt := zt_of (zq_3 (List.mem_of_getElem? (i := 185) rfl)) rfl
theorem m2_forgetSums_ni : Cond.initialized yX2_forgetSums.cls ∈ zt := zt_of (zq_1 (List.mem_of_getElem? (i := 3) rfl)) rfl
theorem m2_forgetSums_in : Cond.instanceMethod yX2_forgetSums ∈ zt := zt_of (zq_3 (List.mem_of_getElem? (i := 183) rfl)) rfl
theorem m2_forgetSums_se : Cond.selects (zRt 2) yX2_forgetSums yX2_forgetSums ∈ zt := zt_of (zq_3 (List.mem_of_getElem? (i := 184) rfl)) rfl
theorem m2_loudAt_cd : Cond.code yX2_loudAt cX2_loudAt 2 (some .int) ∈ zt := zt_of (zq_3 (List.mem_of_getElem? (i := 205) rfl)) rfl
theorem m2_loudAt_ni : Cond.initialized yX2_loudAt.cls ∈ zt := zt_of (zq_1 (List.mem_of_getElem? (i := 3) rfl)) rfl
theorem m2_loudAt_in : Cond.instanceMethod yX2_loudAt ∈ zt := zt_of (zq_3 (List.mem_of_getElem? (i := 203) rfl)) rfl
theorem m2_loudAt_se : Cond.selects (zRt 2) yX2_loudAt yX2_loudAt ∈ zt := zt_of (zq_3 (List.mem_of_getElem? (i := 204) rfl)) rfl
theorem m7_isMetBy_cd : Cond.code yX7_isMetBy cX7_isMetBy 5 (some .boolean) ∈ zt := zt_of (zq_3 (List.mem_of_getElem? (i := 209) rfl)) rfl
theorem m7_isMetBy_ni : Cond.initialized yX7_isMetBy.cls ∈ zt := zt_of (zq_1 (List.mem_of_getElem? (i := 8) rfl)) rfl
theorem m7_isMetBy_in : Cond.instanceMethod yX7_isMetBy ∈ zt := zt_of (zq_3 (List.mem_of_getElem? (i := 207) rfl)) rfl
theorem m7_isMetBy_se : Cond.selects (zRt 7) yX7_isMetBy yX7_isMetBy ∈ zt := zt_of (zq_3 (List.mem_of_getElem? (i := 208) rfl)) rfl
theorem m9_start_cd : Cond.code yX9_start cX9_start 3 (none) ∈ zt := zt_of (zq_3 (List.mem_of_getElem? (i := 213) rfl)) rfl
theorem m9_start_ni : Cond.initialized yX9_start.cls ∈ zt := zt_of (zq_1 (List.mem_of_getElem? (i := 4) rfl)) rfl
theorem m9_start_in : Cond.instanceMethod yX9_start ∈ zt := zt_of (zq_3 (List.mem_of_getElem? (i := 211) rfl)) rfl
theorem m9_start_se : Cond.selects (zRt 9) yX9_start yX9_start ∈ zt := zt_of (zq_3 (List.mem_of_getElem? (i := 212) rfl)) rfl
theorem m0_startSum_cd : Cond.code yX0_startSum cX0_startSum 5 (none) ∈ zt := zt_of (zq_3 (List.mem_of_getElem? (i := 201) rfl)) rfl
theorem m0_startSum_ni : Cond.initialized yX0_startSum.cls ∈ zt := zt_of (zq_1 (List.mem_of_getElem? (i := 9) rfl)) rfl
theorem m0_startSum_in : Cond.instanceMethod yX0_startSum ∈ zt := zt_of (zq_3 (List.mem_of_getElem? (i := 200) rfl)) rfl
theorem m0_startSum_se : Cond.selects (zRt 0) yX0_startSum yX0_startSum ∈ zt := zt_of (List.mem_of_getElem? (i := 4) rfl) rfl
theorem m0_beginEpoch_cd : Cond.code yX0_beginEpoch cX0_beginEpoch 3 (none) ∈ zt := zt_of (zq_3 (List.mem_of_getElem? (i := 169) rfl)) rfl
theorem m0_beginEpoch_ni : Cond.initialized yX0_beginEpoch.cls ∈ zt := zt_of (zq_1 (List.mem_of_getElem? (i := 9) rfl)) rfl
theorem m0_beginEpoch_in : Cond.instanceMethod yX0_beginEpoch ∈ zt := zt_of (zq_3 (List.mem_of_getElem? (i := 168) rfl)) rfl
theorem m0_beginEpoch_se : Cond.selects (zRt 0) yX0_beginEpoch yX0_beginEpoch ∈ zt := zt_of (List.mem_of_getElem? (i := 3) rfl) rfl
theorem m0_pass_cd : Cond.code yX0_pass cX0_pass 2 (none) ∈ zt := zt_of (zq_3 (List.mem_of_getElem? (i := 146) rfl)) rfl
theorem m0_pass_ni : Cond.initialized yX0_pass.cls ∈ zt := zt_of (zq_1 (List.mem_of_getElem? (i := 9) rfl)) rfl
theorem m0_pass_in : Cond.instanceMethod yX0_pass ∈ zt := zt_of (zq_3 (List.mem_of_getElem? (i := 144) rfl)) rfl
theorem m0_pass_se : Cond.selects (zRt 0) yX0_pass yX0_pass ∈ zt := zt_of (zq_3 (List.mem_of_getElem? (i := 145) rfl)) rfl
theorem m11_ticks_cd : Cond.code yX11_ticks cX11_ticks 3 (some .int) ∈ zt := zt_of (zq_3 (List.mem_of_getElem? (i := 142) rfl)) rfl
theorem m11_ticks_ni : Cond.initialized yX11_ticks.cls ∈ zt := zt_of (zq_1 (List.mem_of_getElem? (i := 1) rfl)) rfl
theorem m11_ticks_in : Cond.instanceMethod yX11_ticks ∈ zt := zt_of (zq_3 (List.mem_of_getElem? (i := 140) rfl)) rfl
theorem m11_ticks_se : Cond.selects (zRt 11) yX11_ticks yX11_ticks ∈ zt := zt_of (zq_3 (List.mem_of_getElem? (i := 141) rfl)) rfl
theorem m0_told_cd : Cond.code yX0_told cX0_told 2 (some .int) ∈ zt := zt_of (zq_4 (List.mem_of_getElem? (i := 56) rfl)) rfl
theorem m0_told_ni : Cond.initialized yX0_told.cls ∈ zt := zt_of (zq_1 (List.mem_of_getElem? (i := 9) rfl)) rfl
theorem m0_told_in : Cond.instanceMethod yX0_told ∈ zt := zt_of (zq_4 (List.mem_of_getElem? (i := 54) rfl)) rfl
theorem m0_told_se : Cond.selects (zRt 0) yX0_told yX0_told ∈ zt := zt_of (zq_4 (List.mem_of_getElem? (i := 55) rfl)) rfl
theorem m11_lost_cd : Cond.code yX11_lost cX11_lost 2 (some .int) ∈ zt := zt_of (zq_4 (List.mem_of_getElem? (i := 52) rfl)) rfl
theorem m11_lost_ni : Cond.initialized yX11_lost.cls ∈ zt := zt_of (zq_1 (List.mem_of_getElem? (i := 1) rfl)) rfl
theorem m11_lost_in : Cond.instanceMethod yX11_lost ∈ zt := zt_of (zq_4 (List.mem_of_getElem? (i := 50) rfl)) rfl
theorem m11_lost_se : Cond.selects (zRt 11) yX11_lost yX11_lost ∈ zt := zt_of (zq_4 (List.mem_of_getElem? (i := 51) rfl)) rfl
theorem m0_wordKept_cd : Cond.code yX0_wordKept cX0_wordKept 2 (some .int) ∈ zt := zt_of (zq_4 (List.mem_of_getElem? (i := 64) rfl)) rfl
theorem m0_wordKept_ni : Cond.initialized yX0_wordKept.cls ∈ zt := zt_of (zq_1 (List.mem_of_getElem? (i := 9) rfl)) rfl
theorem m0_wordKept_in : Cond.instanceMethod yX0_wordKept ∈ zt := zt_of (zq_4 (List.mem_of_getElem? (i := 62) rfl)) rfl
theorem m0_wordKept_se : Cond.selects (zRt 0) yX0_wordKept yX0_wordKept ∈ zt := zt_of (zq_4 (List.mem_of_getElem? (i := 63) rfl)) rfl
theorem m11_kept_cd : Cond.code yX11_kept cX11_kept 2 (some .int) ∈ zt := zt_of (zq_4 (List.mem_of_getElem? (i := 60) rfl)) rfl
theorem m11_kept_ni : Cond.initialized yX11_kept.cls ∈ zt := zt_of (zq_1 (List.mem_of_getElem? (i := 1) rfl)) rfl
theorem m11_kept_in : Cond.instanceMethod yX11_kept ∈ zt := zt_of (zq_4 (List.mem_of_getElem? (i := 58) rfl)) rfl
theorem m11_kept_se : Cond.selects (zRt 11) yX11_kept yX11_kept ∈ zt := zt_of (zq_4 (List.mem_of_getElem? (i := 59) rfl)) rfl
theorem m10_add_cd : Cond.code yX10_add cX10_add 2 (none) ∈ zt := zt_of (zq_4 (List.mem_of_getElem? (i := 73) rfl)) rfl
theorem m10_add_ni : Cond.initialized yX10_add.cls ∈ zt := zt_of (zq_1 (List.mem_of_getElem? (i := 7) rfl)) rfl
theorem m10_add_in : Cond.instanceMethod yX10_add ∈ zt := zt_of (zq_4 (List.mem_of_getElem? (i := 71) rfl)) rfl
theorem m10_add_se : Cond.selects (zRt 10) yX10_add yX10_add ∈ zt := zt_of (zq_4 (List.mem_of_getElem? (i := 72) rfl)) rfl
theorem m11_write_cd : Cond.code yX11_write cX11_write 5 (some .int) ∈ zt := zt_of (zq_4 (List.mem_of_getElem? (i := 68) rfl)) rfl
theorem m11_write_ni : Cond.initialized yX11_write.cls ∈ zt := zt_of (zq_1 (List.mem_of_getElem? (i := 1) rfl)) rfl
theorem m11_write_in : Cond.instanceMethod yX11_write ∈ zt := zt_of (zq_4 (List.mem_of_getElem? (i := 66) rfl)) rfl
theorem m11_write_se : Cond.selects (zRt 11) yX11_write yX11_write ∈ zt := zt_of (zq_4 (List.mem_of_getElem? (i := 67) rfl)) rfl
theorem m11_erase_cd : Cond.code yX11_erase cX11_erase 2 (some .int) ∈ zt := zt_of (zq_4 (List.mem_of_getElem? (i := 77) rfl)) rfl
theorem m11_erase_ni : Cond.initialized yX11_erase.cls ∈ zt := zt_of (zq_1 (List.mem_of_getElem? (i := 1) rfl)) rfl
theorem m11_erase_in : Cond.instanceMethod yX11_erase ∈ zt := zt_of (zq_4 (List.mem_of_getElem? (i := 75) rfl)) rfl
theorem m11_erase_se : Cond.selects (zRt 11) yX11_erase yX11_erase ∈ zt := zt_of (zq_4 (List.mem_of_getElem? (i := 76) rfl)) rfl
theorem m7_clear_cd : Cond.code yX7_clear cX7_clear 1 (none) ∈ zt := zt_of (zq_4 (List.mem_of_getElem? (i := 89) rfl)) rfl
theorem m7_clear_ni : Cond.initialized yX7_clear.cls ∈ zt := zt_of (zq_1 (List.mem_of_getElem? (i := 8) rfl)) rfl
theorem m7_clear_in : Cond.instanceMethod yX7_clear ∈ zt := zt_of (zq_4 (List.mem_of_getElem? (i := 87) rfl)) rfl
theorem m7_clear_se : Cond.selects (zRt 7) yX7_clear yX7_clear ∈ zt := zt_of (zq_4 (List.mem_of_getElem? (i := 88) rfl)) rfl
theorem m10_byteAt_cd : Cond.code yX10_byteAt cX10_byteAt 2 (some .int) ∈ zt := zt_of (zq_4 (List.mem_of_getElem? (i := 97) rfl)) rfl
theorem m10_byteAt_ni : Cond.initialized yX10_byteAt.cls ∈ zt := zt_of (zq_1 (List.mem_of_getElem? (i := 7) rfl)) rfl
theorem m10_byteAt_in : Cond.instanceMethod yX10_byteAt ∈ zt := zt_of (zq_4 (List.mem_of_getElem? (i := 96) rfl)) rfl
theorem m10_byteAt_se : Cond.selects (zRt 10) yX10_byteAt yX10_byteAt ∈ zt := zt_of (List.mem_of_getElem? (i := 13) rfl) rfl
theorem m10_kindOf_cd : Cond.code yX10_kindOf cX10_kindOf 1 (some .int) ∈ zt := zt_of (zq_4 (List.mem_of_getElem? (i := 100) rfl)) rfl
theorem m10_kindOf_ni : Cond.initialized yX10_kindOf.cls ∈ zt := zt_of (zq_1 (List.mem_of_getElem? (i := 7) rfl)) rfl
theorem m10_kindOf_in : Cond.static yX10_kindOf ∈ zt := zt_of (zq_4 (List.mem_of_getElem? (i := 99) rfl)) rfl
theorem m10_nextToken_cd : Cond.code yX10_nextToken cX10_nextToken 2 (none) ∈ zt := zt_of (zq_4 (List.mem_of_getElem? (i := 93) rfl)) rfl
theorem m10_nextToken_ni : Cond.initialized yX10_nextToken.cls ∈ zt := zt_of (zq_1 (List.mem_of_getElem? (i := 7) rfl)) rfl
theorem m10_nextToken_in : Cond.instanceMethod yX10_nextToken ∈ zt := zt_of (zq_4 (List.mem_of_getElem? (i := 92) rfl)) rfl
theorem m10_nextToken_se : Cond.selects (zRt 10) yX10_nextToken yX10_nextToken ∈ zt := zt_of (List.mem_of_getElem? (i := 12) rfl) rfl
theorem m10_skipWord_cd : Cond.code yX10_skipWord cX10_skipWord 3 (some .boolean) ∈ zt := zt_of (zq_4 (List.mem_of_getElem? (i := 109) rfl)) rfl
theorem m10_skipWord_ni : Cond.initialized yX10_skipWord.cls ∈ zt := zt_of (zq_1 (List.mem_of_getElem? (i := 7) rfl)) rfl
theorem m10_skipWord_in : Cond.instanceMethod yX10_skipWord ∈ zt := zt_of (zq_4 (List.mem_of_getElem? (i := 108) rfl)) rfl
theorem m10_skipWord_se : Cond.selects (zRt 10) yX10_skipWord yX10_skipWord ∈ zt := zt_of (List.mem_of_getElem? (i := 15) rfl) rfl
theorem m10_readAim_cd : Cond.code yX10_readAim cX10_readAim 1 (some .boolean) ∈ zt := zt_of (zq_4 (List.mem_of_getElem? (i := 104) rfl)) rfl
theorem m10_readAim_ni : Cond.initialized yX10_readAim.cls ∈ zt := zt_of (zq_1 (List.mem_of_getElem? (i := 7) rfl)) rfl
theorem m10_readAim_in : Cond.instanceMethod yX10_readAim ∈ zt := zt_of (zq_4 (List.mem_of_getElem? (i := 103) rfl)) rfl
theorem m10_readAim_se : Cond.selects (zRt 10) yX10_readAim yX10_readAim ∈ zt := zt_of (List.mem_of_getElem? (i := 14) rfl) rfl
theorem m10_numberAtHand_cd : Cond.code yX10_numberAtHand cX10_numberAtHand 3 (some .int) ∈ zt := zt_of (zq_4 (List.mem_of_getElem? (i := 177) rfl)) rfl
theorem m10_numberAtHand_ni : Cond.initialized yX10_numberAtHand.cls ∈ zt := zt_of (zq_1 (List.mem_of_getElem? (i := 7) rfl)) rfl
theorem m10_numberAtHand_in : Cond.instanceMethod yX10_numberAtHand ∈ zt := zt_of (zq_4 (List.mem_of_getElem? (i := 176) rfl)) rfl
theorem m10_numberAtHand_se : Cond.selects (zRt 10) yX10_numberAtHand yX10_numberAtHand ∈ zt := zt_of (List.mem_of_getElem? (i := 18) rfl) rfl
theorem m7_takesMoreConds_cd : Cond.code yX7_takesMoreConds cX7_takesMoreConds 1 (some .boolean) ∈ zt := zt_of (zq_4 (List.mem_of_getElem? (i := 185) rfl)) rfl
theorem m7_takesMoreConds_ni : Cond.initialized yX7_takesMoreConds.cls ∈ zt := zt_of (zq_1 (List.mem_of_getElem? (i := 8) rfl)) rfl
theorem m7_takesMoreConds_in : Cond.instanceMethod yX7_takesMoreConds ∈ zt := zt_of (zq_4 (List.mem_of_getElem? (i := 183) rfl)) rfl
theorem m7_takesMoreConds_se : Cond.selects (zRt 7) yX7_takesMoreConds yX7_takesMoreConds ∈ zt := zt_of (zq_4 (List.mem_of_getElem? (i := 184) rfl)) rfl
theorem m7_addCond_cd : Cond.code yX7_addCond cX7_addCond 4 (none) ∈ zt := zt_of (zq_4 (List.mem_of_getElem? (i := 181) rfl)) rfl
theorem m7_addCond_ni : Cond.initialized yX7_addCond.cls ∈ zt := zt_of (zq_1 (List.mem_of_getElem? (i := 8) rfl)) rfl
theorem m7_addCond_in : Cond.instanceMethod yX7_addCond ∈ zt := zt_of (zq_4 (List.mem_of_getElem? (i := 179) rfl)) rfl
theorem m7_addCond_se : Cond.selects (zRt 7) yX7_addCond yX7_addCond ∈ zt := zt_of (zq_4 (List.mem_of_getElem? (i := 180) rfl)) rfl
theorem m10_readCond_cd : Cond.code yX10_readCond cX10_readCond 4 (some .boolean) ∈ zt := zt_of (zq_4 (List.mem_of_getElem? (i := 170) rfl)) rfl
theorem m10_readCond_ni : Cond.initialized yX10_readCond.cls ∈ zt := zt_of (zq_1 (List.mem_of_getElem? (i := 7) rfl)) rfl
theorem m10_readCond_in : Cond.instanceMethod yX10_readCond ∈ zt := zt_of (zq_4 (List.mem_of_getElem? (i := 169) rfl)) rfl
theorem m10_readCond_se : Cond.selects (zRt 10) yX10_readCond yX10_readCond ∈ zt := zt_of (List.mem_of_getElem? (i := 17) rfl) rfl
theorem m10_readConds_cd : Cond.code yX10_readConds cX10_readConds 2 (some .boolean) ∈ zt := zt_of (zq_4 (List.mem_of_getElem? (i := 165) rfl)) rfl
theorem m10_readConds_ni : Cond.initialized yX10_readConds.cls ∈ zt := zt_of (zq_1 (List.mem_of_getElem? (i := 7) rfl)) rfl
theorem m10_readConds_in : Cond.instanceMethod yX10_readConds ∈ zt := zt_of (zq_4 (List.mem_of_getElem? (i := 164) rfl)) rfl
theorem m10_readConds_se : Cond.selects (zRt 10) yX10_readConds yX10_readConds ∈ zt := zt_of (List.mem_of_getElem? (i := 16) rfl) rfl
theorem m10_readEvery_cd : Cond.code yX10_readEvery cX10_readEvery 2 (some .boolean) ∈ zt := zt_of (zq_4 (List.mem_of_getElem? (i := 190) rfl)) rfl
theorem m10_readEvery_ni : Cond.initialized yX10_readEvery.cls ∈ zt := zt_of (zq_1 (List.mem_of_getElem? (i := 7) rfl)) rfl
theorem m10_readEvery_in : Cond.instanceMethod yX10_readEvery ∈ zt := zt_of (zq_4 (List.mem_of_getElem? (i := 189) rfl)) rfl
theorem m10_readEvery_se : Cond.selects (zRt 10) yX10_readEvery yX10_readEvery ∈ zt := zt_of (List.mem_of_getElem? (i := 19) rfl) rfl
theorem m10_read_cd : Cond.code yX10_read cX10_read 2 (some .int) ∈ zt := zt_of (zq_4 (List.mem_of_getElem? (i := 85) rfl)) rfl
theorem m10_read_ni : Cond.initialized yX10_read.cls ∈ zt := zt_of (zq_1 (List.mem_of_getElem? (i := 7) rfl)) rfl
theorem m10_read_in : Cond.instanceMethod yX10_read ∈ zt := zt_of (zq_4 (List.mem_of_getElem? (i := 83) rfl)) rfl
theorem m10_read_se : Cond.selects (zRt 10) yX10_read yX10_read ∈ zt := zt_of (zq_4 (List.mem_of_getElem? (i := 84) rfl)) rfl
theorem m11_fault_cd : Cond.code yX11_fault cX11_fault 1 (some .int) ∈ zt := zt_of (zq_4 (List.mem_of_getElem? (i := 81) rfl)) rfl
theorem m11_fault_ni : Cond.initialized yX11_fault.cls ∈ zt := zt_of (zq_1 (List.mem_of_getElem? (i := 1) rfl)) rfl
theorem m11_fault_in : Cond.instanceMethod yX11_fault ∈ zt := zt_of (zq_4 (List.mem_of_getElem? (i := 79) rfl)) rfl
theorem m11_fault_se : Cond.selects (zRt 11) yX11_fault yX11_fault ∈ zt := zt_of (zq_4 (List.mem_of_getElem? (i := 80) rfl)) rfl
theorem m7_copy_cd : Cond.code yX7_copy cX7_copy 3 (none) ∈ zt := zt_of (zq_4 (List.mem_of_getElem? (i := 204) rfl)) rfl
theorem m7_copy_ni : Cond.initialized yX7_copy.cls ∈ zt := zt_of (zq_1 (List.mem_of_getElem? (i := 8) rfl)) rfl
theorem m7_copy_in : Cond.instanceMethod yX7_copy ∈ zt := zt_of (zq_4 (List.mem_of_getElem? (i := 202) rfl)) rfl
theorem m7_copy_se : Cond.selects (zRt 7) yX7_copy yX7_copy ∈ zt := zt_of (zq_4 (List.mem_of_getElem? (i := 203) rfl)) rfl
theorem m0_pose_cd : Cond.code yX0_pose cX0_pose 3 (none) ∈ zt := zt_of (zq_4 (List.mem_of_getElem? (i := 200) rfl)) rfl
theorem m0_pose_ni : Cond.initialized yX0_pose.cls ∈ zt := zt_of (zq_1 (List.mem_of_getElem? (i := 9) rfl)) rfl
theorem m0_pose_in : Cond.instanceMethod yX0_pose ∈ zt := zt_of (zq_4 (List.mem_of_getElem? (i := 198) rfl)) rfl
theorem m0_pose_se : Cond.selects (zRt 0) yX0_pose yX0_pose ∈ zt := zt_of (zq_4 (List.mem_of_getElem? (i := 199) rfl)) rfl
theorem m11_ask_cd : Cond.code yX11_ask cX11_ask 1 (some .int) ∈ zt := zt_of (zq_4 (List.mem_of_getElem? (i := 196) rfl)) rfl
theorem m11_ask_ni : Cond.initialized yX11_ask.cls ∈ zt := zt_of (zq_1 (List.mem_of_getElem? (i := 1) rfl)) rfl
theorem m11_ask_in : Cond.instanceMethod yX11_ask ∈ zt := zt_of (zq_4 (List.mem_of_getElem? (i := 194) rfl)) rfl
theorem m11_ask_se : Cond.selects (zRt 11) yX11_ask yX11_ask ∈ zt := zt_of (zq_4 (List.mem_of_getElem? (i := 195) rfl)) rfl
theorem m11_loud_cd : Cond.code yX11_loud cX11_loud 6 (some .int) ∈ zt := zt_of (zq_4 (List.mem_of_getElem? (i := 208) rfl)) rfl
theorem m11_loud_ni : Cond.initialized yX11_loud.cls ∈ zt := zt_of (zq_1 (List.mem_of_getElem? (i := 1) rfl)) rfl
theorem m11_loud_in : Cond.instanceMethod yX11_loud ∈ zt := zt_of (zq_4 (List.mem_of_getElem? (i := 206) rfl)) rfl
theorem m11_loud_se : Cond.selects (zRt 11) yX11_loud yX11_loud ∈ zt := zt_of (zq_4 (List.mem_of_getElem? (i := 207) rfl)) rfl
theorem m11_lies_cd : Cond.code yX11_lies cX11_lies 5 (some .int) ∈ zt := zt_of (zq_4 (List.mem_of_getElem? (i := 212) rfl)) rfl
theorem m11_lies_ni : Cond.initialized yX11_lies.cls ∈ zt := zt_of (zq_1 (List.mem_of_getElem? (i := 1) rfl)) rfl
theorem m11_lies_in : Cond.instanceMethod yX11_lies ∈ zt := zt_of (zq_4 (List.mem_of_getElem? (i := 210) rfl)) rfl
theorem m11_lies_se : Cond.selects (zRt 11) yX11_lies yX11_lies ∈ zt := zt_of (zq_4 (List.mem_of_getElem? (i := 211) rfl)) rfl
theorem m7_isAsked_cd : Cond.code yX7_isAsked cX7_isAsked 1 (some .boolean) ∈ zt := zt_of (zq_4 (List.mem_of_getElem? (i := 220) rfl)) rfl
theorem m7_isAsked_ni : Cond.initialized yX7_isAsked.cls ∈ zt := zt_of (zq_1 (List.mem_of_getElem? (i := 8) rfl)) rfl
theorem m7_isAsked_in : Cond.instanceMethod yX7_isAsked ∈ zt := zt_of (zq_4 (List.mem_of_getElem? (i := 218) rfl)) rfl
theorem m7_isAsked_se : Cond.selects (zRt 7) yX7_isAsked yX7_isAsked ∈ zt := zt_of (zq_4 (List.mem_of_getElem? (i := 219) rfl)) rfl
theorem m7_commonPart_cd : Cond.code yX7_commonPart cX7_commonPart 6 (some .int) ∈ zt := zt_of (zq_4 (List.mem_of_getElem? (i := 229) rfl)) rfl
theorem m7_commonPart_ni : Cond.initialized yX7_commonPart.cls ∈ zt := zt_of (zq_1 (List.mem_of_getElem? (i := 8) rfl)) rfl
theorem m7_commonPart_in : Cond.static yX7_commonPart ∈ zt := zt_of (zq_4 (List.mem_of_getElem? (i := 228) rfl)) rfl
theorem m7_answerAbove_cd : Cond.code yX7_answerAbove cX7_answerAbove 2 (some .int) ∈ zt := zt_of (zq_4 (List.mem_of_getElem? (i := 225) rfl)) rfl
theorem m7_answerAbove_ni : Cond.initialized yX7_answerAbove.cls ∈ zt := zt_of (zq_1 (List.mem_of_getElem? (i := 8) rfl)) rfl
theorem m7_answerAbove_in : Cond.instanceMethod yX7_answerAbove ∈ zt := zt_of (zq_4 (List.mem_of_getElem? (i := 223) rfl)) rfl
theorem m7_answerAbove_se : Cond.selects (zRt 7) yX7_answerAbove yX7_answerAbove ∈ zt := zt_of (zq_4 (List.mem_of_getElem? (i := 224) rfl)) rfl
theorem m7_answerBelow_cd : Cond.code yX7_answerBelow cX7_answerBelow 2 (some .int) ∈ zt := zt_of (zq_4 (List.mem_of_getElem? (i := 233) rfl)) rfl
theorem m7_answerBelow_ni : Cond.initialized yX7_answerBelow.cls ∈ zt := zt_of (zq_1 (List.mem_of_getElem? (i := 8) rfl)) rfl
theorem m7_answerBelow_in : Cond.instanceMethod yX7_answerBelow ∈ zt := zt_of (zq_4 (List.mem_of_getElem? (i := 231) rfl)) rfl
theorem m7_answerBelow_se : Cond.selects (zRt 7) yX7_answerBelow yX7_answerBelow ∈ zt := zt_of (zq_4 (List.mem_of_getElem? (i := 232) rfl)) rfl
theorem m11_result_cd : Cond.code yX11_result cX11_result 3 (some .int) ∈ zt := zt_of (zq_4 (List.mem_of_getElem? (i := 216) rfl)) rfl
theorem m11_result_ni : Cond.initialized yX11_result.cls ∈ zt := zt_of (zq_1 (List.mem_of_getElem? (i := 1) rfl)) rfl
theorem m11_result_in : Cond.instanceMethod yX11_result ∈ zt := zt_of (zq_4 (List.mem_of_getElem? (i := 214) rfl)) rfl
theorem m11_result_se : Cond.selects (zRt 11) yX11_result yX11_result ∈ zt := zt_of (zq_4 (List.mem_of_getElem? (i := 215) rfl)) rfl
theorem m3_children_cd : Cond.code yX3_children cX3_children 4 (some .int) ∈ zt := zt_of (zq_5 (List.mem_of_getElem? (i := 7) rfl)) rfl
theorem m3_children_ni : Cond.initialized yX3_children.cls ∈ zt := zt_of (zq_1 (List.mem_of_getElem? (i := 2) rfl)) rfl
theorem m3_children_in : Cond.instanceMethod yX3_children ∈ zt := zt_of (zq_5 (List.mem_of_getElem? (i := 5) rfl)) rfl
theorem m3_children_se : Cond.selects (zRt 3) yX3_children yX3_children ∈ zt := zt_of (zq_5 (List.mem_of_getElem? (i := 6) rfl)) rfl
theorem m5_restIn_cd : Cond.code yX5_restIn cX5_restIn 3 (some .int) ∈ zt := zt_of (zq_5 (List.mem_of_getElem? (i := 11) rfl)) rfl
theorem m5_restIn_ni : Cond.initialized yX5_restIn.cls ∈ zt := zt_of (zq_1 (List.mem_of_getElem? (i := 10) rfl)) rfl
theorem m5_restIn_in : Cond.instanceMethod yX5_restIn ∈ zt := zt_of (zq_5 (List.mem_of_getElem? (i := 10) rfl)) rfl
theorem m5_restIn_se : Cond.selects (zRt 5) yX5_restIn yX5_restIn ∈ zt := zt_of (List.mem_of_getElem? (i := 20) rfl) rfl
theorem m5_spentIn_cd : Cond.code yX5_spentIn cX5_spentIn 7 (some .int) ∈ zt := zt_of (zq_5 (List.mem_of_getElem? (i := 1) rfl)) rfl
theorem m5_spentIn_ni : Cond.initialized yX5_spentIn.cls ∈ zt := zt_of (zq_1 (List.mem_of_getElem? (i := 10) rfl)) rfl
theorem m5_spentIn_in : Cond.instanceMethod yX5_spentIn ∈ zt := zt_of (zq_4 (List.mem_of_getElem? (i := 239) rfl)) rfl
theorem m5_spentIn_se : Cond.selects (zRt 5) yX5_spentIn yX5_spentIn ∈ zt := zt_of (zq_5 (List.mem_of_getElem? (i := 0) rfl)) rfl
theorem m11_foretold_cd : Cond.code yX11_foretold cX11_foretold 3 (some .int) ∈ zt := zt_of (zq_4 (List.mem_of_getElem? (i := 237) rfl)) rfl
theorem m11_foretold_ni : Cond.initialized yX11_foretold.cls ∈ zt := zt_of (zq_1 (List.mem_of_getElem? (i := 1) rfl)) rfl
theorem m11_foretold_in : Cond.instanceMethod yX11_foretold ∈ zt := zt_of (zq_4 (List.mem_of_getElem? (i := 235) rfl)) rfl
theorem m11_foretold_se : Cond.selects (zRt 11) yX11_foretold yX11_foretold ∈ zt := zt_of (zq_4 (List.mem_of_getElem? (i := 236) rfl)) rfl
theorem m5_foreseeLives_cd : Cond.code yX5_foreseeLives cX5_foreseeLives 9 (none) ∈ zt := zt_of (zq_5 (List.mem_of_getElem? (i := 25) rfl)) rfl
theorem m5_foreseeLives_ni : Cond.initialized yX5_foreseeLives.cls ∈ zt := zt_of (zq_1 (List.mem_of_getElem? (i := 10) rfl)) rfl
theorem m5_foreseeLives_in : Cond.instanceMethod yX5_foreseeLives ∈ zt := zt_of (zq_5 (List.mem_of_getElem? (i := 24) rfl)) rfl
theorem m5_foreseeLives_se : Cond.selects (zRt 5) yX5_foreseeLives yX5_foreseeLives ∈ zt := zt_of (List.mem_of_getElem? (i := 21) rfl) rfl
theorem m5_lifeWith_cd : Cond.code yX5_lifeWith cX5_lifeWith 4 (some .int) ∈ zt := zt_of (zq_5 (List.mem_of_getElem? (i := 29) rfl)) rfl
theorem m5_lifeWith_ni : Cond.initialized yX5_lifeWith.cls ∈ zt := zt_of (zq_1 (List.mem_of_getElem? (i := 10) rfl)) rfl
theorem m5_lifeWith_in : Cond.instanceMethod yX5_lifeWith ∈ zt := zt_of (zq_5 (List.mem_of_getElem? (i := 28) rfl)) rfl
theorem m5_lifeWith_se : Cond.selects (zRt 5) yX5_lifeWith yX5_lifeWith ∈ zt := zt_of (List.mem_of_getElem? (i := 22) rfl) rfl
theorem m5_lifeNow_cd : Cond.code yX5_lifeNow cX5_lifeNow 2 (some .int) ∈ zt := zt_of (zq_5 (List.mem_of_getElem? (i := 21) rfl)) rfl
theorem m5_lifeNow_ni : Cond.initialized yX5_lifeNow.cls ∈ zt := zt_of (zq_1 (List.mem_of_getElem? (i := 10) rfl)) rfl
theorem m5_lifeNow_in : Cond.instanceMethod yX5_lifeNow ∈ zt := zt_of (zq_5 (List.mem_of_getElem? (i := 19) rfl)) rfl
theorem m5_lifeNow_se : Cond.selects (zRt 5) yX5_lifeNow yX5_lifeNow ∈ zt := zt_of (zq_5 (List.mem_of_getElem? (i := 20) rfl)) rfl
theorem m11_life_cd : Cond.code yX11_life cX11_life 2 (some .int) ∈ zt := zt_of (zq_5 (List.mem_of_getElem? (i := 17) rfl)) rfl
theorem m11_life_ni : Cond.initialized yX11_life.cls ∈ zt := zt_of (zq_1 (List.mem_of_getElem? (i := 1) rfl)) rfl
theorem m11_life_in : Cond.instanceMethod yX11_life ∈ zt := zt_of (zq_5 (List.mem_of_getElem? (i := 15) rfl)) rfl
theorem m11_life_se : Cond.selects (zRt 11) yX11_life yX11_life ∈ zt := zt_of (zq_5 (List.mem_of_getElem? (i := 16) rfl)) rfl
theorem mJ7_fill_cd : Cond.code yJ7_fill_53178 cJ7_fill_53178 4 (none) ∈ zt := zt_of (zq_1 (List.mem_of_getElem? (i := 98) rfl)) rfl
theorem mJ7_fill_ni : Cond.initialized yJ7_fill_53178.cls ∈ zt := zt_of (zq_1 (List.mem_of_getElem? (i := 6) rfl)) rfl
theorem mJ7_fill_in : Cond.static yJ7_fill_53178 ∈ zt := zt_of (zq_1 (List.mem_of_getElem? (i := 97) rfl)) rfl
theorem m5_boxesAt_cd : Cond.code yX5_boxesAt cX5_boxesAt 4 (some .int) ∈ zt := zt_of (zq_5 (List.mem_of_getElem? (i := 48) rfl)) rfl
theorem m5_boxesAt_ni : Cond.initialized yX5_boxesAt.cls ∈ zt := zt_of (zq_1 (List.mem_of_getElem? (i := 10) rfl)) rfl
theorem m5_boxesAt_in : Cond.instanceMethod yX5_boxesAt ∈ zt := zt_of (zq_5 (List.mem_of_getElem? (i := 47) rfl)) rfl
theorem m5_boxesAt_se : Cond.selects (zRt 5) yX5_boxesAt yX5_boxesAt ∈ zt := zt_of (List.mem_of_getElem? (i := 24) rfl) rfl
theorem m5_findSteps_cd : Cond.code yX5_findSteps cX5_findSteps 4 (none) ∈ zt := zt_of (zq_5 (List.mem_of_getElem? (i := 43) rfl)) rfl
theorem m5_findSteps_ni : Cond.initialized yX5_findSteps.cls ∈ zt := zt_of (zq_1 (List.mem_of_getElem? (i := 10) rfl)) rfl
theorem m5_findSteps_in : Cond.instanceMethod yX5_findSteps ∈ zt := zt_of (zq_5 (List.mem_of_getElem? (i := 42) rfl)) rfl
theorem m5_findSteps_se : Cond.selects (zRt 5) yX5_findSteps yX5_findSteps ∈ zt := zt_of (List.mem_of_getElem? (i := 23) rfl) rfl
theorem mJ6_numberOfTrailingZeros_cd : Cond.code yJ6_numberOfTrailingZeros_0f7a4 cJ6_numberOfTrailingZeros_0f7a4 2 (some .int) ∈ zt := zt_of (zq_5 (List.mem_of_getElem? (i := 55) rfl)) rfl
theorem mJ6_numberOfTrailingZeros_ni : Cond.initialized yJ6_numberOfTrailingZeros_0f7a4.cls ∈ zt := zt_of (zq_1 (List.mem_of_getElem? (i := 16) rfl)) rfl
theorem mJ6_numberOfTrailingZeros_in : Cond.static yJ6_numberOfTrailingZeros_0f7a4 ∈ zt := zt_of (zq_5 (List.mem_of_getElem? (i := 54) rfl)) rfl
theorem m5_findNearer_cd : Cond.code yX5_findNearer cX5_findNearer 4 (some .int) ∈ zt := zt_of (zq_5 (List.mem_of_getElem? (i := 52) rfl)) rfl
theorem m5_findNearer_ni : Cond.initialized yX5_findNearer.cls ∈ zt := zt_of (zq_1 (List.mem_of_getElem? (i := 10) rfl)) rfl
theorem m5_findNearer_in : Cond.instanceMethod yX5_findNearer ∈ zt := zt_of (zq_5 (List.mem_of_getElem? (i := 51) rfl)) rfl
theorem m5_findNearer_se : Cond.selects (zRt 5) yX5_findNearer yX5_findNearer ∈ zt := zt_of (List.mem_of_getElem? (i := 25) rfl) rfl
theorem m5_leastLife_cd : Cond.code yX5_leastLife cX5_leastLife 4 (some .int) ∈ zt := zt_of (zq_5 (List.mem_of_getElem? (i := 61) rfl)) rfl
theorem m5_leastLife_ni : Cond.initialized yX5_leastLife.cls ∈ zt := zt_of (zq_1 (List.mem_of_getElem? (i := 10) rfl)) rfl
theorem m5_leastLife_in : Cond.instanceMethod yX5_leastLife ∈ zt := zt_of (zq_5 (List.mem_of_getElem? (i := 60) rfl)) rfl
theorem m5_leastLife_se : Cond.selects (zRt 5) yX5_leastLife yX5_leastLife ∈ zt := zt_of (List.mem_of_getElem? (i := 26) rfl) rfl
theorem m5_nextTree_cd : Cond.code yX5_nextTree cX5_nextTree 3 (some .boolean) ∈ zt := zt_of (zq_5 (List.mem_of_getElem? (i := 69) rfl)) rfl
theorem m5_nextTree_ni : Cond.initialized yX5_nextTree.cls ∈ zt := zt_of (zq_1 (List.mem_of_getElem? (i := 10) rfl)) rfl
theorem m5_nextTree_in : Cond.instanceMethod yX5_nextTree ∈ zt := zt_of (zq_5 (List.mem_of_getElem? (i := 68) rfl)) rfl
theorem m5_nextTree_se : Cond.selects (zRt 5) yX5_nextTree yX5_nextTree ∈ zt := zt_of (List.mem_of_getElem? (i := 27) rfl) rfl
theorem m5_findLongest_cd : Cond.code yX5_findLongest cX5_findLongest 5 (some .int) ∈ zt := zt_of (zq_5 (List.mem_of_getElem? (i := 37) rfl)) rfl
theorem m5_findLongest_ni : Cond.initialized yX5_findLongest.cls ∈ zt := zt_of (zq_1 (List.mem_of_getElem? (i := 10) rfl)) rfl
theorem m5_findLongest_in : Cond.instanceMethod yX5_findLongest ∈ zt := zt_of (zq_5 (List.mem_of_getElem? (i := 35) rfl)) rfl
theorem m5_findLongest_se : Cond.selects (zRt 5) yX5_findLongest yX5_findLongest ∈ zt := zt_of (zq_5 (List.mem_of_getElem? (i := 36) rfl)) rfl
theorem m11_longest_cd : Cond.code yX11_longest cX11_longest 1 (some .int) ∈ zt := zt_of (zq_5 (List.mem_of_getElem? (i := 33) rfl)) rfl
theorem m11_longest_ni : Cond.initialized yX11_longest.cls ∈ zt := zt_of (zq_1 (List.mem_of_getElem? (i := 1) rfl)) rfl
theorem m11_longest_in : Cond.instanceMethod yX11_longest ∈ zt := zt_of (zq_5 (List.mem_of_getElem? (i := 31) rfl)) rfl
theorem m11_longest_se : Cond.selects (zRt 11) yX11_longest yX11_longest ∈ zt := zt_of (zq_5 (List.mem_of_getElem? (i := 32) rfl)) rfl
theorem m5_parentInLongest_cd : Cond.code yX5_parentInLongest cX5_parentInLongest 2 (some .int) ∈ zt := zt_of (zq_5 (List.mem_of_getElem? (i := 77) rfl)) rfl
theorem m5_parentInLongest_ni : Cond.initialized yX5_parentInLongest.cls ∈ zt := zt_of (zq_1 (List.mem_of_getElem? (i := 10) rfl)) rfl
theorem m5_parentInLongest_in : Cond.instanceMethod yX5_parentInLongest ∈ zt := zt_of (zq_5 (List.mem_of_getElem? (i := 75) rfl)) rfl
theorem m5_parentInLongest_se : Cond.selects (zRt 5) yX5_parentInLongest yX5_parentInLongest ∈ zt := zt_of (zq_5 (List.mem_of_getElem? (i := 76) rfl)) rfl
theorem m11_best_cd : Cond.code yX11_best cX11_best 2 (some .int) ∈ zt := zt_of (zq_5 (List.mem_of_getElem? (i := 73) rfl)) rfl
theorem m11_best_ni : Cond.initialized yX11_best.cls ∈ zt := zt_of (zq_1 (List.mem_of_getElem? (i := 1) rfl)) rfl
theorem m11_best_in : Cond.instanceMethod yX11_best ∈ zt := zt_of (zq_5 (List.mem_of_getElem? (i := 71) rfl)) rfl
theorem m11_best_se : Cond.selects (zRt 11) yX11_best yX11_best ∈ zt := zt_of (zq_5 (List.mem_of_getElem? (i := 72) rfl)) rfl
theorem m1_addFact_cd : Cond.code yX1_addFact cX1_addFact 6 (some .int) ∈ zt := zt_of (zq_5 (List.mem_of_getElem? (i := 85) rfl)) rfl
theorem m1_addFact_ni : Cond.initialized yX1_addFact.cls ∈ zt := zt_of (zq_1 (List.mem_of_getElem? (i := 11) rfl)) rfl
theorem m1_addFact_in : Cond.instanceMethod yX1_addFact ∈ zt := zt_of (zq_5 (List.mem_of_getElem? (i := 83) rfl)) rfl
theorem m1_addFact_se : Cond.selects (zRt 1) yX1_addFact yX1_addFact ∈ zt := zt_of (zq_5 (List.mem_of_getElem? (i := 84) rfl)) rfl
theorem m11_fact_cd : Cond.code yX11_fact cX11_fact 6 (some .int) ∈ zt := zt_of (zq_5 (List.mem_of_getElem? (i := 81) rfl)) rfl
theorem m11_fact_ni : Cond.initialized yX11_fact.cls ∈ zt := zt_of (zq_1 (List.mem_of_getElem? (i := 1) rfl)) rfl
theorem m11_fact_in : Cond.instanceMethod yX11_fact ∈ zt := zt_of (zq_5 (List.mem_of_getElem? (i := 79) rfl)) rfl
theorem m11_fact_se : Cond.selects (zRt 11) yX11_fact yX11_fact ∈ zt := zt_of (zq_5 (List.mem_of_getElem? (i := 80) rfl)) rfl
theorem m1_allTellers_cd : Cond.code yX1_allTellers cX1_allTellers 3 (some .int) ∈ zt := zt_of (zq_5 (List.mem_of_getElem? (i := 100) rfl)) rfl
theorem m1_allTellers_ni : Cond.initialized yX1_allTellers.cls ∈ zt := zt_of (zq_1 (List.mem_of_getElem? (i := 11) rfl)) rfl
theorem m1_allTellers_in : Cond.instanceMethod yX1_allTellers ∈ zt := zt_of (zq_5 (List.mem_of_getElem? (i := 99) rfl)) rfl
theorem m1_allTellers_se : Cond.selects (zRt 1) yX1_allTellers yX1_allTellers ∈ zt := zt_of (List.mem_of_getElem? (i := 28) rfl) rfl
theorem m1_aheadAt_cd : Cond.code yX1_aheadAt cX1_aheadAt 4 (some .int) ∈ zt := zt_of (zq_5 (List.mem_of_getElem? (i := 119) rfl)) rfl
theorem m1_aheadAt_ni : Cond.initialized yX1_aheadAt.cls ∈ zt := zt_of (zq_1 (List.mem_of_getElem? (i := 11) rfl)) rfl
theorem m1_aheadAt_in : Cond.instanceMethod yX1_aheadAt ∈ zt := zt_of (zq_5 (List.mem_of_getElem? (i := 118) rfl)) rfl
theorem m1_aheadAt_se : Cond.selects (zRt 1) yX1_aheadAt yX1_aheadAt ∈ zt := zt_of (List.mem_of_getElem? (i := 32) rfl) rfl
theorem m1_hasLoopBelowZero_cd : Cond.code yX1_hasLoopBelowZero cX1_hasLoopBelowZero 2 (some .boolean) ∈ zt := zt_of (zq_5 (List.mem_of_getElem? (i := 123) rfl)) rfl
theorem m1_hasLoopBelowZero_ni : Cond.initialized yX1_hasLoopBelowZero.cls ∈ zt := zt_of (zq_1 (List.mem_of_getElem? (i := 11) rfl)) rfl
theorem m1_hasLoopBelowZero_in : Cond.instanceMethod yX1_hasLoopBelowZero ∈ zt := zt_of (zq_5 (List.mem_of_getElem? (i := 122) rfl)) rfl
theorem m1_hasLoopBelowZero_se : Cond.selects (zRt 1) yX1_hasLoopBelowZero yX1_hasLoopBelowZero ∈ zt := zt_of (List.mem_of_getElem? (i := 33) rfl) rfl
theorem m1_lower_cd : Cond.code yX1_lower cX1_lower 5 (none) ∈ zt := zt_of (zq_5 (List.mem_of_getElem? (i := 110) rfl)) rfl
theorem m1_lower_ni : Cond.initialized yX1_lower.cls ∈ zt := zt_of (zq_1 (List.mem_of_getElem? (i := 11) rfl)) rfl
theorem m1_lower_in : Cond.instanceMethod yX1_lower ∈ zt := zt_of (zq_5 (List.mem_of_getElem? (i := 109) rfl)) rfl
theorem m1_lower_se : Cond.selects (zRt 1) yX1_lower yX1_lower ∈ zt := zt_of (List.mem_of_getElem? (i := 30) rfl) rfl
theorem m1_goOver_cd : Cond.code yX1_goOver cX1_goOver 6 (none) ∈ zt := zt_of (zq_5 (List.mem_of_getElem? (i := 115) rfl)) rfl
theorem m1_goOver_ni : Cond.initialized yX1_goOver.cls ∈ zt := zt_of (zq_1 (List.mem_of_getElem? (i := 11) rfl)) rfl
theorem m1_goOver_in : Cond.instanceMethod yX1_goOver ∈ zt := zt_of (zq_5 (List.mem_of_getElem? (i := 114) rfl)) rfl
theorem m1_goOver_se : Cond.selects (zRt 1) yX1_goOver yX1_goOver ∈ zt := zt_of (List.mem_of_getElem? (i := 31) rfl) rfl
theorem m1_canBeWithout_cd : Cond.code yX1_canBeWithout cX1_canBeWithout 4 (some .boolean) ∈ zt := zt_of (zq_5 (List.mem_of_getElem? (i := 105) rfl)) rfl
theorem m1_canBeWithout_ni : Cond.initialized yX1_canBeWithout.cls ∈ zt := zt_of (zq_1 (List.mem_of_getElem? (i := 11) rfl)) rfl
theorem m1_canBeWithout_in : Cond.instanceMethod yX1_canBeWithout ∈ zt := zt_of (zq_5 (List.mem_of_getElem? (i := 104) rfl)) rfl
theorem m1_canBeWithout_se : Cond.selects (zRt 1) yX1_canBeWithout yX1_canBeWithout ∈ zt := zt_of (List.mem_of_getElem? (i := 29) rfl) rfl
theorem m1_aheadOfRoot_cd : Cond.code yX1_aheadOfRoot cX1_aheadOfRoot 8 (some .int) ∈ zt := zt_of (zq_5 (List.mem_of_getElem? (i := 94) rfl)) rfl
theorem m1_aheadOfRoot_ni : Cond.initialized yX1_aheadOfRoot.cls ∈ zt := zt_of (zq_1 (List.mem_of_getElem? (i := 11) rfl)) rfl
theorem m1_aheadOfRoot_in : Cond.instanceMethod yX1_aheadOfRoot ∈ zt := zt_of (zq_5 (List.mem_of_getElem? (i := 92) rfl)) rfl
theorem m1_aheadOfRoot_se : Cond.selects (zRt 1) yX1_aheadOfRoot yX1_aheadOfRoot ∈ zt := zt_of (zq_5 (List.mem_of_getElem? (i := 93) rfl)) rfl
theorem m11_hour_cd : Cond.code yX11_hour cX11_hour 4 (some .int) ∈ zt := zt_of (zq_5 (List.mem_of_getElem? (i := 89) rfl)) rfl
theorem m11_hour_ni : Cond.initialized yX11_hour.cls ∈ zt := zt_of (zq_1 (List.mem_of_getElem? (i := 1) rfl)) rfl
theorem m11_hour_in : Cond.instanceMethod yX11_hour ∈ zt := zt_of (zq_5 (List.mem_of_getElem? (i := 87) rfl)) rfl
theorem m11_hour_se : Cond.selects (zRt 11) yX11_hour yX11_hour ∈ zt := zt_of (zq_5 (List.mem_of_getElem? (i := 88) rfl)) rfl
theorem m11_place_cd : Cond.code yX11_place cX11_place 5 (some .int) ∈ zt := zt_of (zq_5 (List.mem_of_getElem? (i := 128) rfl)) rfl
theorem m11_place_ni : Cond.initialized yX11_place.cls ∈ zt := zt_of (zq_1 (List.mem_of_getElem? (i := 1) rfl)) rfl
theorem m11_place_in : Cond.instanceMethod yX11_place ∈ zt := zt_of (zq_5 (List.mem_of_getElem? (i := 126) rfl)) rfl
theorem m11_place_se : Cond.selects (zRt 11) yX11_place yX11_place ∈ zt := zt_of (zq_5 (List.mem_of_getElem? (i := 127) rfl)) rfl
theorem m1_isInReach_cd : Cond.code yX1_isInReach cX1_isInReach 6 (some .boolean) ∈ zt := zt_of (zq_5 (List.mem_of_getElem? (i := 148) rfl)) rfl
theorem m1_isInReach_ni : Cond.initialized yX1_isInReach.cls ∈ zt := zt_of (zq_1 (List.mem_of_getElem? (i := 11) rfl)) rfl
theorem m1_isInReach_in : Cond.instanceMethod yX1_isInReach ∈ zt := zt_of (zq_5 (List.mem_of_getElem? (i := 147) rfl)) rfl
theorem m1_isInReach_se : Cond.selects (zRt 1) yX1_isInReach yX1_isInReach ∈ zt := zt_of (List.mem_of_getElem? (i := 35) rfl) rfl
theorem m1_disagreeing_cd : Cond.code yX1_disagreeing cX1_disagreeing 8 (some .int) ∈ zt := zt_of (zq_5 (List.mem_of_getElem? (i := 142) rfl)) rfl
theorem m1_disagreeing_ni : Cond.initialized yX1_disagreeing.cls ∈ zt := zt_of (zq_1 (List.mem_of_getElem? (i := 11) rfl)) rfl
theorem m1_disagreeing_in : Cond.instanceMethod yX1_disagreeing ∈ zt := zt_of (zq_5 (List.mem_of_getElem? (i := 141) rfl)) rfl
theorem m1_disagreeing_se : Cond.selects (zRt 1) yX1_disagreeing yX1_disagreeing ∈ zt := zt_of (List.mem_of_getElem? (i := 34) rfl) rfl
theorem m1_mayBe_cd : Cond.code yX1_mayBe cX1_mayBe 6 (some .long) ∈ zt := zt_of (zq_5 (List.mem_of_getElem? (i := 138) rfl)) rfl
theorem m1_mayBe_ni : Cond.initialized yX1_mayBe.cls ∈ zt := zt_of (zq_1 (List.mem_of_getElem? (i := 11) rfl)) rfl
theorem m1_mayBe_in : Cond.instanceMethod yX1_mayBe ∈ zt := zt_of (zq_5 (List.mem_of_getElem? (i := 136) rfl)) rfl
theorem m1_mayBe_se : Cond.selects (zRt 1) yX1_mayBe yX1_mayBe ∈ zt := zt_of (zq_5 (List.mem_of_getElem? (i := 137) rfl)) rfl
theorem m11_cells_cd : Cond.code yX11_cells cX11_cells 3 (some .long) ∈ zt := zt_of (zq_5 (List.mem_of_getElem? (i := 132) rfl)) rfl
theorem m11_cells_ni : Cond.initialized yX11_cells.cls ∈ zt := zt_of (zq_1 (List.mem_of_getElem? (i := 1) rfl)) rfl
theorem m11_cells_in : Cond.instanceMethod yX11_cells ∈ zt := zt_of (zq_5 (List.mem_of_getElem? (i := 130) rfl)) rfl
theorem m11_cells_se : Cond.selects (zRt 11) yX11_cells yX11_cells ∈ zt := zt_of (zq_5 (List.mem_of_getElem? (i := 131) rfl)) rfl
theorem m2_partValue_cd : Cond.code yX2_partValue cX2_partValue 2 (some .int) ∈ zt := zt_of (zq_5 (List.mem_of_getElem? (i := 171) rfl)) rfl
theorem m2_partValue_ni : Cond.initialized yX2_partValue.cls ∈ zt := zt_of (zq_1 (List.mem_of_getElem? (i := 3) rfl)) rfl
theorem m2_partValue_in : Cond.instanceMethod yX2_partValue ∈ zt := zt_of (zq_5 (List.mem_of_getElem? (i := 169) rfl)) rfl
theorem m2_partValue_se : Cond.selects (zRt 2) yX2_partValue yX2_partValue ∈ zt := zt_of (zq_5 (List.mem_of_getElem? (i := 170) rfl)) rfl
theorem m6_sumOfParts_cd : Cond.code yX6_sumOfParts cX6_sumOfParts 4 (some .int) ∈ zt := zt_of (zq_5 (List.mem_of_getElem? (i := 167) rfl)) rfl
theorem m6_sumOfParts_ni : Cond.initialized yX6_sumOfParts.cls ∈ zt := zt_of (zq_1 (List.mem_of_getElem? (i := 12) rfl)) rfl
theorem m6_sumOfParts_in : Cond.instanceMethod yX6_sumOfParts ∈ zt := zt_of (zq_5 (List.mem_of_getElem? (i := 166) rfl)) rfl
theorem m6_sumOfParts_se : Cond.selects (zRt 6) yX6_sumOfParts yX6_sumOfParts ∈ zt := zt_of (List.mem_of_getElem? (i := 36) rfl) rfl
theorem m2_takePart_cd : Cond.code yX2_takePart cX2_takePart 3 (none) ∈ zt := zt_of (zq_5 (List.mem_of_getElem? (i := 163) rfl)) rfl
theorem m2_takePart_ni : Cond.initialized yX2_takePart.cls ∈ zt := zt_of (zq_1 (List.mem_of_getElem? (i := 3) rfl)) rfl
theorem m2_takePart_in : Cond.instanceMethod yX2_takePart ∈ zt := zt_of (zq_5 (List.mem_of_getElem? (i := 161) rfl)) rfl
theorem m2_takePart_se : Cond.selects (zRt 2) yX2_takePart yX2_takePart ∈ zt := zt_of (zq_5 (List.mem_of_getElem? (i := 162) rfl)) rfl
theorem m6_take_cd : Cond.code yX6_take cX6_take 6 (some .int) ∈ zt := zt_of (zq_5 (List.mem_of_getElem? (i := 157) rfl)) rfl
theorem m6_take_ni : Cond.initialized yX6_take.cls ∈ zt := zt_of (zq_1 (List.mem_of_getElem? (i := 12) rfl)) rfl
theorem m6_take_in : Cond.instanceMethod yX6_take ∈ zt := zt_of (zq_5 (List.mem_of_getElem? (i := 155) rfl)) rfl
theorem m6_take_se : Cond.selects (zRt 6) yX6_take yX6_take ∈ zt := zt_of (zq_5 (List.mem_of_getElem? (i := 156) rfl)) rfl
theorem m11_program_cd : Cond.code yX11_program cX11_program 4 (some .int) ∈ zt := zt_of (zq_5 (List.mem_of_getElem? (i := 153) rfl)) rfl
theorem m11_program_ni : Cond.initialized yX11_program.cls ∈ zt := zt_of (zq_1 (List.mem_of_getElem? (i := 1) rfl)) rfl
theorem m11_program_in : Cond.instanceMethod yX11_program ∈ zt := zt_of (zq_5 (List.mem_of_getElem? (i := 151) rfl)) rfl
theorem m11_program_se : Cond.selects (zRt 11) yX11_program yX11_program ∈ zt := zt_of (zq_5 (List.mem_of_getElem? (i := 152) rfl)) rfl
theorem m6_aheadOf_cd : Cond.code yX6_aheadOf cX6_aheadOf 2 (some .int) ∈ zt := zt_of (zq_5 (List.mem_of_getElem? (i := 188) rfl)) rfl
theorem m6_aheadOf_ni : Cond.initialized yX6_aheadOf.cls ∈ zt := zt_of (zq_1 (List.mem_of_getElem? (i := 12) rfl)) rfl
theorem m6_aheadOf_in : Cond.instanceMethod yX6_aheadOf ∈ zt := zt_of (zq_5 (List.mem_of_getElem? (i := 187) rfl)) rfl
theorem m6_aheadOf_se : Cond.selects (zRt 6) yX6_aheadOf yX6_aheadOf ∈ zt := zt_of (List.mem_of_getElem? (i := 38) rfl) rfl
theorem m6_give_cd : Cond.code yX6_give cX6_give 4 (none) ∈ zt := zt_of (zq_5 (List.mem_of_getElem? (i := 192) rfl)) rfl
theorem m6_give_ni : Cond.initialized yX6_give.cls ∈ zt := zt_of (zq_1 (List.mem_of_getElem? (i := 12) rfl)) rfl
theorem m6_give_in : Cond.instanceMethod yX6_give ∈ zt := zt_of (zq_5 (List.mem_of_getElem? (i := 191) rfl)) rfl
theorem m6_give_se : Cond.selects (zRt 6) yX6_give yX6_give ∈ zt := zt_of (List.mem_of_getElem? (i := 39) rfl) rfl
theorem m6_getsPart_cd : Cond.code yX6_getsPart cX6_getsPart 6 (some .boolean) ∈ zt := zt_of (zq_5 (List.mem_of_getElem? (i := 184) rfl)) rfl
theorem m6_getsPart_ni : Cond.initialized yX6_getsPart.cls ∈ zt := zt_of (zq_1 (List.mem_of_getElem? (i := 12) rfl)) rfl
theorem m6_getsPart_in : Cond.instanceMethod yX6_getsPart ∈ zt := zt_of (zq_5 (List.mem_of_getElem? (i := 183) rfl)) rfl
theorem m6_getsPart_se : Cond.selects (zRt 6) yX6_getsPart yX6_getsPart ∈ zt := zt_of (List.mem_of_getElem? (i := 37) rfl) rfl
theorem m6_handOn_cd : Cond.code yX6_handOn cX6_handOn 4 (some .int) ∈ zt := zt_of (zq_5 (List.mem_of_getElem? (i := 179) rfl)) rfl
theorem m6_handOn_ni : Cond.initialized yX6_handOn.cls ∈ zt := zt_of (zq_1 (List.mem_of_getElem? (i := 12) rfl)) rfl
theorem m6_handOn_in : Cond.instanceMethod yX6_handOn ∈ zt := zt_of (zq_5 (List.mem_of_getElem? (i := 177) rfl)) rfl
theorem m6_handOn_se : Cond.selects (zRt 6) yX6_handOn yX6_handOn ∈ zt := zt_of (zq_5 (List.mem_of_getElem? (i := 178) rfl)) rfl
theorem m11_hand_cd : Cond.code yX11_hand cX11_hand 1 (some .int) ∈ zt := zt_of (zq_5 (List.mem_of_getElem? (i := 175) rfl)) rfl
theorem m11_hand_ni : Cond.initialized yX11_hand.cls ∈ zt := zt_of (zq_1 (List.mem_of_getElem? (i := 1) rfl)) rfl
theorem m11_hand_in : Cond.instanceMethod yX11_hand ∈ zt := zt_of (zq_5 (List.mem_of_getElem? (i := 173) rfl)) rfl
theorem m11_hand_se : Cond.selects (zRt 11) yX11_hand yX11_hand ∈ zt := zt_of (zq_5 (List.mem_of_getElem? (i := 174) rfl)) rfl
theorem m6_hasPart_cd : Cond.code yX6_hasPart cX6_hasPart 2 (some .boolean) ∈ zt := zt_of (zq_5 (List.mem_of_getElem? (i := 202) rfl)) rfl
theorem m6_hasPart_ni : Cond.initialized yX6_hasPart.cls ∈ zt := zt_of (zq_1 (List.mem_of_getElem? (i := 12) rfl)) rfl
theorem m6_hasPart_in : Cond.instanceMethod yX6_hasPart ∈ zt := zt_of (zq_5 (List.mem_of_getElem? (i := 200) rfl)) rfl
theorem m6_hasPart_se : Cond.selects (zRt 6) yX6_hasPart yX6_hasPart ∈ zt := zt_of (zq_5 (List.mem_of_getElem? (i := 201) rfl)) rfl
theorem m11_tear_cd : Cond.code yX11_tear cX11_tear 6 (some .int) ∈ zt := zt_of (zq_5 (List.mem_of_getElem? (i := 198) rfl)) rfl
theorem m11_tear_ni : Cond.initialized yX11_tear.cls ∈ zt := zt_of (zq_1 (List.mem_of_getElem? (i := 1) rfl)) rfl
theorem m11_tear_in : Cond.instanceMethod yX11_tear ∈ zt := zt_of (zq_5 (List.mem_of_getElem? (i := 196) rfl)) rfl
theorem m11_tear_se : Cond.selects (zRt 11) yX11_tear yX11_tear ∈ zt := zt_of (zq_5 (List.mem_of_getElem? (i := 197) rfl)) rfl
theorem m6_isSound_cd : Cond.code yX6_isSound cX6_isSound 2 (some .boolean) ∈ zt := zt_of (zq_5 (List.mem_of_getElem? (i := 212) rfl)) rfl
theorem m6_isSound_ni : Cond.initialized yX6_isSound.cls ∈ zt := zt_of (zq_1 (List.mem_of_getElem? (i := 12) rfl)) rfl
theorem m6_isSound_in : Cond.instanceMethod yX6_isSound ∈ zt := zt_of (zq_5 (List.mem_of_getElem? (i := 210) rfl)) rfl
theorem m6_isSound_se : Cond.selects (zRt 6) yX6_isSound yX6_isSound ∈ zt := zt_of (zq_5 (List.mem_of_getElem? (i := 211) rfl)) rfl
theorem m11_has_cd : Cond.code yX11_has cX11_has 4 (some .int) ∈ zt := zt_of (zq_5 (List.mem_of_getElem? (i := 208) rfl)) rfl
theorem m11_has_ni : Cond.initialized yX11_has.cls ∈ zt := zt_of (zq_1 (List.mem_of_getElem? (i := 1) rfl)) rfl
theorem m11_has_in : Cond.instanceMethod yX11_has ∈ zt := zt_of (zq_5 (List.mem_of_getElem? (i := 206) rfl)) rfl
theorem m11_has_se : Cond.selects (zRt 11) yX11_has yX11_has ∈ zt := zt_of (zq_5 (List.mem_of_getElem? (i := 207) rfl)) rfl
theorem m6_beginIn_cd : Cond.code yX6_beginIn cX6_beginIn 4 (some .int) ∈ zt := zt_of (zq_5 (List.mem_of_getElem? (i := 220) rfl)) rfl
theorem m6_beginIn_ni : Cond.initialized yX6_beginIn.cls ∈ zt := zt_of (zq_1 (List.mem_of_getElem? (i := 12) rfl)) rfl
theorem m6_beginIn_in : Cond.instanceMethod yX6_beginIn ∈ zt := zt_of (zq_5 (List.mem_of_getElem? (i := 218) rfl)) rfl
theorem m6_beginIn_se : Cond.selects (zRt 6) yX6_beginIn yX6_beginIn ∈ zt := zt_of (zq_5 (List.mem_of_getElem? (i := 219) rfl)) rfl
theorem m11_begin_cd : Cond.code yX11_begin cX11_begin 2 (some .int) ∈ zt := zt_of (zq_5 (List.mem_of_getElem? (i := 216) rfl)) rfl
theorem m11_begin_ni : Cond.initialized yX11_begin.cls ∈ zt := zt_of (zq_1 (List.mem_of_getElem? (i := 1) rfl)) rfl
theorem m11_begin_in : Cond.instanceMethod yX11_begin ∈ zt := zt_of (zq_5 (List.mem_of_getElem? (i := 214) rfl)) rfl
theorem m11_begin_se : Cond.selects (zRt 11) yX11_begin yX11_begin ∈ zt := zt_of (zq_5 (List.mem_of_getElem? (i := 215) rfl)) rfl
theorem m4_sitFor_cd : Cond.code yX4_sitFor cX4_sitFor 2 (none) ∈ zt := zt_of (zq_5 (List.mem_of_getElem? (i := 230) rfl)) rfl
theorem m4_sitFor_ni : Cond.initialized yX4_sitFor.cls ∈ zt := zt_of (zq_1 (List.mem_of_getElem? (i := 13) rfl)) rfl
theorem m4_sitFor_in : Cond.instanceMethod yX4_sitFor ∈ zt := zt_of (zq_5 (List.mem_of_getElem? (i := 228) rfl)) rfl
theorem m4_sitFor_se : Cond.selects (zRt 4) yX4_sitFor yX4_sitFor ∈ zt := zt_of (zq_5 (List.mem_of_getElem? (i := 229) rfl)) rfl
theorem m11_days_cd : Cond.code yX11_days cX11_days 3 (some .int) ∈ zt := zt_of (zq_5 (List.mem_of_getElem? (i := 226) rfl)) rfl
theorem m11_days_ni : Cond.initialized yX11_days.cls ∈ zt := zt_of (zq_1 (List.mem_of_getElem? (i := 1) rfl)) rfl
theorem m11_days_in : Cond.instanceMethod yX11_days ∈ zt := zt_of (zq_5 (List.mem_of_getElem? (i := 224) rfl)) rfl
theorem m11_days_se : Cond.selects (zRt 11) yX11_days yX11_days ∈ zt := zt_of (zq_5 (List.mem_of_getElem? (i := 225) rfl)) rfl
theorem m4_hasSpot_cd : Cond.code yX4_hasSpot cX4_hasSpot 2 (some .boolean) ∈ zt := zt_of (zq_5 (List.mem_of_getElem? (i := 238) rfl)) rfl
theorem m4_hasSpot_ni : Cond.initialized yX4_hasSpot.cls ∈ zt := zt_of (zq_1 (List.mem_of_getElem? (i := 13) rfl)) rfl
theorem m4_hasSpot_in : Cond.instanceMethod yX4_hasSpot ∈ zt := zt_of (zq_5 (List.mem_of_getElem? (i := 236) rfl)) rfl
theorem m4_hasSpot_se : Cond.selects (zRt 4) yX4_hasSpot yX4_hasSpot ∈ zt := zt_of (zq_5 (List.mem_of_getElem? (i := 237) rfl)) rfl
theorem m4_layWay_cd : Cond.code yX4_layWay cX4_layWay 5 (some .int) ∈ zt := zt_of (zq_6 (List.mem_of_getElem? (i := 2) rfl)) rfl
theorem m4_layWay_ni : Cond.initialized yX4_layWay.cls ∈ zt := zt_of (zq_1 (List.mem_of_getElem? (i := 13) rfl)) rfl
theorem m4_layWay_in : Cond.instanceMethod yX4_layWay ∈ zt := zt_of (zq_6 (List.mem_of_getElem? (i := 0) rfl)) rfl
theorem m4_layWay_se : Cond.selects (zRt 4) yX4_layWay yX4_layWay ∈ zt := zt_of (zq_6 (List.mem_of_getElem? (i := 1) rfl)) rfl
theorem m11_way_cd : Cond.code yX11_way cX11_way 4 (some .int) ∈ zt := zt_of (zq_5 (List.mem_of_getElem? (i := 234) rfl)) rfl
theorem m11_way_ni : Cond.initialized yX11_way.cls ∈ zt := zt_of (zq_1 (List.mem_of_getElem? (i := 1) rfl)) rfl
theorem m11_way_in : Cond.instanceMethod yX11_way ∈ zt := zt_of (zq_5 (List.mem_of_getElem? (i := 232) rfl)) rfl
theorem m11_way_se : Cond.selects (zRt 11) yX11_way yX11_way ∈ zt := zt_of (zq_5 (List.mem_of_getElem? (i := 233) rfl)) rfl
theorem m4_hasEar_cd : Cond.code yX4_hasEar cX4_hasEar 2 (some .boolean) ∈ zt := zt_of (zq_6 (List.mem_of_getElem? (i := 11) rfl)) rfl
theorem m4_hasEar_ni : Cond.initialized yX4_hasEar.cls ∈ zt := zt_of (zq_1 (List.mem_of_getElem? (i := 13) rfl)) rfl
theorem m4_hasEar_in : Cond.instanceMethod yX4_hasEar ∈ zt := zt_of (zq_6 (List.mem_of_getElem? (i := 9) rfl)) rfl
theorem m4_hasEar_se : Cond.selects (zRt 4) yX4_hasEar yX4_hasEar ∈ zt := zt_of (zq_6 (List.mem_of_getElem? (i := 10) rfl)) rfl
theorem m11_ear_cd : Cond.code yX11_ear cX11_ear 4 (some .int) ∈ zt := zt_of (zq_6 (List.mem_of_getElem? (i := 7) rfl)) rfl
theorem m11_ear_ni : Cond.initialized yX11_ear.cls ∈ zt := zt_of (zq_1 (List.mem_of_getElem? (i := 1) rfl)) rfl
theorem m11_ear_in : Cond.instanceMethod yX11_ear ∈ zt := zt_of (zq_6 (List.mem_of_getElem? (i := 5) rfl)) rfl
theorem m11_ear_se : Cond.selects (zRt 11) yX11_ear yX11_ear ∈ zt := zt_of (zq_6 (List.mem_of_getElem? (i := 6) rfl)) rfl
theorem m4_hasTick_cd : Cond.code yX4_hasTick cX4_hasTick 2 (some .boolean) ∈ zt := zt_of (zq_6 (List.mem_of_getElem? (i := 19) rfl)) rfl
theorem m4_hasTick_ni : Cond.initialized yX4_hasTick.cls ∈ zt := zt_of (zq_1 (List.mem_of_getElem? (i := 13) rfl)) rfl
theorem m4_hasTick_in : Cond.instanceMethod yX4_hasTick ∈ zt := zt_of (zq_6 (List.mem_of_getElem? (i := 17) rfl)) rfl
theorem m4_hasTick_se : Cond.selects (zRt 4) yX4_hasTick yX4_hasTick ∈ zt := zt_of (zq_6 (List.mem_of_getElem? (i := 18) rfl)) rfl
theorem m4_logOf_cd : Cond.code yX4_logOf cX4_logOf 4 (some .int) ∈ zt := zt_of (zq_6 (List.mem_of_getElem? (i := 27) rfl)) rfl
theorem m4_logOf_ni : Cond.initialized yX4_logOf.cls ∈ zt := zt_of (zq_1 (List.mem_of_getElem? (i := 13) rfl)) rfl
theorem m4_logOf_in : Cond.instanceMethod yX4_logOf ∈ zt := zt_of (zq_6 (List.mem_of_getElem? (i := 26) rfl)) rfl
theorem m4_logOf_se : Cond.selects (zRt 4) yX4_logOf yX4_logOf ∈ zt := zt_of (List.mem_of_getElem? (i := 40) rfl) rfl
theorem m4_writeLog_cd : Cond.code yX4_writeLog cX4_writeLog 6 (some .int) ∈ zt := zt_of (zq_6 (List.mem_of_getElem? (i := 23) rfl)) rfl
theorem m4_writeLog_ni : Cond.initialized yX4_writeLog.cls ∈ zt := zt_of (zq_1 (List.mem_of_getElem? (i := 13) rfl)) rfl
theorem m4_writeLog_in : Cond.instanceMethod yX4_writeLog ∈ zt := zt_of (zq_6 (List.mem_of_getElem? (i := 21) rfl)) rfl
theorem m4_writeLog_se : Cond.selects (zRt 4) yX4_writeLog yX4_writeLog ∈ zt := zt_of (zq_6 (List.mem_of_getElem? (i := 22) rfl)) rfl
theorem m11_log_cd : Cond.code yX11_log cX11_log 4 (some .int) ∈ zt := zt_of (zq_6 (List.mem_of_getElem? (i := 15) rfl)) rfl
theorem m11_log_ni : Cond.initialized yX11_log.cls ∈ zt := zt_of (zq_1 (List.mem_of_getElem? (i := 1) rfl)) rfl
theorem m11_log_in : Cond.instanceMethod yX11_log ∈ zt := zt_of (zq_6 (List.mem_of_getElem? (i := 13) rfl)) rfl
theorem m11_log_se : Cond.selects (zRt 11) yX11_log yX11_log ∈ zt := zt_of (zq_6 (List.mem_of_getElem? (i := 14) rfl)) rfl
theorem m11_liars_cd : Cond.code yX11_liars cX11_liars 3 (some .int) ∈ zt := zt_of (zq_6 (List.mem_of_getElem? (i := 31) rfl)) rfl
theorem m11_liars_ni : Cond.initialized yX11_liars.cls ∈ zt := zt_of (zq_1 (List.mem_of_getElem? (i := 1) rfl)) rfl
theorem m11_liars_in : Cond.instanceMethod yX11_liars ∈ zt := zt_of (zq_6 (List.mem_of_getElem? (i := 29) rfl)) rfl
theorem m11_liars_se : Cond.selects (zRt 11) yX11_liars yX11_liars ∈ zt := zt_of (zq_6 (List.mem_of_getElem? (i := 30) rfl)) rfl
theorem m4_earHears_cd : Cond.code yX4_earHears cX4_earHears 3 (some .boolean) ∈ zt := zt_of (zq_6 (List.mem_of_getElem? (i := 51) rfl)) rfl
theorem m4_earHears_ni : Cond.initialized yX4_earHears.cls ∈ zt := zt_of (zq_1 (List.mem_of_getElem? (i := 13) rfl)) rfl
theorem m4_earHears_in : Cond.instanceMethod yX4_earHears ∈ zt := zt_of (zq_6 (List.mem_of_getElem? (i := 50) rfl)) rfl
theorem m4_earHears_se : Cond.selects (zRt 4) yX4_earHears yX4_earHears ∈ zt := zt_of (List.mem_of_getElem? (i := 43) rfl) rfl
theorem m4_missesAt_cd : Cond.code yX4_missesAt cX4_missesAt 8 (some .int) ∈ zt := zt_of (zq_6 (List.mem_of_getElem? (i := 47) rfl)) rfl
theorem m4_missesAt_ni : Cond.initialized yX4_missesAt.cls ∈ zt := zt_of (zq_1 (List.mem_of_getElem? (i := 13) rfl)) rfl
theorem m4_missesAt_in : Cond.instanceMethod yX4_missesAt ∈ zt := zt_of (zq_6 (List.mem_of_getElem? (i := 46) rfl)) rfl
theorem m4_missesAt_se : Cond.selects (zRt 4) yX4_missesAt yX4_missesAt ∈ zt := zt_of (List.mem_of_getElem? (i := 42) rfl) rfl
theorem m4_weighSpots_cd : Cond.code yX4_weighSpots cX4_weighSpots 4 (none) ∈ zt := zt_of (zq_6 (List.mem_of_getElem? (i := 43) rfl)) rfl
theorem m4_weighSpots_ni : Cond.initialized yX4_weighSpots.cls ∈ zt := zt_of (zq_1 (List.mem_of_getElem? (i := 13) rfl)) rfl
theorem m4_weighSpots_in : Cond.instanceMethod yX4_weighSpots ∈ zt := zt_of (zq_6 (List.mem_of_getElem? (i := 42) rfl)) rfl
theorem m4_weighSpots_se : Cond.selects (zRt 4) yX4_weighSpots yX4_weighSpots ∈ zt := zt_of (List.mem_of_getElem? (i := 41) rfl) rfl
theorem m4_missedAt_cd : Cond.code yX4_missedAt cX4_missedAt 4 (some .int) ∈ zt := zt_of (zq_6 (List.mem_of_getElem? (i := 57) rfl)) rfl
theorem m4_missedAt_ni : Cond.initialized yX4_missedAt.cls ∈ zt := zt_of (zq_1 (List.mem_of_getElem? (i := 13) rfl)) rfl
theorem m4_missedAt_in : Cond.instanceMethod yX4_missedAt ∈ zt := zt_of (zq_6 (List.mem_of_getElem? (i := 56) rfl)) rfl
theorem m4_missedAt_se : Cond.selects (zRt 4) yX4_missedAt yX4_missedAt ∈ zt := zt_of (List.mem_of_getElem? (i := 44) rfl) rfl
theorem m4_mayGo_cd : Cond.code yX4_mayGo cX4_mayGo 3 (some .boolean) ∈ zt := zt_of (zq_6 (List.mem_of_getElem? (i := 66) rfl)) rfl
theorem m4_mayGo_ni : Cond.initialized yX4_mayGo.cls ∈ zt := zt_of (zq_1 (List.mem_of_getElem? (i := 13) rfl)) rfl
theorem m4_mayGo_in : Cond.instanceMethod yX4_mayGo ∈ zt := zt_of (zq_6 (List.mem_of_getElem? (i := 65) rfl)) rfl
theorem m4_mayGo_se : Cond.selects (zRt 4) yX4_mayGo yX4_mayGo ∈ zt := zt_of (List.mem_of_getElem? (i := 46) rfl) rfl
theorem m4_growCourses_cd : Cond.code yX4_growCourses cX4_growCourses 10 (some .int) ∈ zt := zt_of (zq_6 (List.mem_of_getElem? (i := 61) rfl)) rfl
theorem m4_growCourses_ni : Cond.initialized yX4_growCourses.cls ∈ zt := zt_of (zq_1 (List.mem_of_getElem? (i := 13) rfl)) rfl
theorem m4_growCourses_in : Cond.instanceMethod yX4_growCourses ∈ zt := zt_of (zq_6 (List.mem_of_getElem? (i := 60) rfl)) rfl
theorem m4_growCourses_se : Cond.selects (zRt 4) yX4_growCourses yX4_growCourses ∈ zt := zt_of (List.mem_of_getElem? (i := 45) rfl) rfl
theorem m4_listCourses_cd : Cond.code yX4_listCourses cX4_listCourses 4 (some .int) ∈ zt := zt_of (zq_6 (List.mem_of_getElem? (i := 39) rfl)) rfl
theorem m4_listCourses_ni : Cond.initialized yX4_listCourses.cls ∈ zt := zt_of (zq_1 (List.mem_of_getElem? (i := 13) rfl)) rfl
theorem m4_listCourses_in : Cond.instanceMethod yX4_listCourses ∈ zt := zt_of (zq_6 (List.mem_of_getElem? (i := 37) rfl)) rfl
theorem m4_listCourses_se : Cond.selects (zRt 4) yX4_listCourses yX4_listCourses ∈ zt := zt_of (zq_6 (List.mem_of_getElem? (i := 38) rfl)) rfl
theorem m11_courses_cd : Cond.code yX11_courses cX11_courses 1 (some .int) ∈ zt := zt_of (zq_6 (List.mem_of_getElem? (i := 35) rfl)) rfl
theorem m11_courses_ni : Cond.initialized yX11_courses.cls ∈ zt := zt_of (zq_1 (List.mem_of_getElem? (i := 1) rfl)) rfl
theorem m11_courses_in : Cond.instanceMethod yX11_courses ∈ zt := zt_of (zq_6 (List.mem_of_getElem? (i := 33) rfl)) rfl
theorem m11_courses_se : Cond.selects (zRt 11) yX11_courses yX11_courses ∈ zt := zt_of (zq_6 (List.mem_of_getElem? (i := 34) rfl)) rfl
theorem m4_spotIn_cd : Cond.code yX4_spotIn cX4_spotIn 4 (some .int) ∈ zt := zt_of (zq_6 (List.mem_of_getElem? (i := 78) rfl)) rfl
theorem m4_spotIn_ni : Cond.initialized yX4_spotIn.cls ∈ zt := zt_of (zq_1 (List.mem_of_getElem? (i := 13) rfl)) rfl
theorem m4_spotIn_in : Cond.instanceMethod yX4_spotIn ∈ zt := zt_of (zq_6 (List.mem_of_getElem? (i := 77) rfl)) rfl
theorem m4_spotIn_se : Cond.selects (zRt 4) yX4_spotIn yX4_spotIn ∈ zt := zt_of (List.mem_of_getElem? (i := 47) rfl) rfl
theorem m4_spotOfCourse_cd : Cond.code yX4_spotOfCourse cX4_spotOfCourse 3 (some .int) ∈ zt := zt_of (zq_6 (List.mem_of_getElem? (i := 74) rfl)) rfl
theorem m4_spotOfCourse_ni : Cond.initialized yX4_spotOfCourse.cls ∈ zt := zt_of (zq_1 (List.mem_of_getElem? (i := 13) rfl)) rfl
theorem m4_spotOfCourse_in : Cond.instanceMethod yX4_spotOfCourse ∈ zt := zt_of (zq_6 (List.mem_of_getElem? (i := 72) rfl)) rfl
theorem m4_spotOfCourse_se : Cond.selects (zRt 4) yX4_spotOfCourse yX4_spotOfCourse ∈ zt := zt_of (zq_6 (List.mem_of_getElem? (i := 73) rfl)) rfl
theorem m11_course_cd : Cond.code yX11_course cX11_course 3 (some .int) ∈ zt := zt_of (zq_6 (List.mem_of_getElem? (i := 70) rfl)) rfl
theorem m11_course_ni : Cond.initialized yX11_course.cls ∈ zt := zt_of (zq_1 (List.mem_of_getElem? (i := 1) rfl)) rfl
theorem m11_course_in : Cond.instanceMethod yX11_course ∈ zt := zt_of (zq_6 (List.mem_of_getElem? (i := 68) rfl)) rfl
theorem m11_course_se : Cond.selects (zRt 11) yX11_course yX11_course ∈ zt := zt_of (zq_6 (List.mem_of_getElem? (i := 69) rfl)) rfl
theorem m11_refusedClaim_cd : Cond.code yX11_refusedClaim cX11_refusedClaim 6 (some .int) ∈ zt := zt_of (zq_6 (List.mem_of_getElem? (i := 88) rfl)) rfl
theorem m11_refusedClaim_ni : Cond.initialized yX11_refusedClaim.cls ∈ zt := zt_of (zq_1 (List.mem_of_getElem? (i := 1) rfl)) rfl
theorem m11_refusedClaim_in : Cond.instanceMethod yX11_refusedClaim ∈ zt := zt_of (zq_6 (List.mem_of_getElem? (i := 87) rfl)) rfl
theorem m11_refusedClaim_se : Cond.selects (zRt 11) yX11_refusedClaim yX11_refusedClaim ∈ zt := zt_of (List.mem_of_getElem? (i := 48) rfl) rfl
theorem m4_claim_cd : Cond.code yX4_claim cX4_claim 6 (none) ∈ zt := zt_of (zq_6 (List.mem_of_getElem? (i := 92) rfl)) rfl
theorem m4_claim_ni : Cond.initialized yX4_claim.cls ∈ zt := zt_of (zq_1 (List.mem_of_getElem? (i := 13) rfl)) rfl
theorem m4_claim_in : Cond.instanceMethod yX4_claim ∈ zt := zt_of (zq_6 (List.mem_of_getElem? (i := 90) rfl)) rfl
theorem m4_claim_se : Cond.selects (zRt 4) yX4_claim yX4_claim ∈ zt := zt_of (zq_6 (List.mem_of_getElem? (i := 91) rfl)) rfl
theorem m4_isSo_cd : Cond.code yX4_isSo cX4_isSo 5 (some .boolean) ∈ zt := zt_of (zq_6 (List.mem_of_getElem? (i := 101) rfl)) rfl
theorem m4_isSo_ni : Cond.initialized yX4_isSo.cls ∈ zt := zt_of (zq_1 (List.mem_of_getElem? (i := 13) rfl)) rfl
theorem m4_isSo_in : Cond.instanceMethod yX4_isSo ∈ zt := zt_of (zq_6 (List.mem_of_getElem? (i := 100) rfl)) rfl
theorem m4_isSo_se : Cond.selects (zRt 4) yX4_isSo yX4_isSo ∈ zt := zt_of (List.mem_of_getElem? (i := 49) rfl) rfl
theorem m4_verdict_cd : Cond.code yX4_verdict cX4_verdict 5 (some .int) ∈ zt := zt_of (zq_6 (List.mem_of_getElem? (i := 96) rfl)) rfl
theorem m4_verdict_ni : Cond.initialized yX4_verdict.cls ∈ zt := zt_of (zq_1 (List.mem_of_getElem? (i := 13) rfl)) rfl
theorem m4_verdict_in : Cond.instanceMethod yX4_verdict ∈ zt := zt_of (zq_6 (List.mem_of_getElem? (i := 94) rfl)) rfl
theorem m4_verdict_se : Cond.selects (zRt 4) yX4_verdict yX4_verdict ∈ zt := zt_of (zq_6 (List.mem_of_getElem? (i := 95) rfl)) rfl
theorem m11_judge_cd : Cond.code yX11_judge cX11_judge 7 (some .int) ∈ zt := zt_of (zq_6 (List.mem_of_getElem? (i := 84) rfl)) rfl
theorem m11_judge_ni : Cond.initialized yX11_judge.cls ∈ zt := zt_of (zq_1 (List.mem_of_getElem? (i := 1) rfl)) rfl
theorem m11_judge_in : Cond.instanceMethod yX11_judge ∈ zt := zt_of (zq_6 (List.mem_of_getElem? (i := 82) rfl)) rfl
theorem m11_judge_se : Cond.selects (zRt 11) yX11_judge yX11_judge ∈ zt := zt_of (zq_6 (List.mem_of_getElem? (i := 83) rfl)) rfl
theorem m4_leastAround_cd : Cond.code yX4_leastAround cX4_leastAround 4 (some .int) ∈ zt := zt_of (zq_6 (List.mem_of_getElem? (i := 118) rfl)) rfl
theorem m4_leastAround_ni : Cond.initialized yX4_leastAround.cls ∈ zt := zt_of (zq_1 (List.mem_of_getElem? (i := 13) rfl)) rfl
theorem m4_leastAround_in : Cond.instanceMethod yX4_leastAround ∈ zt := zt_of (zq_6 (List.mem_of_getElem? (i := 117) rfl)) rfl
theorem m4_leastAround_se : Cond.selects (zRt 4) yX4_leastAround yX4_leastAround ∈ zt := zt_of (List.mem_of_getElem? (i := 51) rfl) rfl
theorem m4_someAgrees_cd : Cond.code yX4_someAgrees cX4_someAgrees 4 (some .boolean) ∈ zt := zt_of (zq_6 (List.mem_of_getElem? (i := 114) rfl)) rfl
theorem m4_someAgrees_ni : Cond.initialized yX4_someAgrees.cls ∈ zt := zt_of (zq_1 (List.mem_of_getElem? (i := 13) rfl)) rfl
theorem m4_someAgrees_in : Cond.instanceMethod yX4_someAgrees ∈ zt := zt_of (zq_6 (List.mem_of_getElem? (i := 113) rfl)) rfl
theorem m4_someAgrees_se : Cond.selects (zRt 4) yX4_someAgrees yX4_someAgrees ∈ zt := zt_of (List.mem_of_getElem? (i := 50) rfl) rfl
theorem m4_fewestQuarrelling_cd : Cond.code yX4_fewestQuarrelling cX4_fewestQuarrelling 3 (some .int) ∈ zt := zt_of (zq_6 (List.mem_of_getElem? (i := 109) rfl)) rfl
theorem m4_fewestQuarrelling_ni : Cond.initialized yX4_fewestQuarrelling.cls ∈ zt := zt_of (zq_1 (List.mem_of_getElem? (i := 13) rfl)) rfl
theorem m4_fewestQuarrelling_in : Cond.instanceMethod yX4_fewestQuarrelling ∈ zt := zt_of (zq_6 (List.mem_of_getElem? (i := 107) rfl)) rfl
theorem m4_fewestQuarrelling_se : Cond.selects (zRt 4) yX4_fewestQuarrelling yX4_fewestQuarrelling ∈ zt := zt_of (zq_6 (List.mem_of_getElem? (i := 108) rfl)) rfl
theorem m11_quarrel_cd : Cond.code yX11_quarrel cX11_quarrel 1 (some .int) ∈ zt := zt_of (zq_6 (List.mem_of_getElem? (i := 105) rfl)) rfl
theorem m11_quarrel_ni : Cond.initialized yX11_quarrel.cls ∈ zt := zt_of (zq_1 (List.mem_of_getElem? (i := 1) rfl)) rfl
theorem m11_quarrel_in : Cond.instanceMethod yX11_quarrel ∈ zt := zt_of (zq_6 (List.mem_of_getElem? (i := 103) rfl)) rfl
theorem m11_quarrel_se : Cond.selects (zRt 11) yX11_quarrel yX11_quarrel ∈ zt := zt_of (zq_6 (List.mem_of_getElem? (i := 104) rfl)) rfl
theorem m4_wouldTell_cd : Cond.code yX4_wouldTell cX4_wouldTell 6 (some .int) ∈ zt := zt_of (zq_6 (List.mem_of_getElem? (i := 138) rfl)) rfl
theorem m4_wouldTell_ni : Cond.initialized yX4_wouldTell.cls ∈ zt := zt_of (zq_1 (List.mem_of_getElem? (i := 13) rfl)) rfl
theorem m4_wouldTell_in : Cond.instanceMethod yX4_wouldTell ∈ zt := zt_of (zq_6 (List.mem_of_getElem? (i := 137) rfl)) rfl
theorem m4_wouldTell_se : Cond.selects (zRt 4) yX4_wouldTell yX4_wouldTell ∈ zt := zt_of (List.mem_of_getElem? (i := 54) rfl) rfl
theorem m4_matchSpots_cd : Cond.code yX4_matchSpots cX4_matchSpots 5 (none) ∈ zt := zt_of (zq_6 (List.mem_of_getElem? (i := 134) rfl)) rfl
theorem m4_matchSpots_ni : Cond.initialized yX4_matchSpots.cls ∈ zt := zt_of (zq_1 (List.mem_of_getElem? (i := 13) rfl)) rfl
theorem m4_matchSpots_in : Cond.instanceMethod yX4_matchSpots ∈ zt := zt_of (zq_6 (List.mem_of_getElem? (i := 133) rfl)) rfl
theorem m4_matchSpots_se : Cond.selects (zRt 4) yX4_matchSpots yX4_matchSpots ∈ zt := zt_of (List.mem_of_getElem? (i := 53) rfl) rfl
theorem m4_heardPlace_cd : Cond.code yX4_heardPlace cX4_heardPlace 4 (some .int) ∈ zt := zt_of (zq_6 (List.mem_of_getElem? (i := 142) rfl)) rfl
theorem m4_heardPlace_ni : Cond.initialized yX4_heardPlace.cls ∈ zt := zt_of (zq_1 (List.mem_of_getElem? (i := 13) rfl)) rfl
theorem m4_heardPlace_in : Cond.instanceMethod yX4_heardPlace ∈ zt := zt_of (zq_6 (List.mem_of_getElem? (i := 141) rfl)) rfl
theorem m4_heardPlace_se : Cond.selects (zRt 4) yX4_heardPlace yX4_heardPlace ∈ zt := zt_of (List.mem_of_getElem? (i := 55) rfl) rfl
theorem m4_isSettledBy_cd : Cond.code yX4_isSettledBy cX4_isSettledBy 6 (some .boolean) ∈ zt := zt_of (zq_6 (List.mem_of_getElem? (i := 130) rfl)) rfl
theorem m4_isSettledBy_ni : Cond.initialized yX4_isSettledBy.cls ∈ zt := zt_of (zq_1 (List.mem_of_getElem? (i := 13) rfl)) rfl
theorem m4_isSettledBy_in : Cond.instanceMethod yX4_isSettledBy ∈ zt := zt_of (zq_6 (List.mem_of_getElem? (i := 129) rfl)) rfl
theorem m4_isSettledBy_se : Cond.selects (zRt 4) yX4_isSettledBy yX4_isSettledBy ∈ zt := zt_of (List.mem_of_getElem? (i := 52) rfl) rfl
theorem m4_fewestSettling_cd : Cond.code yX4_fewestSettling cX4_fewestSettling 4 (some .int) ∈ zt := zt_of (zq_6 (List.mem_of_getElem? (i := 126) rfl)) rfl
theorem m4_fewestSettling_ni : Cond.initialized yX4_fewestSettling.cls ∈ zt := zt_of (zq_1 (List.mem_of_getElem? (i := 13) rfl)) rfl
theorem m4_fewestSettling_in : Cond.instanceMethod yX4_fewestSettling ∈ zt := zt_of (zq_6 (List.mem_of_getElem? (i := 124) rfl)) rfl
theorem m4_fewestSettling_se : Cond.selects (zRt 4) yX4_fewestSettling yX4_fewestSettling ∈ zt := zt_of (zq_6 (List.mem_of_getElem? (i := 125) rfl)) rfl
theorem m11_settle_cd : Cond.code yX11_settle cX11_settle 7 (some .int) ∈ zt := zt_of (zq_6 (List.mem_of_getElem? (i := 122) rfl)) rfl
theorem m11_settle_ni : Cond.initialized yX11_settle.cls ∈ zt := zt_of (zq_1 (List.mem_of_getElem? (i := 1) rfl)) rfl
theorem m11_settle_in : Cond.instanceMethod yX11_settle ∈ zt := zt_of (zq_6 (List.mem_of_getElem? (i := 120) rfl)) rfl
theorem m11_settle_se : Cond.selects (zRt 11) yX11_settle yX11_settle ∈ zt := zt_of (zq_6 (List.mem_of_getElem? (i := 121) rfl)) rfl
theorem m3_countLiving_cd : Cond.code yX3_countLiving cX3_countLiving 1 (some .int) ∈ zt := zt_of (zq_6 (List.mem_of_getElem? (i := 150) rfl)) rfl
theorem m3_countLiving_ni : Cond.initialized yX3_countLiving.cls ∈ zt := zt_of (zq_1 (List.mem_of_getElem? (i := 2) rfl)) rfl
theorem m3_countLiving_in : Cond.instanceMethod yX3_countLiving ∈ zt := zt_of (zq_6 (List.mem_of_getElem? (i := 148) rfl)) rfl
theorem m3_countLiving_se : Cond.selects (zRt 3) yX3_countLiving yX3_countLiving ∈ zt := zt_of (zq_6 (List.mem_of_getElem? (i := 149) rfl)) rfl
theorem m11_count_cd : Cond.code yX11_count cX11_count 2 (some .int) ∈ zt := zt_of (zq_6 (List.mem_of_getElem? (i := 146) rfl)) rfl
theorem m11_count_ni : Cond.initialized yX11_count.cls ∈ zt := zt_of (zq_1 (List.mem_of_getElem? (i := 1) rfl)) rfl
theorem m11_count_in : Cond.instanceMethod yX11_count ∈ zt := zt_of (zq_6 (List.mem_of_getElem? (i := 144) rfl)) rfl
theorem m11_count_se : Cond.selects (zRt 11) yX11_count yX11_count ∈ zt := zt_of (zq_6 (List.mem_of_getElem? (i := 145) rfl)) rfl
theorem cw0_101 : zcw RX0 101 yX2_isDead cX2_isDead 1 (some .boolean) 0 := ⟨zt_of (zq_3 (List.mem_of_getElem? (i := 152) rfl)) rfl, m2_isDead_cd, m2_isDead_ni, by decide +kernel, by decide +kernel⟩
theorem cw0_105 : zcw RX0 105 yX2_rowWakes cX2_rowWakes 2 (some .boolean) 1 := ⟨zt_of (zq_3 (List.mem_of_getElem? (i := 153) rfl)) rfl, m2_rowWakes_cd, m2_rowWakes_ni, by decide +kernel, by decide +kernel⟩
theorem cw0_108 : zcw RX0 108 yX3_setting cX3_setting 2 (some .int) 1 := ⟨zt_of (zq_3 (List.mem_of_getElem? (i := 154) rfl)) rfl, m3_setting_cd, m3_setting_ni, by decide +kernel, by decide +kernel⟩
theorem cw0_112 : zcw RX0 112 yX2_spend cX2_spend 2 (none) 1 := ⟨zt_of (zq_3 (List.mem_of_getElem? (i := 155) rfl)) rfl, m2_spend_cd, m2_spend_ni, by decide +kernel, by decide +kernel⟩
theorem cw0_118 : zcw RX0 118 yX2_hasUnsaidSum cX2_hasUnsaidSum 1 (some .boolean) 0 := ⟨zt_of (zq_3 (List.mem_of_getElem? (i := 174) rfl)) rfl, m2_hasUnsaidSum_cd, m2_hasUnsaidSum_ni, by decide +kernel, by decide +kernel⟩
theorem cw0_121 : zcw RX0 121 yX0_startSum cX0_startSum 5 (none) 1 := ⟨zt_of (zq_3 (List.mem_of_getElem? (i := 198) rfl)) rfl, m0_startSum_cd, m0_startSum_ni, by decide +kernel, by decide +kernel⟩
theorem cw0_125 : zcw RX0 125 yX2_loudAt cX2_loudAt 2 (some .int) 1 := ⟨zt_of (zq_3 (List.mem_of_getElem? (i := 202) rfl)) rfl, m2_loudAt_cd, m2_loudAt_ni, by decide +kernel, by decide +kernel⟩
theorem cw0_131 : zcw RX0 131 yX7_isMetBy cX7_isMetBy 5 (some .boolean) 2 := ⟨zt_of (zq_3 (List.mem_of_getElem? (i := 206) rfl)) rfl, m7_isMetBy_cd, m7_isMetBy_ni, by decide +kernel, by decide +kernel⟩
theorem cw0_140 : zcw RX0 140 yX9_start cX9_start 3 (none) 2 := ⟨zt_of (zq_3 (List.mem_of_getElem? (i := 210) rfl)) rfl, m9_start_cd, m9_start_ni, by decide +kernel, by decide +kernel⟩
theorem cw0_144 : zcw RX0 144 yX3_deepest cX3_deepest 3 (some .int) 0 := ⟨zt_of (zq_3 (List.mem_of_getElem? (i := 218) rfl)) rfl, m3_deepest_cd, m3_deepest_ni, by decide +kernel, by decide +kernel⟩
theorem cw0_150 : zcw RX0 150 yX2_countNow cX2_countNow 1 (some .int) 0 := ⟨zt_of (zq_3 (List.mem_of_getElem? (i := 225) rfl)) rfl, m2_countNow_cd, m2_countNow_ni, by decide +kernel, by decide +kernel⟩
theorem cw0_157 : zcw RX0 157 yX8_isFull cX8_isFull 1 (some .boolean) 0 := ⟨zt_of (zq_3 (List.mem_of_getElem? (i := 226) rfl)) rfl, m8_isFull_cd, m8_isFull_ni, by decide +kernel, by decide +kernel⟩
theorem cw0_162 : zcw RX0 162 yX8_addSum cX8_addSum 2 (none) 1 := ⟨zt_of (zq_3 (List.mem_of_getElem? (i := 227) rfl)) rfl, m8_addSum_cd, m8_addSum_ni, by decide +kernel, by decide +kernel⟩
theorem cw0_176 : zcw RX0 176 yX0_whyLost cX0_whyLost 3 (some .int) 2 := ⟨zt_of (zq_4 (List.mem_of_getElem? (i := 7) rfl)) rfl, m0_whyLost_cd, m0_whyLost_ni, by decide +kernel, by decide +kernel⟩
theorem cw0_180 : zcw RX0 180 yX0_give cX0_give 3 (none) 2 := ⟨zt_of (zq_4 (List.mem_of_getElem? (i := 18) rfl)) rfl, m0_give_cd, m0_give_ni, by decide +kernel, by decide +kernel⟩
theorem cw0_184 : zcw RX0 184 yX8_drop cX8_drop 4 (none) 1 := ⟨zt_of (zq_4 (List.mem_of_getElem? (i := 48) rfl)) rfl, m8_drop_cd, m8_drop_ni, by decide +kernel, by decide +kernel⟩
theorem cw0_187 : zcw RX0 187 yX2_hearsBox cX2_hearsBox 2 (some .boolean) 1 := ⟨zt_of (zq_4 (List.mem_of_getElem? (i := 11) rfl)) rfl, m2_hearsBox_cd, m2_hearsBox_ni, by decide +kernel, by decide +kernel⟩
theorem cw0_190 : zcw RX0 190 yJ6_bitCount_0f7a4 cJ6_bitCount_0f7a4 1 (some .int) 1 := ⟨zt_of (zq_4 (List.mem_of_getElem? (i := 12) rfl)) rfl, mJ6_bitCount_cd, mJ6_bitCount_ni, by decide +kernel, by decide +kernel⟩
theorem cw0_195 : zcw RX0 195 yX8_firstIsSum cX8_firstIsSum 1 (some .boolean) 0 := ⟨zt_of (zq_4 (List.mem_of_getElem? (i := 22) rfl)) rfl, m8_firstIsSum_cd, m8_firstIsSum_ni, by decide +kernel, by decide +kernel⟩
theorem cw0_198 : zcw RX0 198 yX8_firstSum cX8_firstSum 1 (some (.object "EarField$Sum")) 0 := ⟨zt_of (zq_4 (List.mem_of_getElem? (i := 26) rfl)) rfl, m8_firstSum_cd, m8_firstSum_ni, by decide +kernel, by decide +kernel⟩
theorem cw0_202 : zcw RX0 202 yX9_join cX9_join 2 (none) 1 := ⟨zt_of (zq_4 (List.mem_of_getElem? (i := 30) rfl)) rfl, m9_join_cd, m9_join_ni, by decide +kernel, by decide +kernel⟩
theorem cw0_205 : zcw RX0 205 yX8_firstWord cX8_firstWord 1 (some .int) 0 := ⟨zt_of (zq_4 (List.mem_of_getElem? (i := 38) rfl)) rfl, m8_firstWord_cd, m8_firstWord_ni, by decide +kernel, by decide +kernel⟩
theorem cw0_208 : zcw RX0 208 yX0_keepWord cX0_keepWord 3 (none) 1 := ⟨zt_of (zq_4 (List.mem_of_getElem? (i := 42) rfl)) rfl, m0_keepWord_cd, m0_keepWord_ni, by decide +kernel, by decide +kernel⟩
theorem cw0_214 : zcw RX0 214 yX8_addWord cX8_addWord 2 (none) 1 := ⟨zt_of (zq_4 (List.mem_of_getElem? (i := 47) rfl)) rfl, m8_addWord_cd, m8_addWord_ni, by decide +kernel, by decide +kernel⟩
theorem cw0_217 : zcw RX0 217 yJ9_min_7cf53 cJ9_min_7cf53 2 (some .int) 2 := ⟨zt_of (zq_4 (List.mem_of_getElem? (i := 46) rfl)) rfl, mJ9_min_cd, mJ9_min_ni, by decide +kernel, by decide +kernel⟩
theorem cw0_40 : zcw RX0 40 yX7_copy cX7_copy 3 (none) 1 := ⟨zt_of (zq_4 (List.mem_of_getElem? (i := 201) rfl)) rfl, m7_copy_cd, m7_copy_ni, by decide +kernel, by decide +kernel⟩
theorem cw0_44 : zcw RX0 44 yX9_clear cX9_clear 1 (none) 0 := ⟨zt_of (zq_3 (List.mem_of_getElem? (i := 170) rfl)) rfl, m9_clear_cd, m9_clear_ni, by decide +kernel, by decide +kernel⟩
theorem cw0_52 : zcw RX0 52 yX3_of cX3_of 2 (some (.object "EarField$Box")) 1 := ⟨zt_of (zq_3 (List.mem_of_getElem? (i := 151) rfl)) rfl, m3_of_cd, m3_of_ni, by decide +kernel, by decide +kernel⟩
theorem cw0_56 : zcw RX0 56 yX2_forgetSums cX2_forgetSums 1 (some .int) 0 := ⟨zt_of (zq_3 (List.mem_of_getElem? (i := 182) rfl)) rfl, m2_forgetSums_cd, m2_forgetSums_ni, by decide +kernel, by decide +kernel⟩
theorem cw0_62 : zcw RX0 62 yX0_spendRest cX0_spendRest 4 (none) 0 := ⟨zt_of (zq_3 (List.mem_of_getElem? (i := 147) rfl)) rfl, m0_spendRest_cd, m0_spendRest_ni, by decide +kernel, by decide +kernel⟩
theorem cw0_68 : zcw RX0 68 yX7_beginsEpoch cX7_beginsEpoch 2 (some .boolean) 1 := ⟨zt_of (zq_3 (List.mem_of_getElem? (i := 162) rfl)) rfl, m7_beginsEpoch_cd, m7_beginsEpoch_ni, by decide +kernel, by decide +kernel⟩
theorem cw0_72 : zcw RX0 72 yX0_beginEpoch cX0_beginEpoch 3 (none) 0 := ⟨zt_of (zq_3 (List.mem_of_getElem? (i := 166) rfl)) rfl, m0_beginEpoch_cd, m0_beginEpoch_ni, by decide +kernel, by decide +kernel⟩
theorem cw0_75 : zcw RX0 75 yX0_queueSums cX0_queueSums 5 (none) 0 := ⟨zt_of (zq_3 (List.mem_of_getElem? (i := 214) rfl)) rfl, m0_queueSums_cd, m0_queueSums_ni, by decide +kernel, by decide +kernel⟩
theorem cw0_78 : zcw RX0 78 yX0_speak cX0_speak 3 (none) 0 := ⟨zt_of (zq_3 (List.mem_of_getElem? (i := 235) rfl)) rfl, m0_speak_cd, m0_speak_ni, by decide +kernel, by decide +kernel⟩
theorem cw0_81 : zcw RX0 81 yX0_spendHearing cX0_spendHearing 3 (none) 0 := ⟨zt_of (zq_3 (List.mem_of_getElem? (i := 239) rfl)) rfl, m0_spendHearing_cd, m0_spendHearing_ni, by decide +kernel, by decide +kernel⟩
theorem cw0_87 : zcw RX0 87 yX0_isIn cX0_isIn 2 (some .boolean) 2 := ⟨zt_of (zq_3 (List.mem_of_getElem? (i := 195) rfl)) rfl, m0_isIn_cd, m0_isIn_ni, by decide +kernel, by decide +kernel⟩
theorem cw0_91 : zcw RX0 91 yX0_carry cX0_carry 5 (none) 1 := ⟨zt_of (zq_4 (List.mem_of_getElem? (i := 3) rfl)) rfl, m0_carry_cd, m0_carry_ni, by decide +kernel, by decide +kernel⟩
theorem cw1_101 : zcw RX1 101 yX2_hearsBox cX2_hearsBox 2 (some .boolean) 1 := ⟨zt_of (zq_5 (List.mem_of_getElem? (i := 144) rfl)) rfl, m2_hearsBox_cd, m2_hearsBox_ni, by decide +kernel, by decide +kernel⟩
theorem cw1_104 : zcw RX1 104 yX1_isInReach cX1_isInReach 6 (some .boolean) 2 := ⟨zt_of (zq_5 (List.mem_of_getElem? (i := 145) rfl)) rfl, m1_isInReach_cd, m1_isInReach_ni, by decide +kernel, by decide +kernel⟩
theorem cw1_108 : zcw RX1 108 yX3_setting cX3_setting 2 (some .int) 1 := ⟨zt_of (zq_5 (List.mem_of_getElem? (i := 149) rfl)) rfl, m3_setting_cd, m3_setting_ni, by decide +kernel, by decide +kernel⟩
theorem cw1_44 : zcw RX1 44 yX1_allTellers cX1_allTellers 3 (some .int) 0 := ⟨zt_of (zq_5 (List.mem_of_getElem? (i := 97) rfl)) rfl, m1_allTellers_cd, m1_allTellers_ni, by decide +kernel, by decide +kernel⟩
theorem cw1_48 : zcw RX1 48 yJ6_bitCount_0f7a4 cJ6_bitCount_0f7a4 1 (some .int) 1 := ⟨zt_of (zq_5 (List.mem_of_getElem? (i := 101) rfl)) rfl, mJ6_bitCount_cd, mJ6_bitCount_ni, by decide +kernel, by decide +kernel⟩
theorem cw1_52 : zcw RX1 52 yX1_canBeWithout cX1_canBeWithout 4 (some .boolean) 1 := ⟨zt_of (zq_5 (List.mem_of_getElem? (i := 102) rfl)) rfl, m1_canBeWithout_cd, m1_canBeWithout_ni, by decide +kernel, by decide +kernel⟩
theorem cw1_56 : zcw RX1 56 yX1_aheadAt cX1_aheadAt 4 (some .int) 2 := ⟨zt_of (zq_5 (List.mem_of_getElem? (i := 116) rfl)) rfl, m1_aheadAt_cd, m1_aheadAt_ni, by decide +kernel, by decide +kernel⟩
theorem cw1_60 : zcw RX1 60 yJ9_max_7cf53 cJ9_max_7cf53 2 (some .int) 2 := ⟨zt_of (zq_5 (List.mem_of_getElem? (i := 124) rfl)) rfl, mJ9_max_cd, mJ9_max_ni, by decide +kernel, by decide +kernel⟩
theorem cw1_65 : zcw RX1 65 yJ9_min_7cf53 cJ9_min_7cf53 2 (some .int) 2 := ⟨zt_of (zq_5 (List.mem_of_getElem? (i := 111) rfl)) rfl, mJ9_min_cd, mJ9_min_ni, by decide +kernel, by decide +kernel⟩
theorem cw1_68 : zcw RX1 68 yJ7_fill_53178 cJ7_fill_53178 4 (none) 2 := ⟨zt_of (zq_5 (List.mem_of_getElem? (i := 106) rfl)) rfl, mJ7_fill_cd, mJ7_fill_ni, by decide +kernel, by decide +kernel⟩
theorem cw1_77 : zcw RX1 77 yX1_lower cX1_lower 5 (none) 3 := ⟨zt_of (zq_5 (List.mem_of_getElem? (i := 107) rfl)) rfl, m1_lower_cd, m1_lower_ni, by decide +kernel, by decide +kernel⟩
theorem cw1_81 : zcw RX1 81 yX1_goOver cX1_goOver 6 (none) 2 := ⟨zt_of (zq_5 (List.mem_of_getElem? (i := 112) rfl)) rfl, m1_goOver_cd, m1_goOver_ni, by decide +kernel, by decide +kernel⟩
theorem cw1_85 : zcw RX1 85 yX1_hasLoopBelowZero cX1_hasLoopBelowZero 2 (some .boolean) 0 := ⟨zt_of (zq_5 (List.mem_of_getElem? (i := 120) rfl)) rfl, m1_hasLoopBelowZero_cd, m1_hasLoopBelowZero_ni, by decide +kernel, by decide +kernel⟩
theorem cw1_91 : zcw RX1 91 yX1_disagreeing cX1_disagreeing 8 (some .int) 2 := ⟨zt_of (zq_5 (List.mem_of_getElem? (i := 139) rfl)) rfl, m1_disagreeing_cd, m1_disagreeing_ni, by decide +kernel, by decide +kernel⟩
theorem cw1_94 : zcw RX1 94 yX3_of cX3_of 2 (some (.object "EarField$Box")) 1 := ⟨zt_of (zq_5 (List.mem_of_getElem? (i := 143) rfl)) rfl, m3_of_cd, m3_of_ni, by decide +kernel, by decide +kernel⟩
theorem cw10_102 : zcw RX10 102 yJ0_charAt_5068e cJ0_charAt_5068e 2 (some .char) 1 := ⟨zt_of (zq_4 (List.mem_of_getElem? (i := 120) rfl)) rfl, js_at_cd, js_at_ni, by decide +kernel, by decide +kernel⟩
theorem cw10_26 : zcw RX10 26 yX7_clear cX7_clear 1 (none) 0 := ⟨zt_of (zq_4 (List.mem_of_getElem? (i := 86) rfl)) rfl, m7_clear_cd, m7_clear_ni, by decide +kernel, by decide +kernel⟩
theorem cw10_32 : zcw RX10 32 yX10_nextToken cX10_nextToken 2 (none) 0 := ⟨zt_of (zq_4 (List.mem_of_getElem? (i := 90) rfl)) rfl, m10_nextToken_cd, m10_nextToken_ni, by decide +kernel, by decide +kernel⟩
theorem cw10_35 : zcw RX10 35 yX10_readAim cX10_readAim 1 (some .boolean) 0 := ⟨zt_of (zq_4 (List.mem_of_getElem? (i := 101) rfl)) rfl, m10_readAim_cd, m10_readAim_ni, by decide +kernel, by decide +kernel⟩
theorem cw10_39 : zcw RX10 39 yX10_readConds cX10_readConds 2 (some .boolean) 0 := ⟨zt_of (zq_4 (List.mem_of_getElem? (i := 162) rfl)) rfl, m10_readConds_cd, m10_readConds_ni, by decide +kernel, by decide +kernel⟩
theorem cw10_42 : zcw RX10 42 yX10_readEvery cX10_readEvery 2 (some .boolean) 0 := ⟨zt_of (zq_4 (List.mem_of_getElem? (i := 187) rfl)) rfl, m10_readEvery_cd, m10_readEvery_ni, by decide +kernel, by decide +kernel⟩
theorem cw10_50 : zcw RX10 50 yX10_skipWord cX10_skipWord 3 (some .boolean) 1 := ⟨zt_of (zq_4 (List.mem_of_getElem? (i := 106) rfl)) rfl, m10_skipWord_cd, m10_skipWord_ni, by decide +kernel, by decide +kernel⟩
theorem cw10_67 : zcw RX10 67 yX10_readCond cX10_readCond 4 (some .boolean) 0 := ⟨zt_of (zq_4 (List.mem_of_getElem? (i := 167) rfl)) rfl, m10_readCond_cd, m10_readCond_ni, by decide +kernel, by decide +kernel⟩
theorem cw10_78 : zcw RX10 78 yX10_numberAtHand cX10_numberAtHand 3 (some .int) 0 := ⟨zt_of (zq_4 (List.mem_of_getElem? (i := 174) rfl)) rfl, m10_numberAtHand_cd, m10_numberAtHand_ni, by decide +kernel, by decide +kernel⟩
theorem cw10_82 : zcw RX10 82 yX7_addCond cX7_addCond 4 (none) 3 := ⟨zt_of (zq_4 (List.mem_of_getElem? (i := 178) rfl)) rfl, m7_addCond_cd, m7_addCond_ni, by decide +kernel, by decide +kernel⟩
theorem cw10_90 : zcw RX10 90 yX10_byteAt cX10_byteAt 2 (some .int) 1 := ⟨zt_of (zq_4 (List.mem_of_getElem? (i := 94) rfl)) rfl, m10_byteAt_cd, m10_byteAt_ni, by decide +kernel, by decide +kernel⟩
theorem cw10_94 : zcw RX10 94 yX10_kindOf cX10_kindOf 1 (some .int) 1 := ⟨zt_of (zq_4 (List.mem_of_getElem? (i := 98) rfl)) rfl, m10_kindOf_cd, m10_kindOf_ni, by decide +kernel, by decide +kernel⟩
theorem cw10_97 : zcw RX10 97 yJ0_length_8abf5 cJ0_length_8abf5 1 (some .int) 0 := ⟨zt_of (zq_4 (List.mem_of_getElem? (i := 110) rfl)) rfl, js_len_cd, js_len_ni, by decide +kernel, by decide +kernel⟩
theorem cw11_100 : zcw RX11 100 yX3_maySet cX3_maySet 3 (some .boolean) 2 := ⟨zt_of (zq_3 (List.mem_of_getElem? (i := 37) rfl)) rfl, m3_maySet_cd, m3_maySet_ni, by decide +kernel, by decide +kernel⟩
theorem cw11_104 : zcw RX11 104 yX3_setting cX3_setting 2 (some .int) 1 := ⟨zt_of (zq_3 (List.mem_of_getElem? (i := 45) rfl)) rfl, m3_setting_cd, m3_setting_ni, by decide +kernel, by decide +kernel⟩
theorem cw11_108 : zcw RX11 108 yX3_change cX3_change 3 (none) 2 := ⟨zt_of (zq_3 (List.mem_of_getElem? (i := 49) rfl)) rfl, m3_change_cd, m3_change_ni, by decide +kernel, by decide +kernel⟩
theorem cw11_115 : zcw RX11 115 yX2_countNow cX2_countNow 1 (some .int) 0 := ⟨zt_of (zq_3 (List.mem_of_getElem? (i := 62) rfl)) rfl, m2_countNow_cd, m2_countNow_ni, by decide +kernel, by decide +kernel⟩
theorem cw11_125 : zcw RX11 125 yX2_localHour cX2_localHour 2 (some .int) 1 := ⟨zt_of (zq_3 (List.mem_of_getElem? (i := 70) rfl)) rfl, m2_localHour_cd, m2_localHour_ni, by decide +kernel, by decide +kernel⟩
theorem cw11_128 : zcw RX11 128 yX2_isAwake cX2_isAwake 2 (some .boolean) 1 := ⟨zt_of (zq_3 (List.mem_of_getElem? (i := 74) rfl)) rfl, m2_isAwake_cd, m2_isAwake_ni, by decide +kernel, by decide +kernel⟩
theorem cw11_140 : zcw RX11 140 yX3_mend cX3_mend 5 (some .boolean) 0 := ⟨zt_of (zq_3 (List.mem_of_getElem? (i := 90) rfl)) rfl, m3_mend_cd, m3_mend_ni, by decide +kernel, by decide +kernel⟩
theorem cw11_144 : zcw RX11 144 yX3_countRings cX3_countRings 3 (some .int) 0 := ⟨zt_of (zq_3 (List.mem_of_getElem? (i := 117) rfl)) rfl, m3_countRings_cd, m3_countRings_ni, by decide +kernel, by decide +kernel⟩
theorem cw11_147 : zcw RX11 147 yX2_isDead cX2_isDead 1 (some .boolean) 0 := ⟨zt_of (zq_3 (List.mem_of_getElem? (i := 129) rfl)) rfl, m2_isDead_cd, m2_isDead_ni, by decide +kernel, by decide +kernel⟩
theorem cw11_150 : zcw RX11 150 yX8_isFull cX8_isFull 1 (some .boolean) 0 := ⟨zt_of (zq_3 (List.mem_of_getElem? (i := 130) rfl)) rfl, m8_isFull_cd, m8_isFull_ni, by decide +kernel, by decide +kernel⟩
theorem cw11_153 : zcw RX11 153 yX8_addWord cX8_addWord 2 (none) 1 := ⟨zt_of (zq_3 (List.mem_of_getElem? (i := 134) rfl)) rfl, m8_addWord_cd, m8_addWord_ni, by decide +kernel, by decide +kernel⟩
theorem cw11_157 : zcw RX11 157 yX0_pass cX0_pass 2 (none) 0 := ⟨zt_of (zq_3 (List.mem_of_getElem? (i := 143) rfl)) rfl, m0_pass_cd, m0_pass_ni, by decide +kernel, by decide +kernel⟩
theorem cw11_160 : zcw RX11 160 yX0_told cX0_told 2 (some .int) 1 := ⟨zt_of (zq_4 (List.mem_of_getElem? (i := 53) rfl)) rfl, m0_told_cd, m0_told_ni, by decide +kernel, by decide +kernel⟩
theorem cw11_163 : zcw RX11 163 yX0_wordKept cX0_wordKept 2 (some .int) 1 := ⟨zt_of (zq_4 (List.mem_of_getElem? (i := 61) rfl)) rfl, m0_wordKept_cd, m0_wordKept_ni, by decide +kernel, by decide +kernel⟩
theorem cw11_169 : zcw RX11 169 yX10_add cX10_add 2 (none) 1 := ⟨zt_of (zq_4 (List.mem_of_getElem? (i := 70) rfl)) rfl, m10_add_cd, m10_add_ni, by decide +kernel, by decide +kernel⟩
theorem cw11_171 : zcw RX11 171 yX10_read cX10_read 2 (some .int) 0 := ⟨zt_of (zq_4 (List.mem_of_getElem? (i := 82) rfl)) rfl, m10_read_cd, m10_read_ni, by decide +kernel, by decide +kernel⟩
theorem cw11_177 : zcw RX11 177 yX0_pose cX0_pose 3 (none) 1 := ⟨zt_of (zq_4 (List.mem_of_getElem? (i := 197) rfl)) rfl, m0_pose_cd, m0_pose_ni, by decide +kernel, by decide +kernel⟩
theorem cw11_193 : zcw RX11 193 yX7_isAsked cX7_isAsked 1 (some .boolean) 0 := ⟨zt_of (zq_4 (List.mem_of_getElem? (i := 217) rfl)) rfl, m7_isAsked_cd, m7_isAsked_ni, by decide +kernel, by decide +kernel⟩
theorem cw11_200 : zcw RX11 200 yX9_isEmpty cX9_isEmpty 1 (some .boolean) 0 := ⟨zt_of (zq_4 (List.mem_of_getElem? (i := 221) rfl)) rfl, m9_isEmpty_cd, m9_isEmpty_ni, by decide +kernel, by decide +kernel⟩
theorem cw11_220 : zcw RX11 220 yX7_answerAbove cX7_answerAbove 2 (some .int) 1 := ⟨zt_of (zq_4 (List.mem_of_getElem? (i := 222) rfl)) rfl, m7_answerAbove_cd, m7_answerAbove_ni, by decide +kernel, by decide +kernel⟩
theorem cw11_224 : zcw RX11 224 yX7_answerBelow cX7_answerBelow 2 (some .int) 1 := ⟨zt_of (zq_4 (List.mem_of_getElem? (i := 230) rfl)) rfl, m7_answerBelow_cd, m7_answerBelow_ni, by decide +kernel, by decide +kernel⟩
theorem cw11_227 : zcw RX11 227 yX5_spentIn cX5_spentIn 7 (some .int) 2 := ⟨zt_of (zq_4 (List.mem_of_getElem? (i := 238) rfl)) rfl, m5_spentIn_cd, m5_spentIn_ni, by decide +kernel, by decide +kernel⟩
theorem cw11_230 : zcw RX11 230 yX5_lifeNow cX5_lifeNow 2 (some .int) 1 := ⟨zt_of (zq_5 (List.mem_of_getElem? (i := 18) rfl)) rfl, m5_lifeNow_cd, m5_lifeNow_ni, by decide +kernel, by decide +kernel⟩
theorem cw11_233 : zcw RX11 233 yX5_findLongest cX5_findLongest 5 (some .int) 0 := ⟨zt_of (zq_5 (List.mem_of_getElem? (i := 34) rfl)) rfl, m5_findLongest_cd, m5_findLongest_ni, by decide +kernel, by decide +kernel⟩
theorem cw11_236 : zcw RX11 236 yX5_parentInLongest cX5_parentInLongest 2 (some .int) 1 := ⟨zt_of (zq_5 (List.mem_of_getElem? (i := 74) rfl)) rfl, m5_parentInLongest_cd, m5_parentInLongest_ni, by decide +kernel, by decide +kernel⟩
theorem cw11_239 : zcw RX11 239 yX1_addFact cX1_addFact 6 (some .int) 5 := ⟨zt_of (zq_5 (List.mem_of_getElem? (i := 82) rfl)) rfl, m1_addFact_cd, m1_addFact_ni, by decide +kernel, by decide +kernel⟩
theorem cw11_246 : zcw RX11 246 yX1_aheadOfRoot cX1_aheadOfRoot 8 (some .int) 3 := ⟨zt_of (zq_5 (List.mem_of_getElem? (i := 91) rfl)) rfl, m1_aheadOfRoot_cd, m1_aheadOfRoot_ni, by decide +kernel, by decide +kernel⟩
theorem cw11_257 : zcw RX11 257 yX1_mayBe cX1_mayBe 6 (some .long) 2 := ⟨zt_of (zq_5 (List.mem_of_getElem? (i := 135) rfl)) rfl, m1_mayBe_cd, m1_mayBe_ni, by decide +kernel, by decide +kernel⟩
theorem cw11_262 : zcw RX11 262 yX6_take cX6_take 6 (some .int) 2 := ⟨zt_of (zq_5 (List.mem_of_getElem? (i := 154) rfl)) rfl, m6_take_cd, m6_take_ni, by decide +kernel, by decide +kernel⟩
theorem cw11_266 : zcw RX11 266 yX6_handOn cX6_handOn 4 (some .int) 0 := ⟨zt_of (zq_5 (List.mem_of_getElem? (i := 176) rfl)) rfl, m6_handOn_cd, m6_handOn_ni, by decide +kernel, by decide +kernel⟩
theorem cw11_269 : zcw RX11 269 yX6_hasPart cX6_hasPart 2 (some .boolean) 1 := ⟨zt_of (zq_5 (List.mem_of_getElem? (i := 199) rfl)) rfl, m6_hasPart_cd, m6_hasPart_ni, by decide +kernel, by decide +kernel⟩
theorem cw11_275 : zcw RX11 275 yX2_partValue cX2_partValue 2 (some .int) 1 := ⟨zt_of (zq_5 (List.mem_of_getElem? (i := 203) rfl)) rfl, m2_partValue_cd, m2_partValue_ni, by decide +kernel, by decide +kernel⟩
theorem cw11_278 : zcw RX11 278 yX2_takePart cX2_takePart 3 (none) 2 := ⟨zt_of (zq_5 (List.mem_of_getElem? (i := 204) rfl)) rfl, m2_takePart_cd, m2_takePart_ni, by decide +kernel, by decide +kernel⟩
theorem cw11_281 : zcw RX11 281 yX6_isSound cX6_isSound 2 (some .boolean) 1 := ⟨zt_of (zq_5 (List.mem_of_getElem? (i := 209) rfl)) rfl, m6_isSound_cd, m6_isSound_ni, by decide +kernel, by decide +kernel⟩
theorem cw11_291 : zcw RX11 291 yX6_beginIn cX6_beginIn 4 (some .int) 1 := ⟨zt_of (zq_5 (List.mem_of_getElem? (i := 217) rfl)) rfl, m6_beginIn_cd, m6_beginIn_ni, by decide +kernel, by decide +kernel⟩
theorem cw11_297 : zcw RX11 297 yX4_sitFor cX4_sitFor 2 (none) 1 := ⟨zt_of (zq_5 (List.mem_of_getElem? (i := 227) rfl)) rfl, m4_sitFor_cd, m4_sitFor_ni, by decide +kernel, by decide +kernel⟩
theorem cw11_300 : zcw RX11 300 yX4_hasSpot cX4_hasSpot 2 (some .boolean) 1 := ⟨zt_of (zq_5 (List.mem_of_getElem? (i := 235) rfl)) rfl, m4_hasSpot_cd, m4_hasSpot_ni, by decide +kernel, by decide +kernel⟩
theorem cw11_303 : zcw RX11 303 yX4_layWay cX4_layWay 5 (some .int) 3 := ⟨zt_of (zq_5 (List.mem_of_getElem? (i := 239) rfl)) rfl, m4_layWay_cd, m4_layWay_ni, by decide +kernel, by decide +kernel⟩
theorem cw11_306 : zcw RX11 306 yX4_hasEar cX4_hasEar 2 (some .boolean) 1 := ⟨zt_of (zq_6 (List.mem_of_getElem? (i := 8) rfl)) rfl, m4_hasEar_cd, m4_hasEar_ni, by decide +kernel, by decide +kernel⟩
theorem cw11_312 : zcw RX11 312 yX4_hasTick cX4_hasTick 2 (some .boolean) 1 := ⟨zt_of (zq_6 (List.mem_of_getElem? (i := 16) rfl)) rfl, m4_hasTick_cd, m4_hasTick_ni, by decide +kernel, by decide +kernel⟩
theorem cw11_315 : zcw RX11 315 yX4_writeLog cX4_writeLog 6 (some .int) 3 := ⟨zt_of (zq_6 (List.mem_of_getElem? (i := 20) rfl)) rfl, m4_writeLog_cd, m4_writeLog_ni, by decide +kernel, by decide +kernel⟩
theorem cw11_322 : zcw RX11 322 yX4_listCourses cX4_listCourses 4 (some .int) 0 := ⟨zt_of (zq_6 (List.mem_of_getElem? (i := 36) rfl)) rfl, m4_listCourses_cd, m4_listCourses_ni, by decide +kernel, by decide +kernel⟩
theorem cw11_325 : zcw RX11 325 yX4_spotOfCourse cX4_spotOfCourse 3 (some .int) 2 := ⟨zt_of (zq_6 (List.mem_of_getElem? (i := 71) rfl)) rfl, m4_spotOfCourse_cd, m4_spotOfCourse_ni, by decide +kernel, by decide +kernel⟩
theorem cw11_328 : zcw RX11 328 yX11_refusedClaim cX11_refusedClaim 6 (some .int) 5 := ⟨zt_of (zq_6 (List.mem_of_getElem? (i := 85) rfl)) rfl, m11_refusedClaim_cd, m11_refusedClaim_ni, by decide +kernel, by decide +kernel⟩
theorem cw11_331 : zcw RX11 331 yX4_claim cX4_claim 6 (none) 5 := ⟨zt_of (zq_6 (List.mem_of_getElem? (i := 89) rfl)) rfl, m4_claim_cd, m4_claim_ni, by decide +kernel, by decide +kernel⟩
theorem cw11_335 : zcw RX11 335 yX4_verdict cX4_verdict 5 (some .int) 0 := ⟨zt_of (zq_6 (List.mem_of_getElem? (i := 93) rfl)) rfl, m4_verdict_cd, m4_verdict_ni, by decide +kernel, by decide +kernel⟩
theorem cw11_338 : zcw RX11 338 yX4_fewestQuarrelling cX4_fewestQuarrelling 3 (some .int) 0 := ⟨zt_of (zq_6 (List.mem_of_getElem? (i := 106) rfl)) rfl, m4_fewestQuarrelling_cd, m4_fewestQuarrelling_ni, by decide +kernel, by decide +kernel⟩
theorem cw11_341 : zcw RX11 341 yX4_fewestSettling cX4_fewestSettling 4 (some .int) 0 := ⟨zt_of (zq_6 (List.mem_of_getElem? (i := 123) rfl)) rfl, m4_fewestSettling_cd, m4_fewestSettling_ni, by decide +kernel, by decide +kernel⟩
theorem cw11_344 : zcw RX11 344 yX3_countLiving cX3_countLiving 1 (some .int) 0 := ⟨zt_of (zq_6 (List.mem_of_getElem? (i := 147) rfl)) rfl, m3_countLiving_cd, m3_countLiving_ni, by decide +kernel, by decide +kernel⟩
theorem cw11_66 : zcw RX11 66 yX11_outside cX11_outside 3 (some .boolean) 3 := ⟨zt_of (zq_3 (List.mem_of_getElem? (i := 6) rfl)) rfl, m11_outside_cd, m11_outside_ni, by decide +kernel, by decide +kernel⟩
theorem cw11_70 : zcw RX11 70 yX3_add cX3_add 4 (some .int) 2 := ⟨zt_of (zq_3 (List.mem_of_getElem? (i := 9) rfl)) rfl, m3_add_cd, m3_add_ni, by decide +kernel, by decide +kernel⟩
theorem cw11_74 : zcw RX11 74 yX3_knows cX3_knows 2 (some .boolean) 1 := ⟨zt_of (zq_3 (List.mem_of_getElem? (i := 17) rfl)) rfl, m3_knows_cd, m3_knows_ni, by decide +kernel, by decide +kernel⟩
theorem cw11_78 : zcw RX11 78 yX3_of cX3_of 2 (some (.object "EarField$Box")) 1 := ⟨zt_of (zq_3 (List.mem_of_getElem? (i := 21) rfl)) rfl, m3_of_cd, m3_of_ni, by decide +kernel, by decide +kernel⟩
theorem cw2_102 : zcw RX2 102 yX9_clear cX9_clear 1 (none) 0 := ⟨zt_of (zq_3 (List.mem_of_getElem? (i := 186) rfl)) rfl, m9_clear_cd, m9_clear_ni, by decide +kernel, by decide +kernel⟩
theorem cw2_105 : zcw RX2 105 yX8_dropSums cX8_dropSums 3 (some .int) 0 := ⟨zt_of (zq_3 (List.mem_of_getElem? (i := 187) rfl)) rfl, m8_dropSums_cd, m8_dropSums_ni, by decide +kernel, by decide +kernel⟩
theorem cw2_65 : zcw RX2 65 yJ9_min_7cf53 cJ9_min_7cf53 2 (some .int) 2 := ⟨zt_of (zq_3 (List.mem_of_getElem? (i := 159) rfl)) rfl, mJ9_min_cd, mJ9_min_ni, by decide +kernel, by decide +kernel⟩
theorem cw2_77 : zcw RX2 77 yX2_localHour cX2_localHour 2 (some .int) 1 := ⟨zt_of (zq_3 (List.mem_of_getElem? (i := 82) rfl)) rfl, m2_localHour_cd, m2_localHour_ni, by decide +kernel, by decide +kernel⟩
theorem cw2_81 : zcw RX2 81 yJ9_floorMod_7cf53 cJ9_floorMod_7cf53 3 (some .int) 2 := ⟨zt_of (zq_3 (List.mem_of_getElem? (i := 83) rfl)) rfl, mJ9_floorMod_cd, mJ9_floorMod_ni, by decide +kernel, by decide +kernel⟩
theorem cw2_84 : zcw RX2 84 yX2_isDead cX2_isDead 1 (some .boolean) 0 := ⟨zt_of (zq_3 (List.mem_of_getElem? (i := 66) rfl)) rfl, m2_isDead_cd, m2_isDead_ni, by decide +kernel, by decide +kernel⟩
theorem cw2_88 : zcw RX2 88 yX2_rowWakes cX2_rowWakes 2 (some .boolean) 1 := ⟨zt_of (zq_3 (List.mem_of_getElem? (i := 78) rfl)) rfl, m2_rowWakes_cd, m2_rowWakes_ni, by decide +kernel, by decide +kernel⟩
theorem cw2_95 : zcw RX2 95 yX9_isEmpty cX9_isEmpty 1 (some .boolean) 0 := ⟨zt_of (zq_3 (List.mem_of_getElem? (i := 178) rfl)) rfl, m9_isEmpty_cd, m9_isEmpty_ni, by decide +kernel, by decide +kernel⟩
theorem cw3_49 : zcw RX3 49 yX3_maySet cX3_maySet 3 (some .boolean) 2 := ⟨zt_of (zq_3 (List.mem_of_getElem? (i := 53) rfl)) rfl, m3_maySet_cd, m3_maySet_ni, by decide +kernel, by decide +kernel⟩
theorem cw3_53 : zcw RX3 53 yX3_living cX3_living 3 (some .int) 0 := ⟨zt_of (zq_3 (List.mem_of_getElem? (i := 94) rfl)) rfl, m3_living_cd, m3_living_ni, by decide +kernel, by decide +kernel⟩
theorem cw3_57 : zcw RX3 57 yJ6_bitCount_0f7a4 cJ6_bitCount_0f7a4 1 (some .int) 1 := ⟨zt_of (zq_6 (List.mem_of_getElem? (i := 151) rfl)) rfl, mJ6_bitCount_cd, mJ6_bitCount_ni, by decide +kernel, by decide +kernel⟩
theorem cw3_63 : zcw RX3 63 yX3_of cX3_of 2 (some (.object "EarField$Box")) 1 := ⟨zt_of (zq_3 (List.mem_of_getElem? (i := 98) rfl)) rfl, m3_of_cd, m3_of_ni, by decide +kernel, by decide +kernel⟩
theorem cw3_67 : zcw RX3 67 yX2_isDead cX2_isDead 1 (some .boolean) 0 := ⟨zt_of (zq_3 (List.mem_of_getElem? (i := 99) rfl)) rfl, m2_isDead_cd, m2_isDead_ni, by decide +kernel, by decide +kernel⟩
theorem cw3_71 : zcw RX3 71 yX2_hearsBox cX2_hearsBox 2 (some .boolean) 1 := ⟨zt_of (zq_3 (List.mem_of_getElem? (i := 104) rfl)) rfl, m2_hearsBox_cd, m2_hearsBox_ni, by decide +kernel, by decide +kernel⟩
theorem cw3_78 : zcw RX3 78 yX2_countNow cX2_countNow 1 (some .int) 0 := ⟨zt_of (zq_3 (List.mem_of_getElem? (i := 112) rfl)) rfl, m2_countNow_cd, m2_countNow_ni, by decide +kernel, by decide +kernel⟩
theorem cw3_81 : zcw RX3 81 yJ9_max_7cf53 cJ9_max_7cf53 2 (some .int) 2 := ⟨zt_of (zq_3 (List.mem_of_getElem? (i := 222) rfl)) rfl, mJ9_max_cd, mJ9_max_ni, by decide +kernel, by decide +kernel⟩
theorem cw3_87 : zcw RX3 87 yX3_friends cX3_friends 4 (some .int) 1 := ⟨zt_of (zq_3 (List.mem_of_getElem? (i := 100) rfl)) rfl, m3_friends_cd, m3_friends_ni, by decide +kernel, by decide +kernel⟩
theorem cw3_90 : zcw RX3 90 yX3_lookHome cX3_lookHome 6 (none) 2 := ⟨zt_of (zq_3 (List.mem_of_getElem? (i := 108) rfl)) rfl, m3_lookHome_cd, m3_lookHome_ni, by decide +kernel, by decide +kernel⟩
theorem cw3_97 : zcw RX3 97 yX3_isLeastOfRing cX3_isLeastOfRing 4 (some .boolean) 1 := ⟨zt_of (zq_3 (List.mem_of_getElem? (i := 121) rfl)) rfl, m3_isLeastOfRing_cd, m3_isLeastOfRing_ni, by decide +kernel, by decide +kernel⟩
theorem cw4_105 : zcw RX4 105 yX4_spotIn cX4_spotIn 4 (some .int) 2 := ⟨zt_of (zq_6 (List.mem_of_getElem? (i := 75) rfl)) rfl, m4_spotIn_cd, m4_spotIn_ni, by decide +kernel, by decide +kernel⟩
theorem cw4_123 : zcw RX4 123 yX4_listCourses cX4_listCourses 4 (some .int) 0 := ⟨zt_of (zq_6 (List.mem_of_getElem? (i := 97) rfl)) rfl, m4_listCourses_cd, m4_listCourses_ni, by decide +kernel, by decide +kernel⟩
theorem cw4_127 : zcw RX4 127 yX4_isSo cX4_isSo 5 (some .boolean) 1 := ⟨zt_of (zq_6 (List.mem_of_getElem? (i := 98) rfl)) rfl, m4_isSo_cd, m4_isSo_ni, by decide +kernel, by decide +kernel⟩
theorem cw4_130 : zcw RX4 130 yJ6_bitCount_0f7a4 cJ6_bitCount_0f7a4 1 (some .int) 1 := ⟨zt_of (zq_6 (List.mem_of_getElem? (i := 110) rfl)) rfl, mJ6_bitCount_cd, mJ6_bitCount_ni, by decide +kernel, by decide +kernel⟩
theorem cw4_135 : zcw RX4 135 yX4_someAgrees cX4_someAgrees 4 (some .boolean) 1 := ⟨zt_of (zq_6 (List.mem_of_getElem? (i := 111) rfl)) rfl, m4_someAgrees_cd, m4_someAgrees_ni, by decide +kernel, by decide +kernel⟩
theorem cw4_138 : zcw RX4 138 yX4_leastAround cX4_leastAround 4 (some .int) 1 := ⟨zt_of (zq_6 (List.mem_of_getElem? (i := 115) rfl)) rfl, m4_leastAround_cd, m4_leastAround_ni, by decide +kernel, by decide +kernel⟩
theorem cw4_141 : zcw RX4 141 yX4_isSettledBy cX4_isSettledBy 6 (some .boolean) 2 := ⟨zt_of (zq_6 (List.mem_of_getElem? (i := 127) rfl)) rfl, m4_isSettledBy_cd, m4_isSettledBy_ni, by decide +kernel, by decide +kernel⟩
theorem cw4_144 : zcw RX4 144 yX4_matchSpots cX4_matchSpots 5 (none) 1 := ⟨zt_of (zq_6 (List.mem_of_getElem? (i := 131) rfl)) rfl, m4_matchSpots_cd, m4_matchSpots_ni, by decide +kernel, by decide +kernel⟩
theorem cw4_147 : zcw RX4 147 yX4_heardPlace cX4_heardPlace 4 (some .int) 1 := ⟨zt_of (zq_6 (List.mem_of_getElem? (i := 139) rfl)) rfl, m4_heardPlace_cd, m4_heardPlace_ni, by decide +kernel, by decide +kernel⟩
theorem cw4_150 : zcw RX4 150 yX4_wouldTell cX4_wouldTell 6 (some .int) 3 := ⟨zt_of (zq_6 (List.mem_of_getElem? (i := 135) rfl)) rfl, m4_wouldTell_cd, m4_wouldTell_ni, by decide +kernel, by decide +kernel⟩
theorem cw4_50 : zcw RX4 50 yJ7_fill_53178 cJ7_fill_53178 4 (none) 2 := ⟨zt_of (zq_2 (List.mem_of_getElem? (i := 161) rfl)) rfl, mJ7_fill_cd, mJ7_fill_ni, by decide +kernel, by decide +kernel⟩
theorem cw4_56 : zcw RX4 56 yX4_hasSpot cX4_hasSpot 2 (some .boolean) 1 := ⟨zt_of (zq_6 (List.mem_of_getElem? (i := 3) rfl)) rfl, m4_hasSpot_cd, m4_hasSpot_ni, by decide +kernel, by decide +kernel⟩
theorem cw4_60 : zcw RX4 60 yX4_logOf cX4_logOf 4 (some .int) 2 := ⟨zt_of (zq_6 (List.mem_of_getElem? (i := 24) rfl)) rfl, m4_logOf_cd, m4_logOf_ni, by decide +kernel, by decide +kernel⟩
theorem cw4_64 : zcw RX4 64 yX4_hasEar cX4_hasEar 2 (some .boolean) 1 := ⟨zt_of (zq_6 (List.mem_of_getElem? (i := 52) rfl)) rfl, m4_hasEar_cd, m4_hasEar_ni, by decide +kernel, by decide +kernel⟩
theorem cw4_67 : zcw RX4 67 yX4_missesAt cX4_missesAt 8 (some .int) 3 := ⟨zt_of (zq_6 (List.mem_of_getElem? (i := 44) rfl)) rfl, m4_missesAt_cd, m4_missesAt_ni, by decide +kernel, by decide +kernel⟩
theorem cw4_71 : zcw RX4 71 yX4_earHears cX4_earHears 3 (some .boolean) 2 := ⟨zt_of (zq_6 (List.mem_of_getElem? (i := 48) rfl)) rfl, m4_earHears_cd, m4_earHears_ni, by decide +kernel, by decide +kernel⟩
theorem cw4_78 : zcw RX4 78 yX4_weighSpots cX4_weighSpots 4 (none) 1 := ⟨zt_of (zq_6 (List.mem_of_getElem? (i := 40) rfl)) rfl, m4_weighSpots_cd, m4_weighSpots_ni, by decide +kernel, by decide +kernel⟩
theorem cw4_84 : zcw RX4 84 yX3_setting cX3_setting 2 (some .int) 1 := ⟨zt_of (zq_6 (List.mem_of_getElem? (i := 53) rfl)) rfl, m3_setting_cd, m3_setting_ni, by decide +kernel, by decide +kernel⟩
theorem cw4_88 : zcw RX4 88 yX4_missedAt cX4_missedAt 4 (some .int) 2 := ⟨zt_of (zq_6 (List.mem_of_getElem? (i := 54) rfl)) rfl, m4_missedAt_cd, m4_missedAt_ni, by decide +kernel, by decide +kernel⟩
theorem cw4_91 : zcw RX4 91 yX4_growCourses cX4_growCourses 10 (some .int) 3 := ⟨zt_of (zq_6 (List.mem_of_getElem? (i := 58) rfl)) rfl, m4_growCourses_cd, m4_growCourses_ni, by decide +kernel, by decide +kernel⟩
theorem cw4_94 : zcw RX4 94 yJ9_min_7cf53 cJ9_min_7cf53 2 (some .int) 2 := ⟨zt_of (zq_6 (List.mem_of_getElem? (i := 62) rfl)) rfl, mJ9_min_cd, mJ9_min_ni, by decide +kernel, by decide +kernel⟩
theorem cw4_99 : zcw RX4 99 yX4_mayGo cX4_mayGo 3 (some .boolean) 2 := ⟨zt_of (zq_6 (List.mem_of_getElem? (i := 63) rfl)) rfl, m4_mayGo_cd, m4_mayGo_ni, by decide +kernel, by decide +kernel⟩
theorem cw5_107 : zcw RX5 107 yX5_nextTree cX5_nextTree 3 (some .boolean) 0 := ⟨zt_of (zq_5 (List.mem_of_getElem? (i := 66) rfl)) rfl, m5_nextTree_cd, m5_nextTree_ni, by decide +kernel, by decide +kernel⟩
theorem cw5_111 : zcw RX5 111 yX2_rowWakes cX2_rowWakes 2 (some .boolean) 1 := ⟨zt_of (zq_5 (List.mem_of_getElem? (i := 12) rfl)) rfl, m2_rowWakes_cd, m2_rowWakes_ni, by decide +kernel, by decide +kernel⟩
theorem cw5_117 : zcw RX5 117 yX3_friends cX3_friends 4 (some .int) 1 := ⟨zt_of (zq_5 (List.mem_of_getElem? (i := 44) rfl)) rfl, m3_friends_cd, m3_friends_ni, by decide +kernel, by decide +kernel⟩
theorem cw5_120 : zcw RX5 120 yX5_boxesAt cX5_boxesAt 4 (some .int) 1 := ⟨zt_of (zq_5 (List.mem_of_getElem? (i := 45) rfl)) rfl, m5_boxesAt_cd, m5_boxesAt_ni, by decide +kernel, by decide +kernel⟩
theorem cw5_123 : zcw RX5 123 yJ6_numberOfTrailingZeros_0f7a4 cJ6_numberOfTrailingZeros_0f7a4 2 (some .int) 1 := ⟨zt_of (zq_5 (List.mem_of_getElem? (i := 53) rfl)) rfl, mJ6_numberOfTrailingZeros_cd, mJ6_numberOfTrailingZeros_ni, by decide +kernel, by decide +kernel⟩
theorem cw5_128 : zcw RX5 128 yJ6_bitCount_0f7a4 cJ6_bitCount_0f7a4 1 (some .int) 1 := ⟨zt_of (zq_5 (List.mem_of_getElem? (i := 57) rfl)) rfl, mJ6_bitCount_cd, mJ6_bitCount_ni, by decide +kernel, by decide +kernel⟩
theorem cw5_131 : zcw RX5 131 yJ9_min_7cf53 cJ9_min_7cf53 2 (some .int) 2 := ⟨zt_of (zq_5 (List.mem_of_getElem? (i := 62) rfl)) rfl, mJ9_min_cd, mJ9_min_ni, by decide +kernel, by decide +kernel⟩
theorem cw5_40 : zcw RX5 40 yX3_of cX3_of 2 (some (.object "EarField$Box")) 1 := ⟨zt_of (zq_5 (List.mem_of_getElem? (i := 2) rfl)) rfl, m3_of_cd, m3_of_ni, by decide +kernel, by decide +kernel⟩
theorem cw5_44 : zcw RX5 44 yX3_setting cX3_setting 2 (some .int) 1 := ⟨zt_of (zq_5 (List.mem_of_getElem? (i := 3) rfl)) rfl, m3_setting_cd, m3_setting_ni, by decide +kernel, by decide +kernel⟩
theorem cw5_48 : zcw RX5 48 yX3_children cX3_children 4 (some .int) 1 := ⟨zt_of (zq_5 (List.mem_of_getElem? (i := 4) rfl)) rfl, m3_children_cd, m3_children_ni, by decide +kernel, by decide +kernel⟩
theorem cw5_60 : zcw RX5 60 yX5_restIn cX5_restIn 3 (some .int) 2 := ⟨zt_of (zq_5 (List.mem_of_getElem? (i := 8) rfl)) rfl, m5_restIn_cd, m5_restIn_ni, by decide +kernel, by decide +kernel⟩
theorem cw5_64 : zcw RX5 64 yX7_beginsEpoch cX7_beginsEpoch 2 (some .boolean) 1 := ⟨zt_of (zq_5 (List.mem_of_getElem? (i := 13) rfl)) rfl, m7_beginsEpoch_cd, m7_beginsEpoch_ni, by decide +kernel, by decide +kernel⟩
theorem cw5_70 : zcw RX5 70 yX5_foreseeLives cX5_foreseeLives 9 (none) 2 := ⟨zt_of (zq_5 (List.mem_of_getElem? (i := 22) rfl)) rfl, m5_foreseeLives_cd, m5_foreseeLives_ni, by decide +kernel, by decide +kernel⟩
theorem cw5_74 : zcw RX5 74 yX5_lifeWith cX5_lifeWith 4 (some .int) 2 := ⟨zt_of (zq_5 (List.mem_of_getElem? (i := 26) rfl)) rfl, m5_lifeWith_cd, m5_lifeWith_ni, by decide +kernel, by decide +kernel⟩
theorem cw5_78 : zcw RX5 78 yJ7_fill_53178 cJ7_fill_53178 4 (none) 2 := ⟨zt_of (zq_5 (List.mem_of_getElem? (i := 38) rfl)) rfl, mJ7_fill_cd, mJ7_fill_ni, by decide +kernel, by decide +kernel⟩
theorem cw5_84 : zcw RX5 84 yX3_living cX3_living 3 (some .int) 0 := ⟨zt_of (zq_5 (List.mem_of_getElem? (i := 39) rfl)) rfl, m3_living_cd, m3_living_ni, by decide +kernel, by decide +kernel⟩
theorem cw5_88 : zcw RX5 88 yX5_findSteps cX5_findSteps 4 (none) 1 := ⟨zt_of (zq_5 (List.mem_of_getElem? (i := 40) rfl)) rfl, m5_findSteps_cd, m5_findSteps_ni, by decide +kernel, by decide +kernel⟩
theorem cw5_92 : zcw RX5 92 yX5_findNearer cX5_findNearer 4 (some .int) 1 := ⟨zt_of (zq_5 (List.mem_of_getElem? (i := 49) rfl)) rfl, m5_findNearer_cd, m5_findNearer_ni, by decide +kernel, by decide +kernel⟩
theorem cw5_98 : zcw RX5 98 yX5_leastLife cX5_leastLife 4 (some .int) 1 := ⟨zt_of (zq_5 (List.mem_of_getElem? (i := 58) rfl)) rfl, m5_leastLife_cd, m5_leastLife_ni, by decide +kernel, by decide +kernel⟩
theorem cw6_29 : zcw RX6 29 yX3_of cX3_of 2 (some (.object "EarField$Box")) 1 := ⟨zt_of (zq_5 (List.mem_of_getElem? (i := 158) rfl)) rfl, m3_of_cd, m3_of_ni, by decide +kernel, by decide +kernel⟩
theorem cw6_40 : zcw RX6 40 yX2_takePart cX2_takePart 3 (none) 2 := ⟨zt_of (zq_5 (List.mem_of_getElem? (i := 160) rfl)) rfl, m2_takePart_cd, m2_takePart_ni, by decide +kernel, by decide +kernel⟩
theorem cw6_44 : zcw RX6 44 yX6_sumOfParts cX6_sumOfParts 4 (some .int) 1 := ⟨zt_of (zq_5 (List.mem_of_getElem? (i := 164) rfl)) rfl, m6_sumOfParts_cd, m6_sumOfParts_ni, by decide +kernel, by decide +kernel⟩
theorem cw6_51 : zcw RX6 51 yX2_partValue cX2_partValue 2 (some .int) 1 := ⟨zt_of (zq_5 (List.mem_of_getElem? (i := 168) rfl)) rfl, m2_partValue_cd, m2_partValue_ni, by decide +kernel, by decide +kernel⟩
theorem cw6_55 : zcw RX6 55 yX3_living cX3_living 3 (some .int) 0 := ⟨zt_of (zq_5 (List.mem_of_getElem? (i := 180) rfl)) rfl, m3_living_cd, m3_living_ni, by decide +kernel, by decide +kernel⟩
theorem cw6_59 : zcw RX6 59 yX6_getsPart cX6_getsPart 6 (some .boolean) 2 := ⟨zt_of (zq_5 (List.mem_of_getElem? (i := 181) rfl)) rfl, m6_getsPart_cd, m6_getsPart_ni, by decide +kernel, by decide +kernel⟩
theorem cw6_66 : zcw RX6 66 yX6_aheadOf cX6_aheadOf 2 (some .int) 1 := ⟨zt_of (zq_5 (List.mem_of_getElem? (i := 185) rfl)) rfl, m6_aheadOf_cd, m6_aheadOf_ni, by decide +kernel, by decide +kernel⟩
theorem cw6_69 : zcw RX6 69 yX6_give cX6_give 4 (none) 3 := ⟨zt_of (zq_5 (List.mem_of_getElem? (i := 189) rfl)) rfl, m6_give_cd, m6_give_ni, by decide +kernel, by decide +kernel⟩
theorem cw6_73 : zcw RX6 73 yX3_setting cX3_setting 2 (some .int) 1 := ⟨zt_of (zq_5 (List.mem_of_getElem? (i := 193) rfl)) rfl, m3_setting_cd, m3_setting_ni, by decide +kernel, by decide +kernel⟩
theorem cw6_76 : zcw RX6 76 yX2_spend cX2_spend 2 (none) 1 := ⟨zt_of (zq_5 (List.mem_of_getElem? (i := 194) rfl)) rfl, m2_spend_cd, m2_spend_ni, by decide +kernel, by decide +kernel⟩
theorem cw6_80 : zcw RX6 80 yX6_isSound cX6_isSound 2 (some .boolean) 1 := ⟨zt_of (zq_5 (List.mem_of_getElem? (i := 221) rfl)) rfl, m6_isSound_cd, m6_isSound_ni, by decide +kernel, by decide +kernel⟩
theorem cw6_87 : zcw RX6 87 yJ6_bitCount_0f7a4 cJ6_bitCount_0f7a4 1 (some .int) 1 := ⟨zt_of (zq_5 (List.mem_of_getElem? (i := 222) rfl)) rfl, mJ6_bitCount_cd, mJ6_bitCount_ni, by decide +kernel, by decide +kernel⟩
theorem cw7_32 : zcw RX7 32 yX7_takesMoreConds cX7_takesMoreConds 1 (some .boolean) 0 := ⟨zt_of (zq_4 (List.mem_of_getElem? (i := 182) rfl)) rfl, m7_takesMoreConds_cd, m7_takesMoreConds_ni, by decide +kernel, by decide +kernel⟩
theorem cw7_41 : zcw RX7 41 yX9_isEmpty cX9_isEmpty 1 (some .boolean) 0 := ⟨zt_of (zq_4 (List.mem_of_getElem? (i := 226) rfl)) rfl, m9_isEmpty_cd, m9_isEmpty_ni, by decide +kernel, by decide +kernel⟩
theorem cw7_53 : zcw RX7 53 yX7_commonPart cX7_commonPart 6 (some .int) 2 := ⟨zt_of (zq_4 (List.mem_of_getElem? (i := 227) rfl)) rfl, m7_commonPart_cd, m7_commonPart_ni, by decide +kernel, by decide +kernel⟩
theorem cw8_24 : zcw RX8 24 yX8_isFull cX8_isFull 1 (some .boolean) 0 := ⟨zt_of (zq_3 (List.mem_of_getElem? (i := 138) rfl)) rfl, m8_isFull_cd, m8_isFull_ni, by decide +kernel, by decide +kernel⟩
theorem cw8_28 : zcw RX8 28 yX9_copy cX9_copy 2 (none) 1 := ⟨zt_of (zq_3 (List.mem_of_getElem? (i := 231) rfl)) rfl, m9_copy_cd, m9_copy_ni, by decide +kernel, by decide +kernel⟩
theorem cw8_32 : zcw RX8 32 yX8_drop cX8_drop 4 (none) 1 := ⟨zt_of (zq_3 (List.mem_of_getElem? (i := 191) rfl)) rfl, m8_drop_cd, m8_drop_ni, by decide +kernel, by decide +kernel⟩
theorem cw9_25 : zcw RX9 25 yX9_isEmpty cX9_isEmpty 1 (some .boolean) 0 := ⟨zt_of (zq_4 (List.mem_of_getElem? (i := 34) rfl)) rfl, m9_isEmpty_cd, m9_isEmpty_ni, by decide +kernel, by decide +kernel⟩
theorem cw9_29 : zcw RX9 29 yX9_copy cX9_copy 2 (none) 1 := ⟨zt_of (zq_4 (List.mem_of_getElem? (i := 35) rfl)) rfl, m9_copy_cd, m9_copy_ni, by decide +kernel, by decide +kernel⟩
theorem cw9_33 : zcw RX9 33 yJ9_min_7cf53 cJ9_min_7cf53 2 (some .int) 2 := ⟨zt_of (zq_4 (List.mem_of_getElem? (i := 36) rfl)) rfl, mJ9_min_cd, mJ9_min_ni, by decide +kernel, by decide +kernel⟩
theorem cw9_39 : zcw RX9 39 yJ9_max_7cf53 cJ9_max_7cf53 2 (some .int) 2 := ⟨zt_of (zq_4 (List.mem_of_getElem? (i := 37) rfl)) rfl, mJ9_max_cd, mJ9_max_ni, by decide +kernel, by decide +kernel⟩
