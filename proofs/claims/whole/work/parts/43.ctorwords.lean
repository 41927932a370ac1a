def zUC : List zR := [(11, 0), (3, 0), (400, 0), (401, 0), (402, 0), (403, 0), (2, 0), (312, 0), (9, 0), (8, 0), (900, 0), (901, 0), (9, 10), (9, 11), (9, 12), (9, 13), (317, 0), (2, 1), (312, 1), (9, 1), (8, 1), (900, 1), (901, 1), (9, 14), (9, 15), (9, 16), (9, 17), (317, 1), (2, 2), (312, 2), (9, 2), (8, 2), (900, 2), (901, 2), (9, 18), (9, 19), (9, 20), (9, 21), (317, 2), (2, 3), (312, 3), (9, 3), (8, 3), (900, 3), (901, 3), (9, 22), (9, 23), (9, 24), (9, 25), (317, 3), (2, 4), (312, 4), (9, 4), (8, 4), (900, 4), (901, 4), (9, 26), (9, 27), (9, 28), (9, 29), (317, 4), (2, 5), (312, 5), (9, 5), (8, 5), (900, 5), (901, 5), (9, 30), (9, 31), (9, 32), (9, 33), (317, 5), (2, 6), (312, 6), (9, 6), (8, 6), (900, 6), (901, 6), (9, 34), (9, 35), (9, 36), (9, 37), (317, 6), (2, 7), (312, 7), (9, 7), (8, 7), (900, 7), (901, 7), (9, 38), (9, 39), (9, 40), (9, 41), (317, 7), (2, 8), (312, 8), (9, 8), (8, 8), (900, 8), (901, 8), (9, 42), (9, 43), (9, 44), (9, 45), (317, 8), (2, 9), (312, 9), (9, 9), (8, 9), (900, 9), (901, 9), (9, 46), (9, 47), (9, 48), (9, 49), (317, 9), (10, 0), (1100, 0), (7, 0), (803, 0), (804, 0), (805, 0), (0, 0), (7, 1), (803, 1), (804, 1), (805, 1), (9, 50), (103, 0), (104, 0), (5, 0), (602, 0), (603, 0), (604, 0), (605, 0), (606, 0), (607, 0), (1, 0), (201, 0), (202, 0), (203, 0), (204, 0), (205, 0), (207, 0), (6, 0), (704, 0), (4, 0), (503, 0), (504, 0), (505, 0), (506, 0), (507, 0), (508, 0), (508, 1), (510, 0), (511, 0), (512, 0)]
theorem c_Z {p : Program} {l : Launch} {e : Env} {R : Room} {s : State} {m : MethodId} {args : Array Value} {below : List Frame} {meth : Method} {c : Code} {Q : State → Prop} {cc : ByteArray} {nL : Nat} {own : String} {tb : zT} {U : List zR} {base g : Nat} {D : va_G} {ad : zR → Nat} {ca : Nat → ClassId} {A : Nat → Prop} (Z : zOK (zCm p l e R s m args below meth c Q cc nL own tb (zGt U D ad ca A g))) (hW : zWh U base ad A) (g' : Nat) : zOK (zCm p l e R s m args below meth c Q cc nL own tb (zGt U D ad ca A g')) := by
  obtain ⟨hx, hc, hml, hown, hts, hK, hG, htb, hE, hlocks⟩ := Z
  exact ⟨hx, hc, hml, hown, hts, hK, zGt_ok hW _, htb, hE, hlocks⟩
def tbK0 : zT := ([(12, 0, 1), (21, 0, 2), (25, 0, 3), (29, 0, 4), (32, 0, 0)], [], [])
theorem tk0_12 : zfw RX0 (12, 0, 1) ∈ zt := zt_of (zq_2 (List.mem_of_getElem? (i := 37) rfl)) rfl
theorem tk0_21 : zfw RX0 (21, 0, 2) ∈ zt := zt_of (zq_2 (List.mem_of_getElem? (i := 39) rfl)) rfl
theorem tk0_25 : zfw RX0 (25, 0, 3) ∈ zt := zt_of (zq_2 (List.mem_of_getElem? (i := 41) rfl)) rfl
theorem tk0_29 : zfw RX0 (29, 0, 4) ∈ zt := zt_of (zq_2 (List.mem_of_getElem? (i := 42) rfl)) rfl
theorem tk0_32 : zfw RX0 (32, 0, 0) ∈ zt := zt_of (zq_2 (List.mem_of_getElem? (i := 36) rfl)) rfl
theorem tbK0_ok : zTok RX0 tbK0 := ⟨List.forall_mem_cons.mpr ⟨tk0_12, List.forall_mem_cons.mpr ⟨tk0_21, List.forall_mem_cons.mpr ⟨tk0_25, List.forall_mem_cons.mpr ⟨tk0_29, List.forall_mem_cons.mpr ⟨tk0_32, fun _ h => absurd h List.not_mem_nil⟩⟩⟩⟩⟩, fun _ h => absurd h List.not_mem_nil, fun _ h => absurd h List.not_mem_nil⟩
def tbK1 : zT := ([(11, 1, 1), (15, 1, 2), (18, 1, 3), (21, 1, 4), (24, 1, 5), (29, 1, 7), (32, 1, 0)], [], [])
theorem tk1_11 : zfw RX1 (11, 1, 1) ∈ zt := zt_of (zq_2 (List.mem_of_getElem? (i := 107) rfl)) rfl
theorem tk1_15 : zfw RX1 (15, 1, 2) ∈ zt := zt_of (zq_2 (List.mem_of_getElem? (i := 108) rfl)) rfl
theorem tk1_18 : zfw RX1 (18, 1, 3) ∈ zt := zt_of (zq_2 (List.mem_of_getElem? (i := 109) rfl)) rfl
theorem tk1_21 : zfw RX1 (21, 1, 4) ∈ zt := zt_of (zq_2 (List.mem_of_getElem? (i := 110) rfl)) rfl
theorem tk1_24 : zfw RX1 (24, 1, 5) ∈ zt := zt_of (zq_2 (List.mem_of_getElem? (i := 111) rfl)) rfl
theorem tk1_29 : zfw RX1 (29, 1, 7) ∈ zt := zt_of (zq_2 (List.mem_of_getElem? (i := 114) rfl)) rfl
theorem tk1_32 : zfw RX1 (32, 1, 0) ∈ zt := zt_of (zq_2 (List.mem_of_getElem? (i := 106) rfl)) rfl
theorem tbK1_ok : zTok RX1 tbK1 := ⟨List.forall_mem_cons.mpr ⟨tk1_11, List.forall_mem_cons.mpr ⟨tk1_15, List.forall_mem_cons.mpr ⟨tk1_18, List.forall_mem_cons.mpr ⟨tk1_21, List.forall_mem_cons.mpr ⟨tk1_24, List.forall_mem_cons.mpr ⟨tk1_29, List.forall_mem_cons.mpr ⟨tk1_32, fun _ h => absurd h List.not_mem_nil⟩⟩⟩⟩⟩⟩⟩, fun _ h => absurd h List.not_mem_nil, fun _ h => absurd h List.not_mem_nil⟩
def tbK2 : zT := ([(9, 2, 3), (15, 2, 4), (18, 2, 7), (21, 2, 8), (24, 2, 10), (27, 2, 11), (30, 2, 12), (37, 2, 13), (44, 2, 15), (50, 2, 17), (53, 2, 0)], [], [])
theorem tk2_9 : zfw RX2 (9, 2, 3) ∈ zt := zt_of (zq_1 (List.mem_of_getElem? (i := 108) rfl)) rfl
theorem tk2_15 : zfw RX2 (15, 2, 4) ∈ zt := zt_of (zq_1 (List.mem_of_getElem? (i := 110) rfl)) rfl
theorem tk2_18 : zfw RX2 (18, 2, 7) ∈ zt := zt_of (zq_1 (List.mem_of_getElem? (i := 116) rfl)) rfl
theorem tk2_21 : zfw RX2 (21, 2, 8) ∈ zt := zt_of (zq_1 (List.mem_of_getElem? (i := 121) rfl)) rfl
theorem tk2_24 : zfw RX2 (24, 2, 10) ∈ zt := zt_of (zq_1 (List.mem_of_getElem? (i := 127) rfl)) rfl
theorem tk2_27 : zfw RX2 (27, 2, 11) ∈ zt := zt_of (zq_1 (List.mem_of_getElem? (i := 130) rfl)) rfl
theorem tk2_30 : zfw RX2 (30, 2, 12) ∈ zt := zt_of (zq_1 (List.mem_of_getElem? (i := 133) rfl)) rfl
theorem tk2_37 : zfw RX2 (37, 2, 13) ∈ zt := zt_of (zq_1 (List.mem_of_getElem? (i := 135) rfl)) rfl
theorem tk2_44 : zfw RX2 (44, 2, 15) ∈ zt := zt_of (zq_1 (List.mem_of_getElem? (i := 139) rfl)) rfl
theorem tk2_50 : zfw RX2 (50, 2, 17) ∈ zt := zt_of (zq_1 (List.mem_of_getElem? (i := 145) rfl)) rfl
theorem tk2_53 : zfw RX2 (53, 2, 0) ∈ zt := zt_of (zq_1 (List.mem_of_getElem? (i := 99) rfl)) rfl
theorem tbK2_ok : zTok RX2 tbK2 := ⟨List.forall_mem_cons.mpr ⟨tk2_9, List.forall_mem_cons.mpr ⟨tk2_15, List.forall_mem_cons.mpr ⟨tk2_18, List.forall_mem_cons.mpr ⟨tk2_21, List.forall_mem_cons.mpr ⟨tk2_24, List.forall_mem_cons.mpr ⟨tk2_27, List.forall_mem_cons.mpr ⟨tk2_30, List.forall_mem_cons.mpr ⟨tk2_37, List.forall_mem_cons.mpr ⟨tk2_44, List.forall_mem_cons.mpr ⟨tk2_50, List.forall_mem_cons.mpr ⟨tk2_53, fun _ h => absurd h List.not_mem_nil⟩⟩⟩⟩⟩⟩⟩⟩⟩⟩⟩, fun _ h => absurd h List.not_mem_nil, fun _ h => absurd h List.not_mem_nil⟩
def tbK3 : zT := ([(13, 3, 0), (17, 3, 1), (21, 3, 2), (24, 3, 3)], [], [])
theorem tk3_13 : zfw RX3 (13, 3, 0) ∈ zt := zt_of (zq_1 (List.mem_of_getElem? (i := 187) rfl)) rfl
theorem tk3_17 : zfw RX3 (17, 3, 1) ∈ zt := zt_of (zq_1 (List.mem_of_getElem? (i := 188) rfl)) rfl
theorem tk3_21 : zfw RX3 (21, 3, 2) ∈ zt := zt_of (zq_1 (List.mem_of_getElem? (i := 189) rfl)) rfl
theorem tk3_24 : zfw RX3 (24, 3, 3) ∈ zt := zt_of (zq_1 (List.mem_of_getElem? (i := 190) rfl)) rfl
theorem tbK3_ok : zTok RX3 tbK3 := ⟨List.forall_mem_cons.mpr ⟨tk3_13, List.forall_mem_cons.mpr ⟨tk3_17, List.forall_mem_cons.mpr ⟨tk3_21, List.forall_mem_cons.mpr ⟨tk3_24, fun _ h => absurd h List.not_mem_nil⟩⟩⟩⟩, fun _ h => absurd h List.not_mem_nil, fun _ h => absurd h List.not_mem_nil⟩
def tbK4 : zT := ([(9, 4, 1), (15, 4, 3), (19, 4, 4), (22, 4, 5), (25, 4, 6), (28, 4, 7), (31, 4, 8), (34, 4, 9), (37, 4, 10), (40, 4, 11), (43, 4, 12), (46, 4, 0)], [], [])
theorem tk4_9 : zfw RX4 (9, 4, 1) ∈ zt := zt_of (zq_2 (List.mem_of_getElem? (i := 163) rfl)) rfl
theorem tk4_15 : zfw RX4 (15, 4, 3) ∈ zt := zt_of (zq_2 (List.mem_of_getElem? (i := 167) rfl)) rfl
theorem tk4_19 : zfw RX4 (19, 4, 4) ∈ zt := zt_of (zq_2 (List.mem_of_getElem? (i := 169) rfl)) rfl
theorem tk4_22 : zfw RX4 (22, 4, 5) ∈ zt := zt_of (zq_2 (List.mem_of_getElem? (i := 170) rfl)) rfl
theorem tk4_25 : zfw RX4 (25, 4, 6) ∈ zt := zt_of (zq_2 (List.mem_of_getElem? (i := 171) rfl)) rfl
theorem tk4_28 : zfw RX4 (28, 4, 7) ∈ zt := zt_of (zq_2 (List.mem_of_getElem? (i := 172) rfl)) rfl
theorem tk4_31 : zfw RX4 (31, 4, 8) ∈ zt := zt_of (zq_2 (List.mem_of_getElem? (i := 173) rfl)) rfl
theorem tk4_34 : zfw RX4 (34, 4, 9) ∈ zt := zt_of (zq_2 (List.mem_of_getElem? (i := 174) rfl)) rfl
theorem tk4_37 : zfw RX4 (37, 4, 10) ∈ zt := zt_of (zq_2 (List.mem_of_getElem? (i := 175) rfl)) rfl
theorem tk4_40 : zfw RX4 (40, 4, 11) ∈ zt := zt_of (zq_2 (List.mem_of_getElem? (i := 176) rfl)) rfl
theorem tk4_43 : zfw RX4 (43, 4, 12) ∈ zt := zt_of (zq_2 (List.mem_of_getElem? (i := 177) rfl)) rfl
theorem tk4_46 : zfw RX4 (46, 4, 0) ∈ zt := zt_of (zq_2 (List.mem_of_getElem? (i := 162) rfl)) rfl
theorem tbK4_ok : zTok RX4 tbK4 := ⟨List.forall_mem_cons.mpr ⟨tk4_9, List.forall_mem_cons.mpr ⟨tk4_15, List.forall_mem_cons.mpr ⟨tk4_19, List.forall_mem_cons.mpr ⟨tk4_22, List.forall_mem_cons.mpr ⟨tk4_25, List.forall_mem_cons.mpr ⟨tk4_28, List.forall_mem_cons.mpr ⟨tk4_31, List.forall_mem_cons.mpr ⟨tk4_34, List.forall_mem_cons.mpr ⟨tk4_37, List.forall_mem_cons.mpr ⟨tk4_40, List.forall_mem_cons.mpr ⟨tk4_43, List.forall_mem_cons.mpr ⟨tk4_46, fun _ h => absurd h List.not_mem_nil⟩⟩⟩⟩⟩⟩⟩⟩⟩⟩⟩⟩, fun _ h => absurd h List.not_mem_nil, fun _ h => absurd h List.not_mem_nil⟩
def tbK5 : zT := ([(11, 5, 2), (17, 5, 3), (20, 5, 4), (23, 5, 5), (26, 5, 6), (29, 5, 7), (32, 5, 0), (36, 5, 1)], [], [])
theorem tk5_11 : zfw RX5 (11, 5, 2) ∈ zt := zt_of (zq_2 (List.mem_of_getElem? (i := 77) rfl)) rfl
theorem tk5_17 : zfw RX5 (17, 5, 3) ∈ zt := zt_of (zq_2 (List.mem_of_getElem? (i := 78) rfl)) rfl
theorem tk5_20 : zfw RX5 (20, 5, 4) ∈ zt := zt_of (zq_2 (List.mem_of_getElem? (i := 79) rfl)) rfl
theorem tk5_23 : zfw RX5 (23, 5, 5) ∈ zt := zt_of (zq_2 (List.mem_of_getElem? (i := 80) rfl)) rfl
theorem tk5_26 : zfw RX5 (26, 5, 6) ∈ zt := zt_of (zq_2 (List.mem_of_getElem? (i := 81) rfl)) rfl
theorem tk5_29 : zfw RX5 (29, 5, 7) ∈ zt := zt_of (zq_2 (List.mem_of_getElem? (i := 82) rfl)) rfl
theorem tk5_32 : zfw RX5 (32, 5, 0) ∈ zt := zt_of (zq_2 (List.mem_of_getElem? (i := 75) rfl)) rfl
theorem tk5_36 : zfw RX5 (36, 5, 1) ∈ zt := zt_of (zq_2 (List.mem_of_getElem? (i := 76) rfl)) rfl
theorem tbK5_ok : zTok RX5 tbK5 := ⟨List.forall_mem_cons.mpr ⟨tk5_11, List.forall_mem_cons.mpr ⟨tk5_17, List.forall_mem_cons.mpr ⟨tk5_20, List.forall_mem_cons.mpr ⟨tk5_23, List.forall_mem_cons.mpr ⟨tk5_26, List.forall_mem_cons.mpr ⟨tk5_29, List.forall_mem_cons.mpr ⟨tk5_32, List.forall_mem_cons.mpr ⟨tk5_36, fun _ h => absurd h List.not_mem_nil⟩⟩⟩⟩⟩⟩⟩⟩, fun _ h => absurd h List.not_mem_nil, fun _ h => absurd h List.not_mem_nil⟩
def tbK6 : zT := ([(9, 6, 4), (15, 6, 0)], [], [])
theorem tk6_9 : zfw RX6 (9, 6, 4) ∈ zt := zt_of (zq_2 (List.mem_of_getElem? (i := 143) rfl)) rfl
theorem tk6_15 : zfw RX6 (15, 6, 0) ∈ zt := zt_of (zq_2 (List.mem_of_getElem? (i := 138) rfl)) rfl
theorem tbK6_ok : zTok RX6 tbK6 := ⟨List.forall_mem_cons.mpr ⟨tk6_9, List.forall_mem_cons.mpr ⟨tk6_15, fun _ h => absurd h List.not_mem_nil⟩⟩, fun _ h => absurd h List.not_mem_nil, fun _ h => absurd h List.not_mem_nil⟩
def tbK7 : zT := ([(11, 7, 3), (15, 7, 4), (18, 7, 5)], [], [])
theorem tk7_11 : zfw RX7 (11, 7, 3) ∈ zt := zt_of (zq_1 (List.mem_of_getElem? (i := 231) rfl)) rfl
theorem tk7_15 : zfw RX7 (15, 7, 4) ∈ zt := zt_of (zq_1 (List.mem_of_getElem? (i := 232) rfl)) rfl
theorem tk7_18 : zfw RX7 (18, 7, 5) ∈ zt := zt_of (zq_1 (List.mem_of_getElem? (i := 233) rfl)) rfl
theorem tbK7_ok : zTok RX7 tbK7 := ⟨List.forall_mem_cons.mpr ⟨tk7_11, List.forall_mem_cons.mpr ⟨tk7_15, List.forall_mem_cons.mpr ⟨tk7_18, fun _ h => absurd h List.not_mem_nil⟩⟩⟩, fun _ h => absurd h List.not_mem_nil, fun _ h => absurd h List.not_mem_nil⟩
def tbK8 : zT := ([(9, 8, 0), (15, 8, 1)], [], [])
theorem tk8_9 : zfw RX8 (9, 8, 0) ∈ zt := zt_of (zq_1 (List.mem_of_getElem? (i := 84) rfl)) rfl
theorem tk8_15 : zfw RX8 (15, 8, 1) ∈ zt := zt_of (zq_1 (List.mem_of_getElem? (i := 85) rfl)) rfl
theorem tbK8_ok : zTok RX8 tbK8 := ⟨List.forall_mem_cons.mpr ⟨tk8_9, List.forall_mem_cons.mpr ⟨tk8_15, fun _ h => absurd h List.not_mem_nil⟩⟩, fun _ h => absurd h List.not_mem_nil, fun _ h => absurd h List.not_mem_nil⟩
def tbK9 : zT := ([], [], [])
theorem tbK9_ok : zTok RX9 tbK9 := ⟨fun _ h => absurd h List.not_mem_nil, fun _ h => absurd h List.not_mem_nil, fun _ h => absurd h List.not_mem_nil⟩
def tbK10 : zT := ([(11, 10, 0), (18, 10, 4)], [], [])
theorem tk10_11 : zfw RX10 (11, 10, 0) ∈ zt := zt_of (zq_2 (List.mem_of_getElem? (i := 8) rfl)) rfl
theorem tk10_18 : zfw RX10 (18, 10, 4) ∈ zt := zt_of (zq_2 (List.mem_of_getElem? (i := 13) rfl)) rfl
theorem tbK10_ok : zTok RX10 tbK10 := ⟨List.forall_mem_cons.mpr ⟨tk10_11, List.forall_mem_cons.mpr ⟨tk10_18, fun _ h => absurd h List.not_mem_nil⟩⟩, fun _ h => absurd h List.not_mem_nil, fun _ h => absurd h List.not_mem_nil⟩
def tbK11 : zT := ([(10, 11, 0), (19, 11, 1), (28, 11, 2), (34, 0, 1), (41, 11, 3), (48, 11, 4), (55, 11, 5), (62, 11, 6)], [], [])
theorem tk11_10 : zfw RX11 (10, 11, 0) ∈ zt := zt_of (zq_2 (List.mem_of_getElem? (i := 220) rfl)) rfl
theorem tk11_19 : zfw RX11 (19, 11, 1) ∈ zt := zt_of (zq_2 (List.mem_of_getElem? (i := 221) rfl)) rfl
theorem tk11_28 : zfw RX11 (28, 11, 2) ∈ zt := zt_of (zq_2 (List.mem_of_getElem? (i := 222) rfl)) rfl
theorem tk11_34 : zfw RX11 (34, 0, 1) ∈ zt := zt_of (zq_2 (List.mem_of_getElem? (i := 38) rfl)) rfl
theorem tk11_41 : zfw RX11 (41, 11, 3) ∈ zt := zt_of (zq_2 (List.mem_of_getElem? (i := 223) rfl)) rfl
theorem tk11_48 : zfw RX11 (48, 11, 4) ∈ zt := zt_of (zq_2 (List.mem_of_getElem? (i := 224) rfl)) rfl
theorem tk11_55 : zfw RX11 (55, 11, 5) ∈ zt := zt_of (zq_2 (List.mem_of_getElem? (i := 225) rfl)) rfl
theorem tk11_62 : zfw RX11 (62, 11, 6) ∈ zt := zt_of (zq_2 (List.mem_of_getElem? (i := 226) rfl)) rfl
theorem tbK11_ok : zTok RX11 tbK11 := ⟨List.forall_mem_cons.mpr ⟨tk11_10, List.forall_mem_cons.mpr ⟨tk11_19, List.forall_mem_cons.mpr ⟨tk11_28, List.forall_mem_cons.mpr ⟨tk11_34, List.forall_mem_cons.mpr ⟨tk11_41, List.forall_mem_cons.mpr ⟨tk11_48, List.forall_mem_cons.mpr ⟨tk11_55, List.forall_mem_cons.mpr ⟨tk11_62, fun _ h => absurd h List.not_mem_nil⟩⟩⟩⟩⟩⟩⟩⟩, fun _ h => absurd h List.not_mem_nil, fun _ h => absurd h List.not_mem_nil⟩
theorem ol11_1 : Cond.methodLink RX11 1 Lib.objectInit ∈ zt := zt_of (zq_1 (List.mem_of_getElem? (i := 27) rfl)) rfl
theorem ol_in : Cond.instanceMethod Lib.objectInit ∈ zt := zt_of (zq_1 (List.mem_of_getElem? (i := 28) rfl)) rfl
theorem ol_cd : Cond.code Lib.objectInit ⟨#[0xb1]⟩ 1 none ∈ zt := zt_of (zq_1 (List.mem_of_getElem? (i := 29) rfl)) rfl
theorem lk11_7 : Cond.classLink RX11 7 (zRt 3) ∈ zt := zt_of (zq_1 (List.mem_of_getElem? (i := 30) rfl)) rfl
theorem ist_3 : Cond.instantiable (zRt 3) (zof 3) ∈ zt := zt_of (zq_1 (List.mem_of_getElem? (i := 31) rfl)) rfl
theorem ini_3 : Cond.initialized (zRt 3) ∈ zt := zt_of (zq_1 (List.mem_of_getElem? (i := 2) rfl)) rfl
theorem ol3_3 : Cond.methodLink RX3 3 Lib.objectInit ∈ zt := zt_of (zq_1 (List.mem_of_getElem? (i := 35) rfl)) rfl
theorem lk3_11 : Cond.classLink RX3 11 (zRt 2) ∈ zt := zt_of (zq_1 (List.mem_of_getElem? (i := 36) rfl)) rfl
theorem acl_0 : Cond.arrayClass (newarray.typeOf .int) ∈ zt := zt_of (zq_1 (List.mem_of_getElem? (i := 74) rfl)) rfl
theorem ist_2 : Cond.instantiable (zRt 2) (zof 2) ∈ zt := zt_of (zq_1 (List.mem_of_getElem? (i := 38) rfl)) rfl
theorem ini_2 : Cond.initialized (zRt 2) ∈ zt := zt_of (zq_1 (List.mem_of_getElem? (i := 3) rfl)) rfl
theorem ol2_3 : Cond.methodLink RX2 3 Lib.objectInit ∈ zt := zt_of (zq_1 (List.mem_of_getElem? (i := 42) rfl)) rfl
theorem lk2_34 : Cond.classLink RX2 34 (zRt 9) ∈ zt := zt_of (zq_1 (List.mem_of_getElem? (i := 43) rfl)) rfl
theorem ist_9 : Cond.instantiable (zRt 9) (zof 9) ∈ zt := zt_of (zq_1 (List.mem_of_getElem? (i := 44) rfl)) rfl
theorem ini_9 : Cond.initialized (zRt 9) ∈ zt := zt_of (zq_1 (List.mem_of_getElem? (i := 4) rfl)) rfl
theorem ol9_1 : Cond.methodLink RX9 1 Lib.objectInit ∈ zt := zt_of (zq_1 (List.mem_of_getElem? (i := 48) rfl)) rfl
theorem mi9_cd : Cond.code yX9_init cX9_init 1 none ∈ zt := zt_of (zq_1 (List.mem_of_getElem? (i := 47) rfl)) rfl
theorem mi9_ni : Cond.initialized yX9_init.cls ∈ zt := zt_of (zq_1 (List.mem_of_getElem? (i := 4) rfl)) rfl
theorem mi9_in : Cond.instanceMethod yX9_init ∈ zt := zt_of (zq_1 (List.mem_of_getElem? (i := 46) rfl)) rfl
theorem cwi2_36 : zcw RX2 36 yX9_init cX9_init 1 none 0 := ⟨zt_of (zq_1 (List.mem_of_getElem? (i := 45) rfl)) rfl, mi9_cd, mi9_ni, by decide +kernel, by decide +kernel⟩
theorem lk2_41 : Cond.classLink RX2 41 (zRt 8) ∈ zt := zt_of (zq_1 (List.mem_of_getElem? (i := 75) rfl)) rfl
theorem ist_8 : Cond.instantiable (zRt 8) (zof 8) ∈ zt := zt_of (zq_1 (List.mem_of_getElem? (i := 76) rfl)) rfl
theorem ini_8 : Cond.initialized (zRt 8) ∈ zt := zt_of (zq_1 (List.mem_of_getElem? (i := 5) rfl)) rfl
theorem ol8_1 : Cond.methodLink RX8 1 Lib.objectInit ∈ zt := zt_of (zq_1 (List.mem_of_getElem? (i := 80) rfl)) rfl
theorem lk8_13 : Cond.classLink RX8 13 (zRt 9) ∈ zt := zt_of (zq_1 (List.mem_of_getElem? (i := 81) rfl)) rfl
theorem cwi8_19 : zcw RX8 19 yX9_init cX9_init 1 none 0 := ⟨zt_of (zq_1 (List.mem_of_getElem? (i := 83) rfl)) rfl, mi9_cd, mi9_ni, by decide +kernel, by decide +kernel⟩
theorem mi8_cd : Cond.code yX8_init cX8_init 2 none ∈ zt := zt_of (zq_1 (List.mem_of_getElem? (i := 79) rfl)) rfl
theorem mi8_ni : Cond.initialized yX8_init.cls ∈ zt := zt_of (zq_1 (List.mem_of_getElem? (i := 5) rfl)) rfl
theorem mi8_in : Cond.instanceMethod yX8_init ∈ zt := zt_of (zq_1 (List.mem_of_getElem? (i := 78) rfl)) rfl
theorem cwi2_43 : zcw RX2 43 yX8_init cX8_init 2 none 0 := ⟨zt_of (zq_1 (List.mem_of_getElem? (i := 77) rfl)) rfl, mi8_cd, mi8_ni, by decide +kernel, by decide +kernel⟩
theorem cwi2_56 : zcw RX2 56 yJ7_fill_53178 cJ7_fill_53178 4 (none) 2 := ⟨zt_of (zq_1 (List.mem_of_getElem? (i := 96) rfl)) rfl, mJ7_fill_cd, mJ7_fill_ni, by decide +kernel, by decide +kernel⟩
theorem mi2_cd : Cond.code yX2_init cX2_init 2 none ∈ zt := zt_of (zq_1 (List.mem_of_getElem? (i := 41) rfl)) rfl
theorem mi2_ni : Cond.initialized yX2_init.cls ∈ zt := zt_of (zq_1 (List.mem_of_getElem? (i := 3) rfl)) rfl
theorem mi2_in : Cond.instanceMethod yX2_init ∈ zt := zt_of (zq_1 (List.mem_of_getElem? (i := 40) rfl)) rfl
theorem cwi3_27 : zcw RX3 27 yX2_init cX2_init 2 none 1 := ⟨zt_of (zq_1 (List.mem_of_getElem? (i := 39) rfl)) rfl, mi2_cd, mi2_ni, by decide +kernel, by decide +kernel⟩
theorem mi3_cd : Cond.code yX3_init cX3_init 2 none ∈ zt := zt_of (zq_1 (List.mem_of_getElem? (i := 34) rfl)) rfl
theorem mi3_ni : Cond.initialized yX3_init.cls ∈ zt := zt_of (zq_1 (List.mem_of_getElem? (i := 2) rfl)) rfl
theorem mi3_in : Cond.instanceMethod yX3_init ∈ zt := zt_of (zq_1 (List.mem_of_getElem? (i := 33) rfl)) rfl
theorem cwi11_9 : zcw RX11 9 yX3_init cX3_init 2 none 0 := ⟨zt_of (zq_1 (List.mem_of_getElem? (i := 32) rfl)) rfl, mi3_cd, mi3_ni, by decide +kernel, by decide +kernel⟩
theorem lk11_16 : Cond.classLink RX11 16 (zRt 10) ∈ zt := zt_of (zq_1 (List.mem_of_getElem? (i := 213) rfl)) rfl
theorem ist_10 : Cond.instantiable (zRt 10) (zof 10) ∈ zt := zt_of (zq_1 (List.mem_of_getElem? (i := 214) rfl)) rfl
theorem ini_10 : Cond.initialized (zRt 10) ∈ zt := zt_of (zq_1 (List.mem_of_getElem? (i := 7) rfl)) rfl
theorem ol10_3 : Cond.methodLink RX10 3 Lib.objectInit ∈ zt := zt_of (zq_1 (List.mem_of_getElem? (i := 218) rfl)) rfl
theorem lk10_15 : Cond.classLink RX10 15 (zRt 7) ∈ zt := zt_of (zq_1 (List.mem_of_getElem? (i := 219) rfl)) rfl
theorem ist_7 : Cond.instantiable (zRt 7) (zof 7) ∈ zt := zt_of (zq_1 (List.mem_of_getElem? (i := 220) rfl)) rfl
theorem ini_7 : Cond.initialized (zRt 7) ∈ zt := zt_of (zq_1 (List.mem_of_getElem? (i := 8) rfl)) rfl
theorem ol7_3 : Cond.methodLink RX7 3 Lib.objectInit ∈ zt := zt_of (zq_1 (List.mem_of_getElem? (i := 224) rfl)) rfl
theorem acl_1 : Cond.arrayClass (newarray.typeOf .boolean) ∈ zt := zt_of (zq_2 (List.mem_of_getElem? (i := 7) rfl)) rfl
theorem mi7_cd : Cond.code yX7_init cX7_init 1 none ∈ zt := zt_of (zq_1 (List.mem_of_getElem? (i := 223) rfl)) rfl
theorem mi7_ni : Cond.initialized yX7_init.cls ∈ zt := zt_of (zq_1 (List.mem_of_getElem? (i := 8) rfl)) rfl
theorem mi7_in : Cond.instanceMethod yX7_init ∈ zt := zt_of (zq_1 (List.mem_of_getElem? (i := 222) rfl)) rfl
theorem cwi10_17 : zcw RX10 17 yX7_init cX7_init 1 none 0 := ⟨zt_of (zq_1 (List.mem_of_getElem? (i := 221) rfl)) rfl, mi7_cd, mi7_ni, by decide +kernel, by decide +kernel⟩
theorem mi10_cd : Cond.code yX10_init cX10_init 1 none ∈ zt := zt_of (zq_1 (List.mem_of_getElem? (i := 217) rfl)) rfl
theorem mi10_ni : Cond.initialized yX10_init.cls ∈ zt := zt_of (zq_1 (List.mem_of_getElem? (i := 7) rfl)) rfl
theorem mi10_in : Cond.instanceMethod yX10_init ∈ zt := zt_of (zq_1 (List.mem_of_getElem? (i := 216) rfl)) rfl
theorem cwi11_18 : zcw RX11 18 yX10_init cX10_init 1 none 0 := ⟨zt_of (zq_1 (List.mem_of_getElem? (i := 215) rfl)) rfl, mi10_cd, mi10_ni, by decide +kernel, by decide +kernel⟩
theorem lk11_23 : Cond.classLink RX11 23 (zRt 0) ∈ zt := zt_of (zq_2 (List.mem_of_getElem? (i := 26) rfl)) rfl
theorem ist_0 : Cond.instantiable (zRt 0) (zof 0) ∈ zt := zt_of (zq_2 (List.mem_of_getElem? (i := 27) rfl)) rfl
theorem ini_0 : Cond.initialized (zRt 0) ∈ zt := zt_of (zq_1 (List.mem_of_getElem? (i := 9) rfl)) rfl
theorem ol0_3 : Cond.methodLink RX0 3 Lib.objectInit ∈ zt := zt_of (zq_2 (List.mem_of_getElem? (i := 31) rfl)) rfl
theorem lk0_9 : Cond.classLink RX0 9 (zRt 7) ∈ zt := zt_of (zq_2 (List.mem_of_getElem? (i := 32) rfl)) rfl
theorem cwi0_11 : zcw RX0 11 yX7_init cX7_init 1 none 0 := ⟨zt_of (zq_2 (List.mem_of_getElem? (i := 33) rfl)) rfl, mi7_cd, mi7_ni, by decide +kernel, by decide +kernel⟩
theorem lk0_18 : Cond.classLink RX0 18 (zRt 9) ∈ zt := zt_of (zq_2 (List.mem_of_getElem? (i := 34) rfl)) rfl
theorem cwi0_20 : zcw RX0 20 yX9_init cX9_init 1 none 0 := ⟨zt_of (zq_2 (List.mem_of_getElem? (i := 35) rfl)) rfl, mi9_cd, mi9_ni, by decide +kernel, by decide +kernel⟩
theorem mi0_cd : Cond.code yX0_init cX0_init 2 none ∈ zt := zt_of (zq_2 (List.mem_of_getElem? (i := 30) rfl)) rfl
theorem mi0_ni : Cond.initialized yX0_init.cls ∈ zt := zt_of (zq_1 (List.mem_of_getElem? (i := 9) rfl)) rfl
theorem mi0_in : Cond.instanceMethod yX0_init ∈ zt := zt_of (zq_2 (List.mem_of_getElem? (i := 29) rfl)) rfl
theorem cwi11_25 : zcw RX11 25 yX0_init cX0_init 2 none 1 := ⟨zt_of (zq_2 (List.mem_of_getElem? (i := 28) rfl)) rfl, mi0_cd, mi0_ni, by decide +kernel, by decide +kernel⟩
theorem lk11_32 : Cond.classLink RX11 32 (zRt 5) ∈ zt := zt_of (zq_2 (List.mem_of_getElem? (i := 69) rfl)) rfl
theorem ist_5 : Cond.instantiable (zRt 5) (zof 5) ∈ zt := zt_of (zq_2 (List.mem_of_getElem? (i := 70) rfl)) rfl
theorem ini_5 : Cond.initialized (zRt 5) ∈ zt := zt_of (zq_1 (List.mem_of_getElem? (i := 10) rfl)) rfl
theorem ol5_3 : Cond.methodLink RX5 3 Lib.objectInit ∈ zt := zt_of (zq_2 (List.mem_of_getElem? (i := 74) rfl)) rfl
theorem mi5_cd : Cond.code yX5_init cX5_init 3 none ∈ zt := zt_of (zq_2 (List.mem_of_getElem? (i := 73) rfl)) rfl
theorem mi5_ni : Cond.initialized yX5_init.cls ∈ zt := zt_of (zq_1 (List.mem_of_getElem? (i := 10) rfl)) rfl
theorem mi5_in : Cond.instanceMethod yX5_init ∈ zt := zt_of (zq_2 (List.mem_of_getElem? (i := 72) rfl)) rfl
theorem cwi11_38 : zcw RX11 38 yX5_init cX5_init 3 none 2 := ⟨zt_of (zq_2 (List.mem_of_getElem? (i := 71) rfl)) rfl, mi5_cd, mi5_ni, by decide +kernel, by decide +kernel⟩
theorem lk11_45 : Cond.classLink RX11 45 (zRt 1) ∈ zt := zt_of (zq_2 (List.mem_of_getElem? (i := 100) rfl)) rfl
theorem ist_1 : Cond.instantiable (zRt 1) (zof 1) ∈ zt := zt_of (zq_2 (List.mem_of_getElem? (i := 101) rfl)) rfl
theorem ini_1 : Cond.initialized (zRt 1) ∈ zt := zt_of (zq_1 (List.mem_of_getElem? (i := 11) rfl)) rfl
theorem ol1_3 : Cond.methodLink RX1 3 Lib.objectInit ∈ zt := zt_of (zq_2 (List.mem_of_getElem? (i := 105) rfl)) rfl
theorem mi1_cd : Cond.code yX1_init cX1_init 2 none ∈ zt := zt_of (zq_2 (List.mem_of_getElem? (i := 104) rfl)) rfl
theorem mi1_ni : Cond.initialized yX1_init.cls ∈ zt := zt_of (zq_1 (List.mem_of_getElem? (i := 11) rfl)) rfl
theorem mi1_in : Cond.instanceMethod yX1_init ∈ zt := zt_of (zq_2 (List.mem_of_getElem? (i := 103) rfl)) rfl
theorem cwi11_47 : zcw RX11 47 yX1_init cX1_init 2 none 1 := ⟨zt_of (zq_2 (List.mem_of_getElem? (i := 102) rfl)) rfl, mi1_cd, mi1_ni, by decide +kernel, by decide +kernel⟩
theorem lk11_52 : Cond.classLink RX11 52 (zRt 6) ∈ zt := zt_of (zq_2 (List.mem_of_getElem? (i := 132) rfl)) rfl
theorem ist_6 : Cond.instantiable (zRt 6) (zof 6) ∈ zt := zt_of (zq_2 (List.mem_of_getElem? (i := 133) rfl)) rfl
theorem ini_6 : Cond.initialized (zRt 6) ∈ zt := zt_of (zq_1 (List.mem_of_getElem? (i := 12) rfl)) rfl
theorem ol6_1 : Cond.methodLink RX6 1 Lib.objectInit ∈ zt := zt_of (zq_2 (List.mem_of_getElem? (i := 137) rfl)) rfl
theorem mi6_cd : Cond.code yX6_init cX6_init 2 none ∈ zt := zt_of (zq_2 (List.mem_of_getElem? (i := 136) rfl)) rfl
theorem mi6_ni : Cond.initialized yX6_init.cls ∈ zt := zt_of (zq_1 (List.mem_of_getElem? (i := 12) rfl)) rfl
theorem mi6_in : Cond.instanceMethod yX6_init ∈ zt := zt_of (zq_2 (List.mem_of_getElem? (i := 135) rfl)) rfl
theorem cwi11_54 : zcw RX11 54 yX6_init cX6_init 2 none 1 := ⟨zt_of (zq_2 (List.mem_of_getElem? (i := 134) rfl)) rfl, mi6_cd, mi6_ni, by decide +kernel, by decide +kernel⟩
theorem lk11_59 : Cond.classLink RX11 59 (zRt 4) ∈ zt := zt_of (zq_2 (List.mem_of_getElem? (i := 155) rfl)) rfl
theorem ist_4 : Cond.instantiable (zRt 4) (zof 4) ∈ zt := zt_of (zq_2 (List.mem_of_getElem? (i := 156) rfl)) rfl
theorem ini_4 : Cond.initialized (zRt 4) ∈ zt := zt_of (zq_1 (List.mem_of_getElem? (i := 13) rfl)) rfl
theorem ol4_3 : Cond.methodLink RX4 3 Lib.objectInit ∈ zt := zt_of (zq_2 (List.mem_of_getElem? (i := 160) rfl)) rfl
theorem cwi4_50 : zcw RX4 50 yJ7_fill_53178 cJ7_fill_53178 4 (none) 2 := ⟨zt_of (zq_2 (List.mem_of_getElem? (i := 161) rfl)) rfl, mJ7_fill_cd, mJ7_fill_ni, by decide +kernel, by decide +kernel⟩
theorem mi4_cd : Cond.code yX4_init cX4_init 2 none ∈ zt := zt_of (zq_2 (List.mem_of_getElem? (i := 159) rfl)) rfl
theorem mi4_ni : Cond.initialized yX4_init.cls ∈ zt := zt_of (zq_1 (List.mem_of_getElem? (i := 13) rfl)) rfl
theorem mi4_in : Cond.instanceMethod yX4_init ∈ zt := zt_of (zq_2 (List.mem_of_getElem? (i := 158) rfl)) rfl
theorem cwi11_61 : zcw RX11 61 yX4_init cX4_init 2 none 1 := ⟨zt_of (zq_2 (List.mem_of_getElem? (i := 157) rfl)) rfl, mi4_cd, mi4_ni, by decide +kernel, by decide +kernel⟩
