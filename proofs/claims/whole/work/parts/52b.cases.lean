def mL_22 (L : Nat) (xs : Nat → Int32) (x3 : Int32) (MC : cM) (MR : rM) : Option (cM × rM) := zbd (m11_longest MC) (fun r150 MC150 => zbd (m12_longest MR) (fun r151 MR151 => (if r150 = r151 then some (MC150, MR151) else none)))
set_option maxHeartbeats 4000000 in
theorem mL_22_ok {p : Program} {l : Launch} {e : Env} {s : State} {m : MethodId} {args : Array Value} {below : List Frame} {meth : Method} {c : Code} {Q : State → Prop} {D : va_G} {ad : zR → Nat} {ca : Nat → ClassId} {A : Nat → Prop} {base n k : Nat} {L : Nat} {xs : Nat → Int32} {x3 : Int32} {MC MC' : cM} {MR MR' : rM} (hW : zWh zUA base ad A) (Z : zOK (zCm p l e room_1 s m args below meth c Q code 4 R_law tbL (zGL D ad ca A))) (hX : va_X (ad (2200, 0)) L xs s s.heap ∧ ad (2200, 0) < s.heap.size ∧ ¬ A (ad (2200, 0))) (hnk : n ≤ room_1.cells ∧ k ≤ room_1.slots) (h : mL_22 L xs x3 MC MR = some (MC', MR')) (K : zGo (zCm p l e room_1 s m args below meth c Q code 4 R_law tbL (zGL D ad ca A)) n k (1669, [(0, .inr (.inr (some (2200, 0)))), (1, .inr (.inr (some (11, 0)))), (2, .inr (.inr (some (12, 0)))), (3, .inl x3)], [], zmix MC' MR')) : zGo (zCm p l e room_1 s m args below meth c Q code 4 R_law tbL (zGL D ad ca A)) n k (896, [(0, .inr (.inr (some (2200, 0)))), (1, .inr (.inr (some (11, 0)))), (2, .inr (.inr (some (12, 0)))), (3, .inl x3)], [], zmix MC MR) := by
  unfold mL_22 at h
  refine zblq Z rfl [(.aload 1, 1)] (S' := (897, [(0, .inr (.inr (some (2200, 0)))), (1, .inr (.inr (some (11, 0)))), (2, .inr (.inr (some (12, 0)))), (3, .inl x3)], [.inr (.inr (some (11, 0)))], zmix MC MR)) (b := true) (by decide +kernel) rfl rfl ?_
  obtain ⟨r150, MC150, hc150, h⟩ := zbd_inv h
  refine lw_callC hW Z (as := []) (st := []) (m11_longest_met (zGC_ok hW) rfl hc150) cwL_109 m11_longest_in m11_longest_se rfl ⟨by exact Nat.le_of_ble_eq_true rfl, by exact Nat.le_of_ble_eq_true rfl⟩ rfl (by decide +kernel) hnk ?_
  refine zblq Z rfl [(.aload 2, 1)] (S' := (901, [(0, .inr (.inr (some (2200, 0)))), (1, .inr (.inr (some (11, 0)))), (2, .inr (.inr (some (12, 0)))), (3, .inl x3)], [.inr (.inr (some (12, 0))), .inl r150], zmix MC150 MR)) (b := true) (by decide +kernel) rfl rfl ?_
  obtain ⟨r151, MR151, hc151, h⟩ := zbd_inv h
  refine lw_callR hW Z (as := []) (st := [.inl r150]) (m12_longest_met (zGR_ok hW) rfl hc151) cwL_112 m12_longest_in m12_longest_se rfl ⟨by exact Nat.le_of_ble_eq_true rfl, by exact Nat.le_of_ble_eq_true rfl⟩ rfl (by decide +kernel) hnk ?_
  refine zic_eq Z (off := 765) (tgt := 1669) (by decide +kernel) (by decide) (fun hb152 => ?_) (fun hb152 => ?_)
  · replace h := zite_t h hb152
    cases h
    exact K
  · replace h := zite_f h hb152
    cases h
def mL_23 (L : Nat) (xs : Nat → Int32) (x3 : Int32) (MC : cM) (MR : rM) : Option (cM × rM) := zgd (zin (x3 + (1 : Int32)) L) (zbd (m11_best (xs (nx (x3 + (1 : Int32)))) MC) (fun r154 MC154 => zgd (zin (x3 + (1 : Int32)) L) (zbd (m12_best (xs (nx (x3 + (1 : Int32)))) MR) (fun r156 MR156 => (if r154 = r156 then some (MC154, MR156) else none)))))
set_option maxHeartbeats 4000000 in
theorem mL_23_ok {p : Program} {l : Launch} {e : Env} {s : State} {m : MethodId} {args : Array Value} {below : List Frame} {meth : Method} {c : Code} {Q : State → Prop} {D : va_G} {ad : zR → Nat} {ca : Nat → ClassId} {A : Nat → Prop} {base n k : Nat} {L : Nat} {xs : Nat → Int32} {x3 : Int32} {MC MC' : cM} {MR MR' : rM} (hW : zWh zUA base ad A) (Z : zOK (zCm p l e room_1 s m args below meth c Q code 4 R_law tbL (zGL D ad ca A))) (hX : va_X (ad (2200, 0)) L xs s s.heap ∧ ad (2200, 0) < s.heap.size ∧ ¬ A (ad (2200, 0))) (hnk : n ≤ room_1.cells ∧ k ≤ room_1.slots) (h : mL_23 L xs x3 MC MR = some (MC', MR')) (K : zGo (zCm p l e room_1 s m args below meth c Q code 4 R_law tbL (zGL D ad ca A)) n k (1669, [(0, .inr (.inr (some (2200, 0)))), (1, .inr (.inr (some (11, 0)))), (2, .inr (.inr (some (12, 0)))), (3, .inl x3)], [], zmix MC' MR')) : zGo (zCm p l e room_1 s m args below meth c Q code 4 R_law tbL (zGL D ad ca A)) n k (909, [(0, .inr (.inr (some (2200, 0)))), (1, .inr (.inr (some (11, 0)))), (2, .inr (.inr (some (12, 0)))), (3, .inl x3)], [], zmix MC MR) := by
  unfold mL_23 at h
  refine zblq Z rfl [(.aload 1, 1), (.aload 0, 1), (.iload 3, 1), (.iconst 1, 1), (.iadd, 1)] (S' := (914, [(0, .inr (.inr (some (2200, 0)))), (1, .inr (.inr (some (11, 0)))), (2, .inr (.inr (some (12, 0)))), (3, .inl x3)], [.inl (x3 + (1 : Int32)), .inr (.inr (some (2200, 0))), .inr (.inr (some (11, 0)))], zmix MC MR)) (b := true) (by decide +kernel) rfl rfl ?_
  obtain ⟨hg153, h⟩ := zgd_inv h
  refine c_sld Z hX hg153 (by decide +kernel) ?_
  obtain ⟨r154, MC154, hc154, h⟩ := zbd_inv h
  refine lw_callC hW Z (as := [.inl (xs (nx (x3 + (1 : Int32))))]) (st := []) (m11_best_met (zGC_ok hW) rfl hc154) cwL_113 m11_best_in m11_best_se rfl ⟨by exact Nat.le_of_ble_eq_true rfl, by exact Nat.le_of_ble_eq_true rfl⟩ rfl (by decide +kernel) hnk ?_
  refine zblq Z rfl [(.aload 2, 1), (.aload 0, 1), (.iload 3, 1), (.iconst 1, 1), (.iadd, 1)] (S' := (923, [(0, .inr (.inr (some (2200, 0)))), (1, .inr (.inr (some (11, 0)))), (2, .inr (.inr (some (12, 0)))), (3, .inl x3)], [.inl (x3 + (1 : Int32)), .inr (.inr (some (2200, 0))), .inr (.inr (some (12, 0))), .inl r154], zmix MC154 MR)) (b := true) (by decide +kernel) rfl rfl ?_
  obtain ⟨hg155, h⟩ := zgd_inv h
  refine c_sld Z hX hg155 (by decide +kernel) ?_
  obtain ⟨r156, MR156, hc156, h⟩ := zbd_inv h
  refine lw_callR hW Z (as := [.inl (xs (nx (x3 + (1 : Int32))))]) (st := [.inl r154]) (m12_best_met (zGR_ok hW) rfl hc156) cwL_116 m12_best_in m12_best_se rfl ⟨by exact Nat.le_of_ble_eq_true rfl, by exact Nat.le_of_ble_eq_true rfl⟩ rfl (by decide +kernel) hnk ?_
  refine zic_eq Z (off := 742) (tgt := 1669) (by decide +kernel) (by decide) (fun hb157 => ?_) (fun hb157 => ?_)
  · replace h := zite_t h hb157
    cases h
    exact K
  · replace h := zite_f h hb157
    cases h
def mL_24 (L : Nat) (xs : Nat → Int32) (x3 : Int32) (MC : cM) (MR : rM) : Option (cM × rM) := zgd (zin (x3 + (1 : Int32)) L) (zgd (zin (x3 + (2 : Int32)) L) (zgd (zin (x3 + (3 : Int32)) L) (zgd (zin (x3 + (4 : Int32)) L) (zgd (zin (x3 + (5 : Int32)) L) (zbd (m11_fact (xs (nx (x3 + (1 : Int32)))) (xs (nx (x3 + (2 : Int32)))) (xs (nx (x3 + (3 : Int32)))) (xs (nx (x3 + (4 : Int32)))) (xs (nx (x3 + (5 : Int32)))) MC) (fun r163 MC163 => zgd (zin (x3 + (1 : Int32)) L) (zgd (zin (x3 + (2 : Int32)) L) (zgd (zin (x3 + (3 : Int32)) L) (zgd (zin (x3 + (4 : Int32)) L) (zgd (zin (x3 + (5 : Int32)) L) (zbd (m12_fact (xs (nx (x3 + (1 : Int32)))) (xs (nx (x3 + (2 : Int32)))) (xs (nx (x3 + (3 : Int32)))) (xs (nx (x3 + (4 : Int32)))) (xs (nx (x3 + (5 : Int32)))) MR) (fun r169 MR169 => (if r163 = r169 then some (MC163, MR169) else none)))))))))))))
set_option maxHeartbeats 4000000 in
theorem mL_24_ok {p : Program} {l : Launch} {e : Env} {s : State} {m : MethodId} {args : Array Value} {below : List Frame} {meth : Method} {c : Code} {Q : State → Prop} {D : va_G} {ad : zR → Nat} {ca : Nat → ClassId} {A : Nat → Prop} {base n k : Nat} {L : Nat} {xs : Nat → Int32} {x3 : Int32} {MC MC' : cM} {MR MR' : rM} (hW : zWh zUA base ad A) (Z : zOK (zCm p l e room_1 s m args below meth c Q code 4 R_law tbL (zGL D ad ca A))) (hX : va_X (ad (2200, 0)) L xs s s.heap ∧ ad (2200, 0) < s.heap.size ∧ ¬ A (ad (2200, 0))) (hnk : n ≤ room_1.cells ∧ k ≤ room_1.slots) (h : mL_24 L xs x3 MC MR = some (MC', MR')) (K : zGo (zCm p l e room_1 s m args below meth c Q code 4 R_law tbL (zGL D ad ca A)) n k (1669, [(0, .inr (.inr (some (2200, 0)))), (1, .inr (.inr (some (11, 0)))), (2, .inr (.inr (some (12, 0)))), (3, .inl x3)], [], zmix MC' MR')) : zGo (zCm p l e room_1 s m args below meth c Q code 4 R_law tbL (zGL D ad ca A)) n k (932, [(0, .inr (.inr (some (2200, 0)))), (1, .inr (.inr (some (11, 0)))), (2, .inr (.inr (some (12, 0)))), (3, .inl x3)], [], zmix MC MR) := by
  unfold mL_24 at h
  refine zblq Z rfl [(.aload 1, 1), (.aload 0, 1), (.iload 3, 1), (.iconst 1, 1), (.iadd, 1)] (S' := (937, [(0, .inr (.inr (some (2200, 0)))), (1, .inr (.inr (some (11, 0)))), (2, .inr (.inr (some (12, 0)))), (3, .inl x3)], [.inl (x3 + (1 : Int32)), .inr (.inr (some (2200, 0))), .inr (.inr (some (11, 0)))], zmix MC MR)) (b := true) (by decide +kernel) rfl rfl ?_
  obtain ⟨hg158, h⟩ := zgd_inv h
  refine c_sld Z hX hg158 (by decide +kernel) ?_
  refine zblq Z rfl [(.aload 0, 1), (.iload 3, 1), (.iconst 2, 1), (.iadd, 1)] (S' := (942, [(0, .inr (.inr (some (2200, 0)))), (1, .inr (.inr (some (11, 0)))), (2, .inr (.inr (some (12, 0)))), (3, .inl x3)], [.inl (x3 + (2 : Int32)), .inr (.inr (some (2200, 0))), .inl (xs (nx (x3 + (1 : Int32)))), .inr (.inr (some (11, 0)))], zmix MC MR)) (b := true) (by decide +kernel) rfl rfl ?_
  obtain ⟨hg159, h⟩ := zgd_inv h
  refine c_sld Z hX hg159 (by decide +kernel) ?_
  refine zblq Z rfl [(.aload 0, 1), (.iload 3, 1), (.iconst 3, 1), (.iadd, 1)] (S' := (947, [(0, .inr (.inr (some (2200, 0)))), (1, .inr (.inr (some (11, 0)))), (2, .inr (.inr (some (12, 0)))), (3, .inl x3)], [.inl (x3 + (3 : Int32)), .inr (.inr (some (2200, 0))), .inl (xs (nx (x3 + (2 : Int32)))), .inl (xs (nx (x3 + (1 : Int32)))), .inr (.inr (some (11, 0)))], zmix MC MR)) (b := true) (by decide +kernel) rfl rfl ?_
  obtain ⟨hg160, h⟩ := zgd_inv h
  refine c_sld Z hX hg160 (by decide +kernel) ?_
  refine zblq Z rfl [(.aload 0, 1), (.iload 3, 1), (.iconst 4, 1), (.iadd, 1)] (S' := (952, [(0, .inr (.inr (some (2200, 0)))), (1, .inr (.inr (some (11, 0)))), (2, .inr (.inr (some (12, 0)))), (3, .inl x3)], [.inl (x3 + (4 : Int32)), .inr (.inr (some (2200, 0))), .inl (xs (nx (x3 + (3 : Int32)))), .inl (xs (nx (x3 + (2 : Int32)))), .inl (xs (nx (x3 + (1 : Int32)))), .inr (.inr (some (11, 0)))], zmix MC MR)) (b := true) (by decide +kernel) rfl rfl ?_
  obtain ⟨hg161, h⟩ := zgd_inv h
  refine c_sld Z hX hg161 (by decide +kernel) ?_
  refine zblq Z rfl [(.aload 0, 1), (.iload 3, 1), (.iconst 5, 1), (.iadd, 1)] (S' := (957, [(0, .inr (.inr (some (2200, 0)))), (1, .inr (.inr (some (11, 0)))), (2, .inr (.inr (some (12, 0)))), (3, .inl x3)], [.inl (x3 + (5 : Int32)), .inr (.inr (some (2200, 0))), .inl (xs (nx (x3 + (4 : Int32)))), .inl (xs (nx (x3 + (3 : Int32)))), .inl (xs (nx (x3 + (2 : Int32)))), .inl (xs (nx (x3 + (1 : Int32)))), .inr (.inr (some (11, 0)))], zmix MC MR)) (b := true) (by decide +kernel) rfl rfl ?_
  obtain ⟨hg162, h⟩ := zgd_inv h
  refine c_sld Z hX hg162 (by decide +kernel) ?_
  obtain ⟨r163, MC163, hc163, h⟩ := zbd_inv h
  refine lw_callC hW Z (as := [.inl (xs (nx (x3 + (1 : Int32)))), .inl (xs (nx (x3 + (2 : Int32)))), .inl (xs (nx (x3 + (3 : Int32)))), .inl (xs (nx (x3 + (4 : Int32)))), .inl (xs (nx (x3 + (5 : Int32))))]) (st := []) (m11_fact_met (zGC_ok hW) rfl hc163) cwL_117 m11_fact_in m11_fact_se rfl ⟨by exact Nat.le_of_ble_eq_true rfl, by exact Nat.le_of_ble_eq_true rfl⟩ rfl (by decide +kernel) hnk ?_
  refine zblq Z rfl [(.aload 2, 1), (.aload 0, 1), (.iload 3, 1), (.iconst 1, 1), (.iadd, 1)] (S' := (966, [(0, .inr (.inr (some (2200, 0)))), (1, .inr (.inr (some (11, 0)))), (2, .inr (.inr (some (12, 0)))), (3, .inl x3)], [.inl (x3 + (1 : Int32)), .inr (.inr (some (2200, 0))), .inr (.inr (some (12, 0))), .inl r163], zmix MC163 MR)) (b := true) (by decide +kernel) rfl rfl ?_
  obtain ⟨hg164, h⟩ := zgd_inv h
  refine c_sld Z hX hg164 (by decide +kernel) ?_
  refine zblq Z rfl [(.aload 0, 1), (.iload 3, 1), (.iconst 2, 1), (.iadd, 1)] (S' := (971, [(0, .inr (.inr (some (2200, 0)))), (1, .inr (.inr (some (11, 0)))), (2, .inr (.inr (some (12, 0)))), (3, .inl x3)], [.inl (x3 + (2 : Int32)), .inr (.inr (some (2200, 0))), .inl (xs (nx (x3 + (1 : Int32)))), .inr (.inr (some (12, 0))), .inl r163], zmix MC163 MR)) (b := true) (by decide +kernel) rfl rfl ?_
  obtain ⟨hg165, h⟩ := zgd_inv h
  refine c_sld Z hX hg165 (by decide +kernel) ?_
  refine zblq Z rfl [(.aload 0, 1), (.iload 3, 1), (.iconst 3, 1), (.iadd, 1)] (S' := (976, [(0, .inr (.inr (some (2200, 0)))), (1, .inr (.inr (some (11, 0)))), (2, .inr (.inr (some (12, 0)))), (3, .inl x3)], [.inl (x3 + (3 : Int32)), .inr (.inr (some (2200, 0))), .inl (xs (nx (x3 + (2 : Int32)))), .inl (xs (nx (x3 + (1 : Int32)))), .inr (.inr (some (12, 0))), .inl r163], zmix MC163 MR)) (b := true) (by decide +kernel) rfl rfl ?_
  obtain ⟨hg166, h⟩ := zgd_inv h
  refine c_sld Z hX hg166 (by decide +kernel) ?_
  refine zblq Z rfl [(.aload 0, 1), (.iload 3, 1), (.iconst 4, 1), (.iadd, 1)] (S' := (981, [(0, .inr (.inr (some (2200, 0)))), (1, .inr (.inr (some (11, 0)))), (2, .inr (.inr (some (12, 0)))), (3, .inl x3)], [.inl (x3 + (4 : Int32)), .inr (.inr (some (2200, 0))), .inl (xs (nx (x3 + (3 : Int32)))), .inl (xs (nx (x3 + (2 : Int32)))), .inl (xs (nx (x3 + (1 : Int32)))), .inr (.inr (some (12, 0))), .inl r163], zmix MC163 MR)) (b := true) (by decide +kernel) rfl rfl ?_
  obtain ⟨hg167, h⟩ := zgd_inv h
  refine c_sld Z hX hg167 (by decide +kernel) ?_
  refine zblq Z rfl [(.aload 0, 1), (.iload 3, 1), (.iconst 5, 1), (.iadd, 1)] (S' := (986, [(0, .inr (.inr (some (2200, 0)))), (1, .inr (.inr (some (11, 0)))), (2, .inr (.inr (some (12, 0)))), (3, .inl x3)], [.inl (x3 + (5 : Int32)), .inr (.inr (some (2200, 0))), .inl (xs (nx (x3 + (4 : Int32)))), .inl (xs (nx (x3 + (3 : Int32)))), .inl (xs (nx (x3 + (2 : Int32)))), .inl (xs (nx (x3 + (1 : Int32)))), .inr (.inr (some (12, 0))), .inl r163], zmix MC163 MR)) (b := true) (by decide +kernel) rfl rfl ?_
  obtain ⟨hg168, h⟩ := zgd_inv h
  refine c_sld Z hX hg168 (by decide +kernel) ?_
  obtain ⟨r169, MR169, hc169, h⟩ := zbd_inv h
  refine lw_callR hW Z (as := [.inl (xs (nx (x3 + (1 : Int32)))), .inl (xs (nx (x3 + (2 : Int32)))), .inl (xs (nx (x3 + (3 : Int32)))), .inl (xs (nx (x3 + (4 : Int32)))), .inl (xs (nx (x3 + (5 : Int32))))]) (st := [.inl r163]) (m12_fact_met (zGR_ok hW) rfl hc169) cwL_121 m12_fact_in m12_fact_se rfl ⟨by exact Nat.le_of_ble_eq_true rfl, by exact Nat.le_of_ble_eq_true rfl⟩ rfl (by decide +kernel) hnk ?_
  refine zic_eq Z (off := 679) (tgt := 1669) (by decide +kernel) (by decide) (fun hb170 => ?_) (fun hb170 => ?_)
  · replace h := zite_t h hb170
    cases h
    exact K
  · replace h := zite_f h hb170
    cases h
def mL_25 (L : Nat) (xs : Nat → Int32) (x3 : Int32) (MC : cM) (MR : rM) : Option (cM × rM) := zgd (zin (x3 + (1 : Int32)) L) (zgd (zin (x3 + (2 : Int32)) L) (zgd (zin (x3 + (3 : Int32)) L) (zbd (m11_hour (xs (nx (x3 + (1 : Int32)))) (xs (nx (x3 + (2 : Int32)))) (xs (nx (x3 + (3 : Int32)))) MC) (fun r174 MC174 => zgd (zin (x3 + (1 : Int32)) L) (zgd (zin (x3 + (2 : Int32)) L) (zgd (zin (x3 + (3 : Int32)) L) (zbd (m12_hour (xs (nx (x3 + (1 : Int32)))) (xs (nx (x3 + (2 : Int32)))) (xs (nx (x3 + (3 : Int32)))) MR) (fun r178 MR178 => (if r174 = r178 then some (MC174, MR178) else none)))))))))
set_option maxHeartbeats 4000000 in
theorem mL_25_ok {p : Program} {l : Launch} {e : Env} {s : State} {m : MethodId} {args : Array Value} {below : List Frame} {meth : Method} {c : Code} {Q : State → Prop} {D : va_G} {ad : zR → Nat} {ca : Nat → ClassId} {A : Nat → Prop} {base n k : Nat} {L : Nat} {xs : Nat → Int32} {x3 : Int32} {MC MC' : cM} {MR MR' : rM} (hW : zWh zUA base ad A) (Z : zOK (zCm p l e room_1 s m args below meth c Q code 4 R_law tbL (zGL D ad ca A))) (hX : va_X (ad (2200, 0)) L xs s s.heap ∧ ad (2200, 0) < s.heap.size ∧ ¬ A (ad (2200, 0))) (hnk : n ≤ room_1.cells ∧ k ≤ room_1.slots) (h : mL_25 L xs x3 MC MR = some (MC', MR')) (K : zGo (zCm p l e room_1 s m args below meth c Q code 4 R_law tbL (zGL D ad ca A)) n k (1669, [(0, .inr (.inr (some (2200, 0)))), (1, .inr (.inr (some (11, 0)))), (2, .inr (.inr (some (12, 0)))), (3, .inl x3)], [], zmix MC' MR')) : zGo (zCm p l e room_1 s m args below meth c Q code 4 R_law tbL (zGL D ad ca A)) n k (995, [(0, .inr (.inr (some (2200, 0)))), (1, .inr (.inr (some (11, 0)))), (2, .inr (.inr (some (12, 0)))), (3, .inl x3)], [], zmix MC MR) := by
  unfold mL_25 at h
  refine zblq Z rfl [(.aload 1, 1), (.aload 0, 1), (.iload 3, 1), (.iconst 1, 1), (.iadd, 1)] (S' := (1000, [(0, .inr (.inr (some (2200, 0)))), (1, .inr (.inr (some (11, 0)))), (2, .inr (.inr (some (12, 0)))), (3, .inl x3)], [.inl (x3 + (1 : Int32)), .inr (.inr (some (2200, 0))), .inr (.inr (some (11, 0)))], zmix MC MR)) (b := true) (by decide +kernel) rfl rfl ?_
  obtain ⟨hg171, h⟩ := zgd_inv h
  refine c_sld Z hX hg171 (by decide +kernel) ?_
  refine zblq Z rfl [(.aload 0, 1), (.iload 3, 1), (.iconst 2, 1), (.iadd, 1)] (S' := (1005, [(0, .inr (.inr (some (2200, 0)))), (1, .inr (.inr (some (11, 0)))), (2, .inr (.inr (some (12, 0)))), (3, .inl x3)], [.inl (x3 + (2 : Int32)), .inr (.inr (some (2200, 0))), .inl (xs (nx (x3 + (1 : Int32)))), .inr (.inr (some (11, 0)))], zmix MC MR)) (b := true) (by decide +kernel) rfl rfl ?_
  obtain ⟨hg172, h⟩ := zgd_inv h
  refine c_sld Z hX hg172 (by decide +kernel) ?_
  refine zblq Z rfl [(.aload 0, 1), (.iload 3, 1), (.iconst 3, 1), (.iadd, 1)] (S' := (1010, [(0, .inr (.inr (some (2200, 0)))), (1, .inr (.inr (some (11, 0)))), (2, .inr (.inr (some (12, 0)))), (3, .inl x3)], [.inl (x3 + (3 : Int32)), .inr (.inr (some (2200, 0))), .inl (xs (nx (x3 + (2 : Int32)))), .inl (xs (nx (x3 + (1 : Int32)))), .inr (.inr (some (11, 0)))], zmix MC MR)) (b := true) (by decide +kernel) rfl rfl ?_
  obtain ⟨hg173, h⟩ := zgd_inv h
  refine c_sld Z hX hg173 (by decide +kernel) ?_
  obtain ⟨r174, MC174, hc174, h⟩ := zbd_inv h
  refine lw_callC hW Z (as := [.inl (xs (nx (x3 + (1 : Int32)))), .inl (xs (nx (x3 + (2 : Int32)))), .inl (xs (nx (x3 + (3 : Int32))))]) (st := []) (m11_hour_met (zGC_ok hW) rfl hc174) cwL_122 m11_hour_in m11_hour_se rfl ⟨by exact Nat.le_of_ble_eq_true rfl, by exact Nat.le_of_ble_eq_true rfl⟩ rfl (by decide +kernel) hnk ?_
  refine zblq Z rfl [(.aload 2, 1), (.aload 0, 1), (.iload 3, 1), (.iconst 1, 1), (.iadd, 1)] (S' := (1019, [(0, .inr (.inr (some (2200, 0)))), (1, .inr (.inr (some (11, 0)))), (2, .inr (.inr (some (12, 0)))), (3, .inl x3)], [.inl (x3 + (1 : Int32)), .inr (.inr (some (2200, 0))), .inr (.inr (some (12, 0))), .inl r174], zmix MC174 MR)) (b := true) (by decide +kernel) rfl rfl ?_
  obtain ⟨hg175, h⟩ := zgd_inv h
  refine c_sld Z hX hg175 (by decide +kernel) ?_
  refine zblq Z rfl [(.aload 0, 1), (.iload 3, 1), (.iconst 2, 1), (.iadd, 1)] (S' := (1024, [(0, .inr (.inr (some (2200, 0)))), (1, .inr (.inr (some (11, 0)))), (2, .inr (.inr (some (12, 0)))), (3, .inl x3)], [.inl (x3 + (2 : Int32)), .inr (.inr (some (2200, 0))), .inl (xs (nx (x3 + (1 : Int32)))), .inr (.inr (some (12, 0))), .inl r174], zmix MC174 MR)) (b := true) (by decide +kernel) rfl rfl ?_
  obtain ⟨hg176, h⟩ := zgd_inv h
  refine c_sld Z hX hg176 (by decide +kernel) ?_
  refine zblq Z rfl [(.aload 0, 1), (.iload 3, 1), (.iconst 3, 1), (.iadd, 1)] (S' := (1029, [(0, .inr (.inr (some (2200, 0)))), (1, .inr (.inr (some (11, 0)))), (2, .inr (.inr (some (12, 0)))), (3, .inl x3)], [.inl (x3 + (3 : Int32)), .inr (.inr (some (2200, 0))), .inl (xs (nx (x3 + (2 : Int32)))), .inl (xs (nx (x3 + (1 : Int32)))), .inr (.inr (some (12, 0))), .inl r174], zmix MC174 MR)) (b := true) (by decide +kernel) rfl rfl ?_
  obtain ⟨hg177, h⟩ := zgd_inv h
  refine c_sld Z hX hg177 (by decide +kernel) ?_
  obtain ⟨r178, MR178, hc178, h⟩ := zbd_inv h
  refine lw_callR hW Z (as := [.inl (xs (nx (x3 + (1 : Int32)))), .inl (xs (nx (x3 + (2 : Int32)))), .inl (xs (nx (x3 + (3 : Int32))))]) (st := [.inl r174]) (m12_hour_met (zGR_ok hW) rfl hc178) cwL_125 m12_hour_in m12_hour_se rfl ⟨by exact Nat.le_of_ble_eq_true rfl, by exact Nat.le_of_ble_eq_true rfl⟩ rfl (by decide +kernel) hnk ?_
  refine zic_eq Z (off := 636) (tgt := 1669) (by decide +kernel) (by decide) (fun hb179 => ?_) (fun hb179 => ?_)
  · replace h := zite_t h hb179
    cases h
    exact K
  · replace h := zite_f h hb179
    cases h
def mL_26 (L : Nat) (xs : Nat → Int32) (x3 : Int32) (MC : cM) (MR : rM) : Option (cM × rM) := zgd (zin (x3 + (1 : Int32)) L) (zgd (zin (x3 + (2 : Int32)) L) (zbd (m11_place (xs (nx (x3 + (1 : Int32)))) (xs (nx (x3 + (2 : Int32)))) MC) (fun r182 MC182 => zgd (zin (x3 + (1 : Int32)) L) (zgd (zin (x3 + (2 : Int32)) L) (zbd (m12_place (xs (nx (x3 + (1 : Int32)))) (xs (nx (x3 + (2 : Int32)))) MR) (fun r185 MR185 => (if r182 = r185 then some (MC182, MR185) else none)))))))
set_option maxHeartbeats 4000000 in
theorem mL_26_ok {p : Program} {l : Launch} {e : Env} {s : State} {m : MethodId} {args : Array Value} {below : List Frame} {meth : Method} {c : Code} {Q : State → Prop} {D : va_G} {ad : zR → Nat} {ca : Nat → ClassId} {A : Nat → Prop} {base n k : Nat} {L : Nat} {xs : Nat → Int32} {x3 : Int32} {MC MC' : cM} {MR MR' : rM} (hW : zWh zUA base ad A) (Z : zOK (zCm p l e room_1 s m args below meth c Q code 4 R_law tbL (zGL D ad ca A))) (hX : va_X (ad (2200, 0)) L xs s s.heap ∧ ad (2200, 0) < s.heap.size ∧ ¬ A (ad (2200, 0))) (hnk : n ≤ room_1.cells ∧ k ≤ room_1.slots) (h : mL_26 L xs x3 MC MR = some (MC', MR')) (K : zGo (zCm p l e room_1 s m args below meth c Q code 4 R_law tbL (zGL D ad ca A)) n k (1669, [(0, .inr (.inr (some (2200, 0)))), (1, .inr (.inr (some (11, 0)))), (2, .inr (.inr (some (12, 0)))), (3, .inl x3)], [], zmix MC' MR')) : zGo (zCm p l e room_1 s m args below meth c Q code 4 R_law tbL (zGL D ad ca A)) n k (1038, [(0, .inr (.inr (some (2200, 0)))), (1, .inr (.inr (some (11, 0)))), (2, .inr (.inr (some (12, 0)))), (3, .inl x3)], [], zmix MC MR) := by
  unfold mL_26 at h
  refine zblq Z rfl [(.aload 1, 1), (.aload 0, 1), (.iload 3, 1), (.iconst 1, 1), (.iadd, 1)] (S' := (1043, [(0, .inr (.inr (some (2200, 0)))), (1, .inr (.inr (some (11, 0)))), (2, .inr (.inr (some (12, 0)))), (3, .inl x3)], [.inl (x3 + (1 : Int32)), .inr (.inr (some (2200, 0))), .inr (.inr (some (11, 0)))], zmix MC MR)) (b := true) (by decide +kernel) rfl rfl ?_
  obtain ⟨hg180, h⟩ := zgd_inv h
  refine c_sld Z hX hg180 (by decide +kernel) ?_
  refine zblq Z rfl [(.aload 0, 1), (.iload 3, 1), (.iconst 2, 1), (.iadd, 1)] (S' := (1048, [(0, .inr (.inr (some (2200, 0)))), (1, .inr (.inr (some (11, 0)))), (2, .inr (.inr (some (12, 0)))), (3, .inl x3)], [.inl (x3 + (2 : Int32)), .inr (.inr (some (2200, 0))), .inl (xs (nx (x3 + (1 : Int32)))), .inr (.inr (some (11, 0)))], zmix MC MR)) (b := true) (by decide +kernel) rfl rfl ?_
  obtain ⟨hg181, h⟩ := zgd_inv h
  refine c_sld Z hX hg181 (by decide +kernel) ?_
  obtain ⟨r182, MC182, hc182, h⟩ := zbd_inv h
  refine lw_callC hW Z (as := [.inl (xs (nx (x3 + (1 : Int32)))), .inl (xs (nx (x3 + (2 : Int32))))]) (st := []) (m11_place_met (zGC_ok hW) rfl hc182) cwL_126 m11_place_in m11_place_se rfl ⟨by exact Nat.le_of_ble_eq_true rfl, by exact Nat.le_of_ble_eq_true rfl⟩ rfl (by decide +kernel) hnk ?_
  refine zblq Z rfl [(.aload 2, 1), (.aload 0, 1), (.iload 3, 1), (.iconst 1, 1), (.iadd, 1)] (S' := (1057, [(0, .inr (.inr (some (2200, 0)))), (1, .inr (.inr (some (11, 0)))), (2, .inr (.inr (some (12, 0)))), (3, .inl x3)], [.inl (x3 + (1 : Int32)), .inr (.inr (some (2200, 0))), .inr (.inr (some (12, 0))), .inl r182], zmix MC182 MR)) (b := true) (by decide +kernel) rfl rfl ?_
  obtain ⟨hg183, h⟩ := zgd_inv h
  refine c_sld Z hX hg183 (by decide +kernel) ?_
  refine zblq Z rfl [(.aload 0, 1), (.iload 3, 1), (.iconst 2, 1), (.iadd, 1)] (S' := (1062, [(0, .inr (.inr (some (2200, 0)))), (1, .inr (.inr (some (11, 0)))), (2, .inr (.inr (some (12, 0)))), (3, .inl x3)], [.inl (x3 + (2 : Int32)), .inr (.inr (some (2200, 0))), .inl (xs (nx (x3 + (1 : Int32)))), .inr (.inr (some (12, 0))), .inl r182], zmix MC182 MR)) (b := true) (by decide +kernel) rfl rfl ?_
  obtain ⟨hg184, h⟩ := zgd_inv h
  refine c_sld Z hX hg184 (by decide +kernel) ?_
  obtain ⟨r185, MR185, hc185, h⟩ := zbd_inv h
  refine lw_callR hW Z (as := [.inl (xs (nx (x3 + (1 : Int32)))), .inl (xs (nx (x3 + (2 : Int32))))]) (st := [.inl r182]) (m12_place_met (zGR_ok hW) rfl hc185) cwL_129 m12_place_in m12_place_se rfl ⟨by exact Nat.le_of_ble_eq_true rfl, by exact Nat.le_of_ble_eq_true rfl⟩ rfl (by decide +kernel) hnk ?_
  refine zic_eq Z (off := 603) (tgt := 1669) (by decide +kernel) (by decide) (fun hb186 => ?_) (fun hb186 => ?_)
  · replace h := zite_t h hb186
    cases h
    exact K
  · replace h := zite_f h hb186
    cases h
def mL_27 (L : Nat) (xs : Nat → Int32) (x3 : Int32) (MC : cM) (MR : rM) : Option (cM × rM) := zgd (zin (x3 + (1 : Int32)) L) (zgd (zin (x3 + (2 : Int32)) L) (zbd (m11_cells (xs (nx (x3 + (1 : Int32)))) (xs (nx (x3 + (2 : Int32)))) MC) (fun r189 MC189 => zgd (zin (x3 + (1 : Int32)) L) (zgd (zin (x3 + (2 : Int32)) L) (zbd (m12_cells (xs (nx (x3 + (1 : Int32)))) (xs (nx (x3 + (2 : Int32)))) MR) (fun r192 MR192 => (if (lg_cmp r189 r192) = 0 then some (MC189, MR192) else none)))))))
set_option maxHeartbeats 4000000 in
theorem mL_27_ok {p : Program} {l : Launch} {e : Env} {s : State} {m : MethodId} {args : Array Value} {below : List Frame} {meth : Method} {c : Code} {Q : State → Prop} {D : va_G} {ad : zR → Nat} {ca : Nat → ClassId} {A : Nat → Prop} {base n k : Nat} {L : Nat} {xs : Nat → Int32} {x3 : Int32} {MC MC' : cM} {MR MR' : rM} (hW : zWh zUA base ad A) (Z : zOK (zCm p l e room_1 s m args below meth c Q code 4 R_law tbL (zGL D ad ca A))) (hX : va_X (ad (2200, 0)) L xs s s.heap ∧ ad (2200, 0) < s.heap.size ∧ ¬ A (ad (2200, 0))) (hnk : n ≤ room_1.cells ∧ k ≤ room_1.slots) (h : mL_27 L xs x3 MC MR = some (MC', MR')) (K : zGo (zCm p l e room_1 s m args below meth c Q code 4 R_law tbL (zGL D ad ca A)) n k (1669, [(0, .inr (.inr (some (2200, 0)))), (1, .inr (.inr (some (11, 0)))), (2, .inr (.inr (some (12, 0)))), (3, .inl x3)], [], zmix MC' MR')) : zGo (zCm p l e room_1 s m args below meth c Q code 4 R_law tbL (zGL D ad ca A)) n k (1071, [(0, .inr (.inr (some (2200, 0)))), (1, .inr (.inr (some (11, 0)))), (2, .inr (.inr (some (12, 0)))), (3, .inl x3)], [], zmix MC MR) := by
  unfold mL_27 at h
  refine zblq Z rfl [(.aload 1, 1), (.aload 0, 1), (.iload 3, 1), (.iconst 1, 1), (.iadd, 1)] (S' := (1076, [(0, .inr (.inr (some (2200, 0)))), (1, .inr (.inr (some (11, 0)))), (2, .inr (.inr (some (12, 0)))), (3, .inl x3)], [.inl (x3 + (1 : Int32)), .inr (.inr (some (2200, 0))), .inr (.inr (some (11, 0)))], zmix MC MR)) (b := true) (by decide +kernel) rfl rfl ?_
  obtain ⟨hg187, h⟩ := zgd_inv h
  refine c_sld Z hX hg187 (by decide +kernel) ?_
  refine zblq Z rfl [(.aload 0, 1), (.iload 3, 1), (.iconst 2, 1), (.iadd, 1)] (S' := (1081, [(0, .inr (.inr (some (2200, 0)))), (1, .inr (.inr (some (11, 0)))), (2, .inr (.inr (some (12, 0)))), (3, .inl x3)], [.inl (x3 + (2 : Int32)), .inr (.inr (some (2200, 0))), .inl (xs (nx (x3 + (1 : Int32)))), .inr (.inr (some (11, 0)))], zmix MC MR)) (b := true) (by decide +kernel) rfl rfl ?_
  obtain ⟨hg188, h⟩ := zgd_inv h
  refine c_sld Z hX hg188 (by decide +kernel) ?_
  obtain ⟨r189, MC189, hc189, h⟩ := zbd_inv h
  refine lw_callC hW Z (as := [.inl (xs (nx (x3 + (1 : Int32)))), .inl (xs (nx (x3 + (2 : Int32))))]) (st := []) (m11_cells_met (zGC_ok hW) rfl hc189) cwL_130 m11_cells_in m11_cells_se rfl ⟨by exact Nat.le_of_ble_eq_true rfl, by exact Nat.le_of_ble_eq_true rfl⟩ rfl (by decide +kernel) hnk ?_
  refine zblq Z rfl [(.aload 2, 1), (.aload 0, 1), (.iload 3, 1), (.iconst 1, 1), (.iadd, 1)] (S' := (1090, [(0, .inr (.inr (some (2200, 0)))), (1, .inr (.inr (some (11, 0)))), (2, .inr (.inr (some (12, 0)))), (3, .inl x3)], [.inl (x3 + (1 : Int32)), .inr (.inr (some (2200, 0))), .inr (.inr (some (12, 0))), .inr (.inl r189)], zmix MC189 MR)) (b := true) (by decide +kernel) rfl rfl ?_
  obtain ⟨hg190, h⟩ := zgd_inv h
  refine c_sld Z hX hg190 (by decide +kernel) ?_
  refine zblq Z rfl [(.aload 0, 1), (.iload 3, 1), (.iconst 2, 1), (.iadd, 1)] (S' := (1095, [(0, .inr (.inr (some (2200, 0)))), (1, .inr (.inr (some (11, 0)))), (2, .inr (.inr (some (12, 0)))), (3, .inl x3)], [.inl (x3 + (2 : Int32)), .inr (.inr (some (2200, 0))), .inl (xs (nx (x3 + (1 : Int32)))), .inr (.inr (some (12, 0))), .inr (.inl r189)], zmix MC189 MR)) (b := true) (by decide +kernel) rfl rfl ?_
  obtain ⟨hg191, h⟩ := zgd_inv h
  refine c_sld Z hX hg191 (by decide +kernel) ?_
  obtain ⟨r192, MR192, hc192, h⟩ := zbd_inv h
  refine lw_callR hW Z (as := [.inl (xs (nx (x3 + (1 : Int32)))), .inl (xs (nx (x3 + (2 : Int32))))]) (st := [.inr (.inl r189)]) (m12_cells_met (zGR_ok hW) rfl hc192) cwL_134 m12_cells_in m12_cells_se rfl ⟨by exact Nat.le_of_ble_eq_true rfl, by exact Nat.le_of_ble_eq_true rfl⟩ rfl (by decide +kernel) hnk ?_
  refine zblq Z rfl [(.lcmp, 1)] (S' := (1100, [(0, .inr (.inr (some (2200, 0)))), (1, .inr (.inr (some (11, 0)))), (2, .inr (.inr (some (12, 0)))), (3, .inl x3)], [.inl (lg_cmp r189 r192)], zmix MC189 MR192)) (b := true) (by decide +kernel) rfl rfl ?_
  refine zif_eq Z (off := 569) (tgt := 1669) (by decide +kernel) (by decide) (fun hb193 => ?_) (fun hb193 => ?_)
  · replace h := zite_t h hb193
    cases h
    exact K
  · replace h := zite_f h hb193
    cases h
def mL_28 (L : Nat) (xs : Nat → Int32) (x3 : Int32) (MC : cM) (MR : rM) : Option (cM × rM) := zgd (zin (x3 + (1 : Int32)) L) (zgd (zin (x3 + (2 : Int32)) L) (zgd (zin (x3 + (3 : Int32)) L) (zbd (m11_program (xs (nx (x3 + (1 : Int32)))) ((zshlL (Int32.toInt64 (xs (nx (x3 + (2 : Int32))))) (32 : Int32)) ||| ((Int32.toInt64 (xs (nx (x3 + (3 : Int32))))) &&& (4294967295 : Int64))) MC) (fun r197 MC197 => zgd (zin (x3 + (1 : Int32)) L) (zgd (zin (x3 + (2 : Int32)) L) (zgd (zin (x3 + (3 : Int32)) L) (zbd (m12_program (xs (nx (x3 + (1 : Int32)))) ((zshlL (Int32.toInt64 (xs (nx (x3 + (2 : Int32))))) (32 : Int32)) ||| ((Int32.toInt64 (xs (nx (x3 + (3 : Int32))))) &&& (4294967295 : Int64))) MR) (fun r201 MR201 => (if r197 = r201 then some (MC197, MR201) else none)))))))))
set_option maxHeartbeats 4000000 in
theorem mL_28_ok {p : Program} {l : Launch} {e : Env} {s : State} {m : MethodId} {args : Array Value} {below : List Frame} {meth : Method} {c : Code} {Q : State → Prop} {D : va_G} {ad : zR → Nat} {ca : Nat → ClassId} {A : Nat → Prop} {base n k : Nat} {L : Nat} {xs : Nat → Int32} {x3 : Int32} {MC MC' : cM} {MR MR' : rM} (hW : zWh zUA base ad A) (Z : zOK (zCm p l e room_1 s m args below meth c Q code 4 R_law tbL (zGL D ad ca A))) (hX : va_X (ad (2200, 0)) L xs s s.heap ∧ ad (2200, 0) < s.heap.size ∧ ¬ A (ad (2200, 0))) (hnk : n ≤ room_1.cells ∧ k ≤ room_1.slots) (h : mL_28 L xs x3 MC MR = some (MC', MR')) (K : zGo (zCm p l e room_1 s m args below meth c Q code 4 R_law tbL (zGL D ad ca A)) n k (1669, [(0, .inr (.inr (some (2200, 0)))), (1, .inr (.inr (some (11, 0)))), (2, .inr (.inr (some (12, 0)))), (3, .inl x3)], [], zmix MC' MR')) : zGo (zCm p l e room_1 s m args below meth c Q code 4 R_law tbL (zGL D ad ca A)) n k (1105, [(0, .inr (.inr (some (2200, 0)))), (1, .inr (.inr (some (11, 0)))), (2, .inr (.inr (some (12, 0)))), (3, .inl x3)], [], zmix MC MR) := by
  unfold mL_28 at h
  refine zblq Z rfl [(.aload 1, 1), (.aload 0, 1), (.iload 3, 1), (.iconst 1, 1), (.iadd, 1)] (S' := (1110, [(0, .inr (.inr (some (2200, 0)))), (1, .inr (.inr (some (11, 0)))), (2, .inr (.inr (some (12, 0)))), (3, .inl x3)], [.inl (x3 + (1 : Int32)), .inr (.inr (some (2200, 0))), .inr (.inr (some (11, 0)))], zmix MC MR)) (b := true) (by decide +kernel) rfl rfl ?_
  obtain ⟨hg194, h⟩ := zgd_inv h
  refine c_sld Z hX hg194 (by decide +kernel) ?_
  refine zblq Z rfl [(.aload 0, 1), (.iload 3, 1), (.iconst 2, 1), (.iadd, 1)] (S' := (1115, [(0, .inr (.inr (some (2200, 0)))), (1, .inr (.inr (some (11, 0)))), (2, .inr (.inr (some (12, 0)))), (3, .inl x3)], [.inl (x3 + (2 : Int32)), .inr (.inr (some (2200, 0))), .inl (xs (nx (x3 + (1 : Int32)))), .inr (.inr (some (11, 0)))], zmix MC MR)) (b := true) (by decide +kernel) rfl rfl ?_
  obtain ⟨hg195, h⟩ := zgd_inv h
  refine c_sld Z hX hg195 (by decide +kernel) ?_
  refine zblq Z rfl [(.i2l, 1), (.iconst 32, 2), (.lshl, 1), (.aload 0, 1), (.iload 3, 1), (.iconst 3, 1), (.iadd, 1)] (S' := (1124, [(0, .inr (.inr (some (2200, 0)))), (1, .inr (.inr (some (11, 0)))), (2, .inr (.inr (some (12, 0)))), (3, .inl x3)], [.inl (x3 + (3 : Int32)), .inr (.inr (some (2200, 0))), .inr (.inl (zshlL (Int32.toInt64 (xs (nx (x3 + (2 : Int32))))) (32 : Int32))), .inl (xs (nx (x3 + (1 : Int32)))), .inr (.inr (some (11, 0)))], zmix MC MR)) (b := true) (by decide +kernel) rfl rfl ?_
  obtain ⟨hg196, h⟩ := zgd_inv h
  refine c_sld Z hX hg196 (by decide +kernel) ?_
  refine zblq Z rfl [(.i2l, 1), (.goto_w 4294967295, 3), (.land, 1), (.lor, 1)] (S' := (1131, [(0, .inr (.inr (some (2200, 0)))), (1, .inr (.inr (some (11, 0)))), (2, .inr (.inr (some (12, 0)))), (3, .inl x3)], [.inr (.inl ((zshlL (Int32.toInt64 (xs (nx (x3 + (2 : Int32))))) (32 : Int32)) ||| ((Int32.toInt64 (xs (nx (x3 + (3 : Int32))))) &&& (4294967295 : Int64)))), .inl (xs (nx (x3 + (1 : Int32)))), .inr (.inr (some (11, 0)))], zmix MC MR)) (b := true) (by decide +kernel) rfl rfl ?_
  obtain ⟨r197, MC197, hc197, h⟩ := zbd_inv h
  refine lw_callC hW Z (as := [.inl (xs (nx (x3 + (1 : Int32)))), .inr (.inl ((zshlL (Int32.toInt64 (xs (nx (x3 + (2 : Int32))))) (32 : Int32)) ||| ((Int32.toInt64 (xs (nx (x3 + (3 : Int32))))) &&& (4294967295 : Int64))))]) (st := []) (m11_program_met (zGC_ok hW) rfl hc197) cwL_135 m11_program_in m11_program_se rfl ⟨by exact Nat.le_of_ble_eq_true rfl, by exact Nat.le_of_ble_eq_true rfl⟩ rfl (by decide +kernel) hnk ?_
  refine zblq Z rfl [(.aload 2, 1), (.aload 0, 1), (.iload 3, 1), (.iconst 1, 1), (.iadd, 1)] (S' := (1139, [(0, .inr (.inr (some (2200, 0)))), (1, .inr (.inr (some (11, 0)))), (2, .inr (.inr (some (12, 0)))), (3, .inl x3)], [.inl (x3 + (1 : Int32)), .inr (.inr (some (2200, 0))), .inr (.inr (some (12, 0))), .inl r197], zmix MC197 MR)) (b := true) (by decide +kernel) rfl rfl ?_
  obtain ⟨hg198, h⟩ := zgd_inv h
  refine c_sld Z hX hg198 (by decide +kernel) ?_
  refine zblq Z rfl [(.aload 0, 1), (.iload 3, 1), (.iconst 2, 1), (.iadd, 1)] (S' := (1144, [(0, .inr (.inr (some (2200, 0)))), (1, .inr (.inr (some (11, 0)))), (2, .inr (.inr (some (12, 0)))), (3, .inl x3)], [.inl (x3 + (2 : Int32)), .inr (.inr (some (2200, 0))), .inl (xs (nx (x3 + (1 : Int32)))), .inr (.inr (some (12, 0))), .inl r197], zmix MC197 MR)) (b := true) (by decide +kernel) rfl rfl ?_
  obtain ⟨hg199, h⟩ := zgd_inv h
  refine c_sld Z hX hg199 (by decide +kernel) ?_
  refine zblq Z rfl [(.i2l, 1), (.iconst 32, 2), (.lshl, 1), (.aload 0, 1), (.iload 3, 1), (.iconst 3, 1), (.iadd, 1)] (S' := (1153, [(0, .inr (.inr (some (2200, 0)))), (1, .inr (.inr (some (11, 0)))), (2, .inr (.inr (some (12, 0)))), (3, .inl x3)], [.inl (x3 + (3 : Int32)), .inr (.inr (some (2200, 0))), .inr (.inl (zshlL (Int32.toInt64 (xs (nx (x3 + (2 : Int32))))) (32 : Int32))), .inl (xs (nx (x3 + (1 : Int32)))), .inr (.inr (some (12, 0))), .inl r197], zmix MC197 MR)) (b := true) (by decide +kernel) rfl rfl ?_
  obtain ⟨hg200, h⟩ := zgd_inv h
  refine c_sld Z hX hg200 (by decide +kernel) ?_
  refine zblq Z rfl [(.i2l, 1), (.goto_w 4294967295, 3), (.land, 1), (.lor, 1)] (S' := (1160, [(0, .inr (.inr (some (2200, 0)))), (1, .inr (.inr (some (11, 0)))), (2, .inr (.inr (some (12, 0)))), (3, .inl x3)], [.inr (.inl ((zshlL (Int32.toInt64 (xs (nx (x3 + (2 : Int32))))) (32 : Int32)) ||| ((Int32.toInt64 (xs (nx (x3 + (3 : Int32))))) &&& (4294967295 : Int64)))), .inl (xs (nx (x3 + (1 : Int32)))), .inr (.inr (some (12, 0))), .inl r197], zmix MC197 MR)) (b := true) (by decide +kernel) rfl rfl ?_
  obtain ⟨r201, MR201, hc201, h⟩ := zbd_inv h
  refine lw_callR hW Z (as := [.inl (xs (nx (x3 + (1 : Int32)))), .inr (.inl ((zshlL (Int32.toInt64 (xs (nx (x3 + (2 : Int32))))) (32 : Int32)) ||| ((Int32.toInt64 (xs (nx (x3 + (3 : Int32))))) &&& (4294967295 : Int64))))]) (st := [.inl r197]) (m12_program_met (zGR_ok hW) rfl hc201) cwL_139 m12_program_in m12_program_se rfl ⟨by exact Nat.le_of_ble_eq_true rfl, by exact Nat.le_of_ble_eq_true rfl⟩ rfl (by decide +kernel) hnk ?_
  refine zic_eq Z (off := 506) (tgt := 1669) (by decide +kernel) (by decide) (fun hb202 => ?_) (fun hb202 => ?_)
  · replace h := zite_t h hb202
    cases h
    exact K
  · replace h := zite_f h hb202
    cases h
def mL_29 (L : Nat) (xs : Nat → Int32) (x3 : Int32) (MC : cM) (MR : rM) : Option (cM × rM) := zbd (m11_hand MC) (fun r203 MC203 => zbd (m12_hand MR) (fun r204 MR204 => (if r203 = r204 then some (MC203, MR204) else none)))
set_option maxHeartbeats 4000000 in
theorem mL_29_ok {p : Program} {l : Launch} {e : Env} {s : State} {m : MethodId} {args : Array Value} {below : List Frame} {meth : Method} {c : Code} {Q : State → Prop} {D : va_G} {ad : zR → Nat} {ca : Nat → ClassId} {A : Nat → Prop} {base n k : Nat} {L : Nat} {xs : Nat → Int32} {x3 : Int32} {MC MC' : cM} {MR MR' : rM} (hW : zWh zUA base ad A) (Z : zOK (zCm p l e room_1 s m args below meth c Q code 4 R_law tbL (zGL D ad ca A))) (hX : va_X (ad (2200, 0)) L xs s s.heap ∧ ad (2200, 0) < s.heap.size ∧ ¬ A (ad (2200, 0))) (hnk : n ≤ room_1.cells ∧ k ≤ room_1.slots) (h : mL_29 L xs x3 MC MR = some (MC', MR')) (K : zGo (zCm p l e room_1 s m args below meth c Q code 4 R_law tbL (zGL D ad ca A)) n k (1669, [(0, .inr (.inr (some (2200, 0)))), (1, .inr (.inr (some (11, 0)))), (2, .inr (.inr (some (12, 0)))), (3, .inl x3)], [], zmix MC' MR')) : zGo (zCm p l e room_1 s m args below meth c Q code 4 R_law tbL (zGL D ad ca A)) n k (1168, [(0, .inr (.inr (some (2200, 0)))), (1, .inr (.inr (some (11, 0)))), (2, .inr (.inr (some (12, 0)))), (3, .inl x3)], [], zmix MC MR) := by
  unfold mL_29 at h
  refine zblq Z rfl [(.aload 1, 1)] (S' := (1169, [(0, .inr (.inr (some (2200, 0)))), (1, .inr (.inr (some (11, 0)))), (2, .inr (.inr (some (12, 0)))), (3, .inl x3)], [.inr (.inr (some (11, 0)))], zmix MC MR)) (b := true) (by decide +kernel) rfl rfl ?_
  obtain ⟨r203, MC203, hc203, h⟩ := zbd_inv h
  refine lw_callC hW Z (as := []) (st := []) (m11_hand_met (zGC_ok hW) rfl hc203) cwL_140 m11_hand_in m11_hand_se rfl ⟨by exact Nat.le_of_ble_eq_true rfl, by exact Nat.le_of_ble_eq_true rfl⟩ rfl (by decide +kernel) hnk ?_
  refine zblq Z rfl [(.aload 2, 1)] (S' := (1173, [(0, .inr (.inr (some (2200, 0)))), (1, .inr (.inr (some (11, 0)))), (2, .inr (.inr (some (12, 0)))), (3, .inl x3)], [.inr (.inr (some (12, 0))), .inl r203], zmix MC203 MR)) (b := true) (by decide +kernel) rfl rfl ?_
  obtain ⟨r204, MR204, hc204, h⟩ := zbd_inv h
  refine lw_callR hW Z (as := []) (st := [.inl r203]) (m12_hand_met (zGR_ok hW) rfl hc204) cwL_143 m12_hand_in m12_hand_se rfl ⟨by exact Nat.le_of_ble_eq_true rfl, by exact Nat.le_of_ble_eq_true rfl⟩ rfl (by decide +kernel) hnk ?_
  refine zic_eq Z (off := 493) (tgt := 1669) (by decide +kernel) (by decide) (fun hb205 => ?_) (fun hb205 => ?_)
  · replace h := zite_t h hb205
    cases h
    exact K
  · replace h := zite_f h hb205
    cases h
def mL_30 (L : Nat) (xs : Nat → Int32) (x3 : Int32) (MC : cM) (MR : rM) : Option (cM × rM) := zgd (zin (x3 + (1 : Int32)) L) (zgd (zin (x3 + (2 : Int32)) L) (zgd (zin (x3 + (3 : Int32)) L) (zbd (m11_tear (xs (nx (x3 + (1 : Int32)))) (xs (nx (x3 + (2 : Int32)))) (xs (nx (x3 + (3 : Int32)))) MC) (fun r209 MC209 => zgd (zin (x3 + (1 : Int32)) L) (zgd (zin (x3 + (2 : Int32)) L) (zgd (zin (x3 + (3 : Int32)) L) (zbd (m12_tear (xs (nx (x3 + (1 : Int32)))) (xs (nx (x3 + (2 : Int32)))) (xs (nx (x3 + (3 : Int32)))) MR) (fun r213 MR213 => (if r209 = r213 then some (MC209, MR213) else none)))))))))
set_option maxHeartbeats 4000000 in
theorem mL_30_ok {p : Program} {l : Launch} {e : Env} {s : State} {m : MethodId} {args : Array Value} {below : List Frame} {meth : Method} {c : Code} {Q : State → Prop} {D : va_G} {ad : zR → Nat} {ca : Nat → ClassId} {A : Nat → Prop} {base n k : Nat} {L : Nat} {xs : Nat → Int32} {x3 : Int32} {MC MC' : cM} {MR MR' : rM} (hW : zWh zUA base ad A) (Z : zOK (zCm p l e room_1 s m args below meth c Q code 4 R_law tbL (zGL D ad ca A))) (hX : va_X (ad (2200, 0)) L xs s s.heap ∧ ad (2200, 0) < s.heap.size ∧ ¬ A (ad (2200, 0))) (hnk : n ≤ room_1.cells ∧ k ≤ room_1.slots) (h : mL_30 L xs x3 MC MR = some (MC', MR')) (K : zGo (zCm p l e room_1 s m args below meth c Q code 4 R_law tbL (zGL D ad ca A)) n k (1669, [(0, .inr (.inr (some (2200, 0)))), (1, .inr (.inr (some (11, 0)))), (2, .inr (.inr (some (12, 0)))), (3, .inl x3)], [], zmix MC' MR')) : zGo (zCm p l e room_1 s m args below meth c Q code 4 R_law tbL (zGL D ad ca A)) n k (1181, [(0, .inr (.inr (some (2200, 0)))), (1, .inr (.inr (some (11, 0)))), (2, .inr (.inr (some (12, 0)))), (3, .inl x3)], [], zmix MC MR) := by
  unfold mL_30 at h
  refine zblq Z rfl [(.aload 1, 1), (.aload 0, 1), (.iload 3, 1), (.iconst 1, 1), (.iadd, 1)] (S' := (1186, [(0, .inr (.inr (some (2200, 0)))), (1, .inr (.inr (some (11, 0)))), (2, .inr (.inr (some (12, 0)))), (3, .inl x3)], [.inl (x3 + (1 : Int32)), .inr (.inr (some (2200, 0))), .inr (.inr (some (11, 0)))], zmix MC MR)) (b := true) (by decide +kernel) rfl rfl ?_
  obtain ⟨hg206, h⟩ := zgd_inv h
  refine c_sld Z hX hg206 (by decide +kernel) ?_
  refine zblq Z rfl [(.aload 0, 1), (.iload 3, 1), (.iconst 2, 1), (.iadd, 1)] (S' := (1191, [(0, .inr (.inr (some (2200, 0)))), (1, .inr (.inr (some (11, 0)))), (2, .inr (.inr (some (12, 0)))), (3, .inl x3)], [.inl (x3 + (2 : Int32)), .inr (.inr (some (2200, 0))), .inl (xs (nx (x3 + (1 : Int32)))), .inr (.inr (some (11, 0)))], zmix MC MR)) (b := true) (by decide +kernel) rfl rfl ?_
  obtain ⟨hg207, h⟩ := zgd_inv h
  refine c_sld Z hX hg207 (by decide +kernel) ?_
  refine zblq Z rfl [(.aload 0, 1), (.iload 3, 1), (.iconst 3, 1), (.iadd, 1)] (S' := (1196, [(0, .inr (.inr (some (2200, 0)))), (1, .inr (.inr (some (11, 0)))), (2, .inr (.inr (some (12, 0)))), (3, .inl x3)], [.inl (x3 + (3 : Int32)), .inr (.inr (some (2200, 0))), .inl (xs (nx (x3 + (2 : Int32)))), .inl (xs (nx (x3 + (1 : Int32)))), .inr (.inr (some (11, 0)))], zmix MC MR)) (b := true) (by decide +kernel) rfl rfl ?_
  obtain ⟨hg208, h⟩ := zgd_inv h
  refine c_sld Z hX hg208 (by decide +kernel) ?_
  obtain ⟨r209, MC209, hc209, h⟩ := zbd_inv h
  refine lw_callC hW Z (as := [.inl (xs (nx (x3 + (1 : Int32)))), .inl (xs (nx (x3 + (2 : Int32)))), .inl (xs (nx (x3 + (3 : Int32))))]) (st := []) (m11_tear_met (zGC_ok hW) rfl hc209) cwL_144 m11_tear_in m11_tear_se rfl ⟨by exact Nat.le_of_ble_eq_true rfl, by exact Nat.le_of_ble_eq_true rfl⟩ rfl (by decide +kernel) hnk ?_
  refine zblq Z rfl [(.aload 2, 1), (.aload 0, 1), (.iload 3, 1), (.iconst 1, 1), (.iadd, 1)] (S' := (1205, [(0, .inr (.inr (some (2200, 0)))), (1, .inr (.inr (some (11, 0)))), (2, .inr (.inr (some (12, 0)))), (3, .inl x3)], [.inl (x3 + (1 : Int32)), .inr (.inr (some (2200, 0))), .inr (.inr (some (12, 0))), .inl r209], zmix MC209 MR)) (b := true) (by decide +kernel) rfl rfl ?_
  obtain ⟨hg210, h⟩ := zgd_inv h
  refine c_sld Z hX hg210 (by decide +kernel) ?_
  refine zblq Z rfl [(.aload 0, 1), (.iload 3, 1), (.iconst 2, 1), (.iadd, 1)] (S' := (1210, [(0, .inr (.inr (some (2200, 0)))), (1, .inr (.inr (some (11, 0)))), (2, .inr (.inr (some (12, 0)))), (3, .inl x3)], [.inl (x3 + (2 : Int32)), .inr (.inr (some (2200, 0))), .inl (xs (nx (x3 + (1 : Int32)))), .inr (.inr (some (12, 0))), .inl r209], zmix MC209 MR)) (b := true) (by decide +kernel) rfl rfl ?_
  obtain ⟨hg211, h⟩ := zgd_inv h
  refine c_sld Z hX hg211 (by decide +kernel) ?_
  refine zblq Z rfl [(.aload 0, 1), (.iload 3, 1), (.iconst 3, 1), (.iadd, 1)] (S' := (1215, [(0, .inr (.inr (some (2200, 0)))), (1, .inr (.inr (some (11, 0)))), (2, .inr (.inr (some (12, 0)))), (3, .inl x3)], [.inl (x3 + (3 : Int32)), .inr (.inr (some (2200, 0))), .inl (xs (nx (x3 + (2 : Int32)))), .inl (xs (nx (x3 + (1 : Int32)))), .inr (.inr (some (12, 0))), .inl r209], zmix MC209 MR)) (b := true) (by decide +kernel) rfl rfl ?_
  obtain ⟨hg212, h⟩ := zgd_inv h
  refine c_sld Z hX hg212 (by decide +kernel) ?_
  obtain ⟨r213, MR213, hc213, h⟩ := zbd_inv h
  refine lw_callR hW Z (as := [.inl (xs (nx (x3 + (1 : Int32)))), .inl (xs (nx (x3 + (2 : Int32)))), .inl (xs (nx (x3 + (3 : Int32))))]) (st := [.inl r209]) (m12_tear_met (zGR_ok hW) rfl hc213) cwL_147 m12_tear_in m12_tear_se rfl ⟨by exact Nat.le_of_ble_eq_true rfl, by exact Nat.le_of_ble_eq_true rfl⟩ rfl (by decide +kernel) hnk ?_
  refine zic_eq Z (off := 450) (tgt := 1669) (by decide +kernel) (by decide) (fun hb214 => ?_) (fun hb214 => ?_)
  · replace h := zite_t h hb214
    cases h
    exact K
  · replace h := zite_f h hb214
    cases h
def mL_31 (L : Nat) (xs : Nat → Int32) (x3 : Int32) (MC : cM) (MR : rM) : Option (cM × rM) := zgd (zin (x3 + (1 : Int32)) L) (zgd (zin (x3 + (2 : Int32)) L) (zbd (m11_has (xs (nx (x3 + (1 : Int32)))) (xs (nx (x3 + (2 : Int32)))) MC) (fun r217 MC217 => zgd (zin (x3 + (1 : Int32)) L) (zgd (zin (x3 + (2 : Int32)) L) (zbd (m12_has (xs (nx (x3 + (1 : Int32)))) (xs (nx (x3 + (2 : Int32)))) MR) (fun r220 MR220 => (if r217 = r220 then some (MC217, MR220) else none)))))))
set_option maxHeartbeats 4000000 in
theorem mL_31_ok {p : Program} {l : Launch} {e : Env} {s : State} {m : MethodId} {args : Array Value} {below : List Frame} {meth : Method} {c : Code} {Q : State → Prop} {D : va_G} {ad : zR → Nat} {ca : Nat → ClassId} {A : Nat → Prop} {base n k : Nat} {L : Nat} {xs : Nat → Int32} {x3 : Int32} {MC MC' : cM} {MR MR' : rM} (hW : zWh zUA base ad A) (Z : zOK (zCm p l e room_1 s m args below meth c Q code 4 R_law tbL (zGL D ad ca A))) (hX : va_X (ad (2200, 0)) L xs s s.heap ∧ ad (2200, 0) < s.heap.size ∧ ¬ A (ad (2200, 0))) (hnk : n ≤ room_1.cells ∧ k ≤ room_1.slots) (h : mL_31 L xs x3 MC MR = some (MC', MR')) (K : zGo (zCm p l e room_1 s m args below meth c Q code 4 R_law tbL (zGL D ad ca A)) n k (1669, [(0, .inr (.inr (some (2200, 0)))), (1, .inr (.inr (some (11, 0)))), (2, .inr (.inr (some (12, 0)))), (3, .inl x3)], [], zmix MC' MR')) : zGo (zCm p l e room_1 s m args below meth c Q code 4 R_law tbL (zGL D ad ca A)) n k (1224, [(0, .inr (.inr (some (2200, 0)))), (1, .inr (.inr (some (11, 0)))), (2, .inr (.inr (some (12, 0)))), (3, .inl x3)], [], zmix MC MR) := by
  unfold mL_31 at h
  refine zblq Z rfl [(.aload 1, 1), (.aload 0, 1), (.iload 3, 1), (.iconst 1, 1), (.iadd, 1)] (S' := (1229, [(0, .inr (.inr (some (2200, 0)))), (1, .inr (.inr (some (11, 0)))), (2, .inr (.inr (some (12, 0)))), (3, .inl x3)], [.inl (x3 + (1 : Int32)), .inr (.inr (some (2200, 0))), .inr (.inr (some (11, 0)))], zmix MC MR)) (b := true) (by decide +kernel) rfl rfl ?_
  obtain ⟨hg215, h⟩ := zgd_inv h
  refine c_sld Z hX hg215 (by decide +kernel) ?_
  refine zblq Z rfl [(.aload 0, 1), (.iload 3, 1), (.iconst 2, 1), (.iadd, 1)] (S' := (1234, [(0, .inr (.inr (some (2200, 0)))), (1, .inr (.inr (some (11, 0)))), (2, .inr (.inr (some (12, 0)))), (3, .inl x3)], [.inl (x3 + (2 : Int32)), .inr (.inr (some (2200, 0))), .inl (xs (nx (x3 + (1 : Int32)))), .inr (.inr (some (11, 0)))], zmix MC MR)) (b := true) (by decide +kernel) rfl rfl ?_
  obtain ⟨hg216, h⟩ := zgd_inv h
  refine c_sld Z hX hg216 (by decide +kernel) ?_
  obtain ⟨r217, MC217, hc217, h⟩ := zbd_inv h
  refine lw_callC hW Z (as := [.inl (xs (nx (x3 + (1 : Int32)))), .inl (xs (nx (x3 + (2 : Int32))))]) (st := []) (m11_has_met (zGC_ok hW) rfl hc217) cwL_148 m11_has_in m11_has_se rfl ⟨by exact Nat.le_of_ble_eq_true rfl, by exact Nat.le_of_ble_eq_true rfl⟩ rfl (by decide +kernel) hnk ?_
  refine zblq Z rfl [(.aload 2, 1), (.aload 0, 1), (.iload 3, 1), (.iconst 1, 1), (.iadd, 1)] (S' := (1243, [(0, .inr (.inr (some (2200, 0)))), (1, .inr (.inr (some (11, 0)))), (2, .inr (.inr (some (12, 0)))), (3, .inl x3)], [.inl (x3 + (1 : Int32)), .inr (.inr (some (2200, 0))), .inr (.inr (some (12, 0))), .inl r217], zmix MC217 MR)) (b := true) (by decide +kernel) rfl rfl ?_
  obtain ⟨hg218, h⟩ := zgd_inv h
  refine c_sld Z hX hg218 (by decide +kernel) ?_
  refine zblq Z rfl [(.aload 0, 1), (.iload 3, 1), (.iconst 2, 1), (.iadd, 1)] (S' := (1248, [(0, .inr (.inr (some (2200, 0)))), (1, .inr (.inr (some (11, 0)))), (2, .inr (.inr (some (12, 0)))), (3, .inl x3)], [.inl (x3 + (2 : Int32)), .inr (.inr (some (2200, 0))), .inl (xs (nx (x3 + (1 : Int32)))), .inr (.inr (some (12, 0))), .inl r217], zmix MC217 MR)) (b := true) (by decide +kernel) rfl rfl ?_
  obtain ⟨hg219, h⟩ := zgd_inv h
  refine c_sld Z hX hg219 (by decide +kernel) ?_
  obtain ⟨r220, MR220, hc220, h⟩ := zbd_inv h
  refine lw_callR hW Z (as := [.inl (xs (nx (x3 + (1 : Int32)))), .inl (xs (nx (x3 + (2 : Int32))))]) (st := [.inl r217]) (m12_has_met (zGR_ok hW) rfl hc220) cwL_151 m12_has_in m12_has_se rfl ⟨by exact Nat.le_of_ble_eq_true rfl, by exact Nat.le_of_ble_eq_true rfl⟩ rfl (by decide +kernel) hnk ?_
  refine zic_eq Z (off := 417) (tgt := 1669) (by decide +kernel) (by decide) (fun hb221 => ?_) (fun hb221 => ?_)
  · replace h := zite_t h hb221
    cases h
    exact K
  · replace h := zite_f h hb221
    cases h
def mL_32 (L : Nat) (xs : Nat → Int32) (x3 : Int32) (MC : cM) (MR : rM) : Option (cM × rM) := zgd (zin (x3 + (1 : Int32)) L) (zbd (m11_begin (xs (nx (x3 + (1 : Int32)))) MC) (fun r223 MC223 => zgd (zin (x3 + (1 : Int32)) L) (zbd (m12_begin (xs (nx (x3 + (1 : Int32)))) MR) (fun r225 MR225 => (if r223 = r225 then some (MC223, MR225) else none)))))
set_option maxHeartbeats 4000000 in
theorem mL_32_ok {p : Program} {l : Launch} {e : Env} {s : State} {m : MethodId} {args : Array Value} {below : List Frame} {meth : Method} {c : Code} {Q : State → Prop} {D : va_G} {ad : zR → Nat} {ca : Nat → ClassId} {A : Nat → Prop} {base n k : Nat} {L : Nat} {xs : Nat → Int32} {x3 : Int32} {MC MC' : cM} {MR MR' : rM} (hW : zWh zUA base ad A) (Z : zOK (zCm p l e room_1 s m args below meth c Q code 4 R_law tbL (zGL D ad ca A))) (hX : va_X (ad (2200, 0)) L xs s s.heap ∧ ad (2200, 0) < s.heap.size ∧ ¬ A (ad (2200, 0))) (hnk : n ≤ room_1.cells ∧ k ≤ room_1.slots) (h : mL_32 L xs x3 MC MR = some (MC', MR')) (K : zGo (zCm p l e room_1 s m args below meth c Q code 4 R_law tbL (zGL D ad ca A)) n k (1669, [(0, .inr (.inr (some (2200, 0)))), (1, .inr (.inr (some (11, 0)))), (2, .inr (.inr (some (12, 0)))), (3, .inl x3)], [], zmix MC' MR')) : zGo (zCm p l e room_1 s m args below meth c Q code 4 R_law tbL (zGL D ad ca A)) n k (1257, [(0, .inr (.inr (some (2200, 0)))), (1, .inr (.inr (some (11, 0)))), (2, .inr (.inr (some (12, 0)))), (3, .inl x3)], [], zmix MC MR) := by
  unfold mL_32 at h
  refine zblq Z rfl [(.aload 1, 1), (.aload 0, 1), (.iload 3, 1), (.iconst 1, 1), (.iadd, 1)] (S' := (1262, [(0, .inr (.inr (some (2200, 0)))), (1, .inr (.inr (some (11, 0)))), (2, .inr (.inr (some (12, 0)))), (3, .inl x3)], [.inl (x3 + (1 : Int32)), .inr (.inr (some (2200, 0))), .inr (.inr (some (11, 0)))], zmix MC MR)) (b := true) (by decide +kernel) rfl rfl ?_
  obtain ⟨hg222, h⟩ := zgd_inv h
  refine c_sld Z hX hg222 (by decide +kernel) ?_
  obtain ⟨r223, MC223, hc223, h⟩ := zbd_inv h
  refine lw_callC hW Z (as := [.inl (xs (nx (x3 + (1 : Int32))))]) (st := []) (m11_begin_met (zGC_ok hW) rfl hc223) cwL_152 m11_begin_in m11_begin_se rfl ⟨by exact Nat.le_of_ble_eq_true rfl, by exact Nat.le_of_ble_eq_true rfl⟩ rfl (by decide +kernel) hnk ?_
  refine zblq Z rfl [(.aload 2, 1), (.aload 0, 1), (.iload 3, 1), (.iconst 1, 1), (.iadd, 1)] (S' := (1271, [(0, .inr (.inr (some (2200, 0)))), (1, .inr (.inr (some (11, 0)))), (2, .inr (.inr (some (12, 0)))), (3, .inl x3)], [.inl (x3 + (1 : Int32)), .inr (.inr (some (2200, 0))), .inr (.inr (some (12, 0))), .inl r223], zmix MC223 MR)) (b := true) (by decide +kernel) rfl rfl ?_
  obtain ⟨hg224, h⟩ := zgd_inv h
  refine c_sld Z hX hg224 (by decide +kernel) ?_
  obtain ⟨r225, MR225, hc225, h⟩ := zbd_inv h
  refine lw_callR hW Z (as := [.inl (xs (nx (x3 + (1 : Int32))))]) (st := [.inl r223]) (m12_begin_met (zGR_ok hW) rfl hc225) cwL_155 m12_begin_in m12_begin_se rfl ⟨by exact Nat.le_of_ble_eq_true rfl, by exact Nat.le_of_ble_eq_true rfl⟩ rfl (by decide +kernel) hnk ?_
  refine zic_eq Z (off := 394) (tgt := 1669) (by decide +kernel) (by decide) (fun hb226 => ?_) (fun hb226 => ?_)
  · replace h := zite_t h hb226
    cases h
    exact K
  · replace h := zite_f h hb226
    cases h
def mL_33 (L : Nat) (xs : Nat → Int32) (x3 : Int32) (MC : cM) (MR : rM) : Option (cM × rM) := zgd (zin (x3 + (1 : Int32)) L) (zbd (m11_days (xs (nx (x3 + (1 : Int32)))) MC) (fun r228 MC228 => zgd (zin (x3 + (1 : Int32)) L) (zbd (m12_days (xs (nx (x3 + (1 : Int32)))) MR) (fun r230 MR230 => (if r228 = r230 then some (MC228, MR230) else none)))))
set_option maxHeartbeats 4000000 in
theorem mL_33_ok {p : Program} {l : Launch} {e : Env} {s : State} {m : MethodId} {args : Array Value} {below : List Frame} {meth : Method} {c : Code} {Q : State → Prop} {D : va_G} {ad : zR → Nat} {ca : Nat → ClassId} {A : Nat → Prop} {base n k : Nat} {L : Nat} {xs : Nat → Int32} {x3 : Int32} {MC MC' : cM} {MR MR' : rM} (hW : zWh zUA base ad A) (Z : zOK (zCm p l e room_1 s m args below meth c Q code 4 R_law tbL (zGL D ad ca A))) (hX : va_X (ad (2200, 0)) L xs s s.heap ∧ ad (2200, 0) < s.heap.size ∧ ¬ A (ad (2200, 0))) (hnk : n ≤ room_1.cells ∧ k ≤ room_1.slots) (h : mL_33 L xs x3 MC MR = some (MC', MR')) (K : zGo (zCm p l e room_1 s m args below meth c Q code 4 R_law tbL (zGL D ad ca A)) n k (1669, [(0, .inr (.inr (some (2200, 0)))), (1, .inr (.inr (some (11, 0)))), (2, .inr (.inr (some (12, 0)))), (3, .inl x3)], [], zmix MC' MR')) : zGo (zCm p l e room_1 s m args below meth c Q code 4 R_law tbL (zGL D ad ca A)) n k (1280, [(0, .inr (.inr (some (2200, 0)))), (1, .inr (.inr (some (11, 0)))), (2, .inr (.inr (some (12, 0)))), (3, .inl x3)], [], zmix MC MR) := by
  unfold mL_33 at h
  refine zblq Z rfl [(.aload 1, 1), (.aload 0, 1), (.iload 3, 1), (.iconst 1, 1), (.iadd, 1)] (S' := (1285, [(0, .inr (.inr (some (2200, 0)))), (1, .inr (.inr (some (11, 0)))), (2, .inr (.inr (some (12, 0)))), (3, .inl x3)], [.inl (x3 + (1 : Int32)), .inr (.inr (some (2200, 0))), .inr (.inr (some (11, 0)))], zmix MC MR)) (b := true) (by decide +kernel) rfl rfl ?_
  obtain ⟨hg227, h⟩ := zgd_inv h
  refine c_sld Z hX hg227 (by decide +kernel) ?_
  obtain ⟨r228, MC228, hc228, h⟩ := zbd_inv h
  refine lw_callC hW Z (as := [.inl (xs (nx (x3 + (1 : Int32))))]) (st := []) (m11_days_met (zGC_ok hW) rfl hc228) cwL_156 m11_days_in m11_days_se rfl ⟨by exact Nat.le_of_ble_eq_true rfl, by exact Nat.le_of_ble_eq_true rfl⟩ rfl (by decide +kernel) hnk ?_
  refine zblq Z rfl [(.aload 2, 1), (.aload 0, 1), (.iload 3, 1), (.iconst 1, 1), (.iadd, 1)] (S' := (1294, [(0, .inr (.inr (some (2200, 0)))), (1, .inr (.inr (some (11, 0)))), (2, .inr (.inr (some (12, 0)))), (3, .inl x3)], [.inl (x3 + (1 : Int32)), .inr (.inr (some (2200, 0))), .inr (.inr (some (12, 0))), .inl r228], zmix MC228 MR)) (b := true) (by decide +kernel) rfl rfl ?_
  obtain ⟨hg229, h⟩ := zgd_inv h
  refine c_sld Z hX hg229 (by decide +kernel) ?_
  obtain ⟨r230, MR230, hc230, h⟩ := zbd_inv h
  refine lw_callR hW Z (as := [.inl (xs (nx (x3 + (1 : Int32))))]) (st := [.inl r228]) (m12_days_met (zGR_ok hW) rfl hc230) cwL_159 m12_days_in m12_days_se rfl ⟨by exact Nat.le_of_ble_eq_true rfl, by exact Nat.le_of_ble_eq_true rfl⟩ rfl (by decide +kernel) hnk ?_
  refine zic_eq Z (off := 371) (tgt := 1669) (by decide +kernel) (by decide) (fun hb231 => ?_) (fun hb231 => ?_)
  · replace h := zite_t h hb231
    cases h
    exact K
  · replace h := zite_f h hb231
    cases h
def mL_34 (L : Nat) (xs : Nat → Int32) (x3 : Int32) (MC : cM) (MR : rM) : Option (cM × rM) := zgd (zin (x3 + (1 : Int32)) L) (zgd (zin (x3 + (2 : Int32)) L) (zgd (zin (x3 + (3 : Int32)) L) ((if (xs (nx (x3 + (3 : Int32)))) = 0 then zbd (m11_way (xs (nx (x3 + (1 : Int32)))) (xs (nx (x3 + (2 : Int32)))) (0 : Int32) MC) (fun r236 MC236 => zgd (zin (x3 + (1 : Int32)) L) (zgd (zin (x3 + (2 : Int32)) L) (zgd (zin (x3 + (3 : Int32)) L) ((if (xs (nx (x3 + (3 : Int32)))) = 0 then zbd (m12_way (xs (nx (x3 + (1 : Int32)))) (xs (nx (x3 + (2 : Int32)))) (0 : Int32) MR) (fun r241 MR241 => (if r236 = r241 then some (MC236, MR241) else none)) else zbd (m12_way (xs (nx (x3 + (1 : Int32)))) (xs (nx (x3 + (2 : Int32)))) (1 : Int32) MR) (fun r243 MR243 => (if r236 = r243 then some (MC236, MR243) else none))))))) else zbd (m11_way (xs (nx (x3 + (1 : Int32)))) (xs (nx (x3 + (2 : Int32)))) (1 : Int32) MC) (fun r245 MC245 => zgd (zin (x3 + (1 : Int32)) L) (zgd (zin (x3 + (2 : Int32)) L) (zgd (zin (x3 + (3 : Int32)) L) ((if (xs (nx (x3 + (3 : Int32)))) = 0 then zbd (m12_way (xs (nx (x3 + (1 : Int32)))) (xs (nx (x3 + (2 : Int32)))) (0 : Int32) MR) (fun r250 MR250 => (if r245 = r250 then some (MC245, MR250) else none)) else zbd (m12_way (xs (nx (x3 + (1 : Int32)))) (xs (nx (x3 + (2 : Int32)))) (1 : Int32) MR) (fun r252 MR252 => (if r245 = r252 then some (MC245, MR252) else none)))))))))))
set_option maxHeartbeats 4000000 in
theorem mL_34_ok {p : Program} {l : Launch} {e : Env} {s : State} {m : MethodId} {args : Array Value} {below : List Frame} {meth : Method} {c : Code} {Q : State → Prop} {D : va_G} {ad : zR → Nat} {ca : Nat → ClassId} {A : Nat → Prop} {base n k : Nat} {L : Nat} {xs : Nat → Int32} {x3 : Int32} {MC MC' : cM} {MR MR' : rM} (hW : zWh zUA base ad A) (Z : zOK (zCm p l e room_1 s m args below meth c Q code 4 R_law tbL (zGL D ad ca A))) (hX : va_X (ad (2200, 0)) L xs s s.heap ∧ ad (2200, 0) < s.heap.size ∧ ¬ A (ad (2200, 0))) (hnk : n ≤ room_1.cells ∧ k ≤ room_1.slots) (h : mL_34 L xs x3 MC MR = some (MC', MR')) (K : zGo (zCm p l e room_1 s m args below meth c Q code 4 R_law tbL (zGL D ad ca A)) n k (1669, [(0, .inr (.inr (some (2200, 0)))), (1, .inr (.inr (some (11, 0)))), (2, .inr (.inr (some (12, 0)))), (3, .inl x3)], [], zmix MC' MR')) : zGo (zCm p l e room_1 s m args below meth c Q code 4 R_law tbL (zGL D ad ca A)) n k (1303, [(0, .inr (.inr (some (2200, 0)))), (1, .inr (.inr (some (11, 0)))), (2, .inr (.inr (some (12, 0)))), (3, .inl x3)], [], zmix MC MR) := by
  unfold mL_34 at h
  refine zblq Z rfl [(.aload 1, 1), (.aload 0, 1), (.iload 3, 1), (.iconst 1, 1), (.iadd, 1)] (S' := (1308, [(0, .inr (.inr (some (2200, 0)))), (1, .inr (.inr (some (11, 0)))), (2, .inr (.inr (some (12, 0)))), (3, .inl x3)], [.inl (x3 + (1 : Int32)), .inr (.inr (some (2200, 0))), .inr (.inr (some (11, 0)))], zmix MC MR)) (b := true) (by decide +kernel) rfl rfl ?_
  obtain ⟨hg232, h⟩ := zgd_inv h
  refine c_sld Z hX hg232 (by decide +kernel) ?_
  refine zblq Z rfl [(.aload 0, 1), (.iload 3, 1), (.iconst 2, 1), (.iadd, 1)] (S' := (1313, [(0, .inr (.inr (some (2200, 0)))), (1, .inr (.inr (some (11, 0)))), (2, .inr (.inr (some (12, 0)))), (3, .inl x3)], [.inl (x3 + (2 : Int32)), .inr (.inr (some (2200, 0))), .inl (xs (nx (x3 + (1 : Int32)))), .inr (.inr (some (11, 0)))], zmix MC MR)) (b := true) (by decide +kernel) rfl rfl ?_
  obtain ⟨hg233, h⟩ := zgd_inv h
  refine c_sld Z hX hg233 (by decide +kernel) ?_
  refine zblq Z rfl [(.aload 0, 1), (.iload 3, 1), (.iconst 3, 1), (.iadd, 1)] (S' := (1318, [(0, .inr (.inr (some (2200, 0)))), (1, .inr (.inr (some (11, 0)))), (2, .inr (.inr (some (12, 0)))), (3, .inl x3)], [.inl (x3 + (3 : Int32)), .inr (.inr (some (2200, 0))), .inl (xs (nx (x3 + (2 : Int32)))), .inl (xs (nx (x3 + (1 : Int32)))), .inr (.inr (some (11, 0)))], zmix MC MR)) (b := true) (by decide +kernel) rfl rfl ?_
  obtain ⟨hg234, h⟩ := zgd_inv h
  refine c_sld Z hX hg234 (by decide +kernel) ?_
  refine zif_eq Z (off := 7) (tgt := 1326) (by decide +kernel) (by decide) (fun hb235 => ?_) (fun hb235 => ?_)
  · replace h := zite_t h hb235
    refine zblq Z rfl [(.iconst 0, 1)] (S' := (1327, [(0, .inr (.inr (some (2200, 0)))), (1, .inr (.inr (some (11, 0)))), (2, .inr (.inr (some (12, 0)))), (3, .inl x3)], [.inl (0 : Int32), .inl (xs (nx (x3 + (2 : Int32)))), .inl (xs (nx (x3 + (1 : Int32)))), .inr (.inr (some (11, 0)))], zmix MC MR)) (b := true) (by decide +kernel) rfl rfl ?_
    obtain ⟨r236, MC236, hc236, h⟩ := zbd_inv h
    refine lw_callC hW Z (as := [.inl (xs (nx (x3 + (1 : Int32)))), .inl (xs (nx (x3 + (2 : Int32)))), .inl (0 : Int32)]) (st := []) (m11_way_met (zGC_ok hW) rfl hc236) cwL_160 m11_way_in m11_way_se rfl ⟨by exact Nat.le_of_ble_eq_true rfl, by exact Nat.le_of_ble_eq_true rfl⟩ rfl (by decide +kernel) hnk ?_
    refine zblq Z rfl [(.aload 2, 1), (.aload 0, 1), (.iload 3, 1), (.iconst 1, 1), (.iadd, 1)] (S' := (1335, [(0, .inr (.inr (some (2200, 0)))), (1, .inr (.inr (some (11, 0)))), (2, .inr (.inr (some (12, 0)))), (3, .inl x3)], [.inl (x3 + (1 : Int32)), .inr (.inr (some (2200, 0))), .inr (.inr (some (12, 0))), .inl r236], zmix MC236 MR)) (b := true) (by decide +kernel) rfl rfl ?_
    obtain ⟨hg237, h⟩ := zgd_inv h
    refine c_sld Z hX hg237 (by decide +kernel) ?_
    refine zblq Z rfl [(.aload 0, 1), (.iload 3, 1), (.iconst 2, 1), (.iadd, 1)] (S' := (1340, [(0, .inr (.inr (some (2200, 0)))), (1, .inr (.inr (some (11, 0)))), (2, .inr (.inr (some (12, 0)))), (3, .inl x3)], [.inl (x3 + (2 : Int32)), .inr (.inr (some (2200, 0))), .inl (xs (nx (x3 + (1 : Int32)))), .inr (.inr (some (12, 0))), .inl r236], zmix MC236 MR)) (b := true) (by decide +kernel) rfl rfl ?_
    obtain ⟨hg238, h⟩ := zgd_inv h
    refine c_sld Z hX hg238 (by decide +kernel) ?_
    refine zblq Z rfl [(.aload 0, 1), (.iload 3, 1), (.iconst 3, 1), (.iadd, 1)] (S' := (1345, [(0, .inr (.inr (some (2200, 0)))), (1, .inr (.inr (some (11, 0)))), (2, .inr (.inr (some (12, 0)))), (3, .inl x3)], [.inl (x3 + (3 : Int32)), .inr (.inr (some (2200, 0))), .inl (xs (nx (x3 + (2 : Int32)))), .inl (xs (nx (x3 + (1 : Int32)))), .inr (.inr (some (12, 0))), .inl r236], zmix MC236 MR)) (b := true) (by decide +kernel) rfl rfl ?_
    obtain ⟨hg239, h⟩ := zgd_inv h
    refine c_sld Z hX hg239 (by decide +kernel) ?_
    refine zif_eq Z (off := 7) (tgt := 1353) (by decide +kernel) (by decide) (fun hb240 => ?_) (fun hb240 => ?_)
    · replace h := zite_t h hb240
      refine zblq Z rfl [(.iconst 0, 1)] (S' := (1354, [(0, .inr (.inr (some (2200, 0)))), (1, .inr (.inr (some (11, 0)))), (2, .inr (.inr (some (12, 0)))), (3, .inl x3)], [.inl (0 : Int32), .inl (xs (nx (x3 + (2 : Int32)))), .inl (xs (nx (x3 + (1 : Int32)))), .inr (.inr (some (12, 0))), .inl r236], zmix MC236 MR)) (b := true) (by decide +kernel) rfl rfl ?_
      obtain ⟨r241, MR241, hc241, h⟩ := zbd_inv h
      refine lw_callR hW Z (as := [.inl (xs (nx (x3 + (1 : Int32)))), .inl (xs (nx (x3 + (2 : Int32)))), .inl (0 : Int32)]) (st := [.inl r236]) (m12_way_met (zGR_ok hW) rfl hc241) cwL_163 m12_way_in m12_way_se rfl ⟨by exact Nat.le_of_ble_eq_true rfl, by exact Nat.le_of_ble_eq_true rfl⟩ rfl (by decide +kernel) hnk ?_
      refine zic_eq Z (off := 312) (tgt := 1669) (by decide +kernel) (by decide) (fun hb242 => ?_) (fun hb242 => ?_)
      · replace h := zite_t h hb242
        cases h
        exact K
      · replace h := zite_f h hb242
        cases h
    · replace h := zite_f h hb240
      refine zblq Z rfl [(.iconst 1, 1), (.ldc 1354, 3)] (S' := (1354, [(0, .inr (.inr (some (2200, 0)))), (1, .inr (.inr (some (11, 0)))), (2, .inr (.inr (some (12, 0)))), (3, .inl x3)], [.inl (1 : Int32), .inl (xs (nx (x3 + (2 : Int32)))), .inl (xs (nx (x3 + (1 : Int32)))), .inr (.inr (some (12, 0))), .inl r236], zmix MC236 MR)) (b := true) (by decide +kernel) rfl rfl ?_
      obtain ⟨r243, MR243, hc243, h⟩ := zbd_inv h
      refine lw_callR hW Z (as := [.inl (xs (nx (x3 + (1 : Int32)))), .inl (xs (nx (x3 + (2 : Int32)))), .inl (1 : Int32)]) (st := [.inl r236]) (m12_way_met (zGR_ok hW) rfl hc243) cwL_163 m12_way_in m12_way_se rfl ⟨by exact Nat.le_of_ble_eq_true rfl, by exact Nat.le_of_ble_eq_true rfl⟩ rfl (by decide +kernel) hnk ?_
      refine zic_eq Z (off := 312) (tgt := 1669) (by decide +kernel) (by decide) (fun hb244 => ?_) (fun hb244 => ?_)
      · replace h := zite_t h hb244
        cases h
        exact K
      · replace h := zite_f h hb244
        cases h
  · replace h := zite_f h hb235
    refine zblq Z rfl [(.iconst 1, 1), (.ldc 1327, 3)] (S' := (1327, [(0, .inr (.inr (some (2200, 0)))), (1, .inr (.inr (some (11, 0)))), (2, .inr (.inr (some (12, 0)))), (3, .inl x3)], [.inl (1 : Int32), .inl (xs (nx (x3 + (2 : Int32)))), .inl (xs (nx (x3 + (1 : Int32)))), .inr (.inr (some (11, 0)))], zmix MC MR)) (b := true) (by decide +kernel) rfl rfl ?_
    obtain ⟨r245, MC245, hc245, h⟩ := zbd_inv h
    refine lw_callC hW Z (as := [.inl (xs (nx (x3 + (1 : Int32)))), .inl (xs (nx (x3 + (2 : Int32)))), .inl (1 : Int32)]) (st := []) (m11_way_met (zGC_ok hW) rfl hc245) cwL_160 m11_way_in m11_way_se rfl ⟨by exact Nat.le_of_ble_eq_true rfl, by exact Nat.le_of_ble_eq_true rfl⟩ rfl (by decide +kernel) hnk ?_
    refine zblq Z rfl [(.aload 2, 1), (.aload 0, 1), (.iload 3, 1), (.iconst 1, 1), (.iadd, 1)] (S' := (1335, [(0, .inr (.inr (some (2200, 0)))), (1, .inr (.inr (some (11, 0)))), (2, .inr (.inr (some (12, 0)))), (3, .inl x3)], [.inl (x3 + (1 : Int32)), .inr (.inr (some (2200, 0))), .inr (.inr (some (12, 0))), .inl r245], zmix MC245 MR)) (b := true) (by decide +kernel) rfl rfl ?_
    obtain ⟨hg246, h⟩ := zgd_inv h
    refine c_sld Z hX hg246 (by decide +kernel) ?_
    refine zblq Z rfl [(.aload 0, 1), (.iload 3, 1), (.iconst 2, 1), (.iadd, 1)] (S' := (1340, [(0, .inr (.inr (some (2200, 0)))), (1, .inr (.inr (some (11, 0)))), (2, .inr (.inr (some (12, 0)))), (3, .inl x3)], [.inl (x3 + (2 : Int32)), .inr (.inr (some (2200, 0))), .inl (xs (nx (x3 + (1 : Int32)))), .inr (.inr (some (12, 0))), .inl r245], zmix MC245 MR)) (b := true) (by decide +kernel) rfl rfl ?_
    obtain ⟨hg247, h⟩ := zgd_inv h
    refine c_sld Z hX hg247 (by decide +kernel) ?_
    refine zblq Z rfl [(.aload 0, 1), (.iload 3, 1), (.iconst 3, 1), (.iadd, 1)] (S' := (1345, [(0, .inr (.inr (some (2200, 0)))), (1, .inr (.inr (some (11, 0)))), (2, .inr (.inr (some (12, 0)))), (3, .inl x3)], [.inl (x3 + (3 : Int32)), .inr (.inr (some (2200, 0))), .inl (xs (nx (x3 + (2 : Int32)))), .inl (xs (nx (x3 + (1 : Int32)))), .inr (.inr (some (12, 0))), .inl r245], zmix MC245 MR)) (b := true) (by decide +kernel) rfl rfl ?_
    obtain ⟨hg248, h⟩ := zgd_inv h
    refine c_sld Z hX hg248 (by decide +kernel) ?_
    refine zif_eq Z (off := 7) (tgt := 1353) (by decide +kernel) (by decide) (fun hb249 => ?_) (fun hb249 => ?_)
    · replace h := zite_t h hb249
      refine zblq Z rfl [(.iconst 0, 1)] (S' := (1354, [(0, .inr (.inr (some (2200, 0)))), (1, .inr (.inr (some (11, 0)))), (2, .inr (.inr (some (12, 0)))), (3, .inl x3)], [.inl (0 : Int32), .inl (xs (nx (x3 + (2 : Int32)))), .inl (xs (nx (x3 + (1 : Int32)))), .inr (.inr (some (12, 0))), .inl r245], zmix MC245 MR)) (b := true) (by decide +kernel) rfl rfl ?_
      obtain ⟨r250, MR250, hc250, h⟩ := zbd_inv h
      refine lw_callR hW Z (as := [.inl (xs (nx (x3 + (1 : Int32)))), .inl (xs (nx (x3 + (2 : Int32)))), .inl (0 : Int32)]) (st := [.inl r245]) (m12_way_met (zGR_ok hW) rfl hc250) cwL_163 m12_way_in m12_way_se rfl ⟨by exact Nat.le_of_ble_eq_true rfl, by exact Nat.le_of_ble_eq_true rfl⟩ rfl (by decide +kernel) hnk ?_
      refine zic_eq Z (off := 312) (tgt := 1669) (by decide +kernel) (by decide) (fun hb251 => ?_) (fun hb251 => ?_)
      · replace h := zite_t h hb251
        cases h
        exact K
      · replace h := zite_f h hb251
        cases h
    · replace h := zite_f h hb249
      refine zblq Z rfl [(.iconst 1, 1), (.ldc 1354, 3)] (S' := (1354, [(0, .inr (.inr (some (2200, 0)))), (1, .inr (.inr (some (11, 0)))), (2, .inr (.inr (some (12, 0)))), (3, .inl x3)], [.inl (1 : Int32), .inl (xs (nx (x3 + (2 : Int32)))), .inl (xs (nx (x3 + (1 : Int32)))), .inr (.inr (some (12, 0))), .inl r245], zmix MC245 MR)) (b := true) (by decide +kernel) rfl rfl ?_
      obtain ⟨r252, MR252, hc252, h⟩ := zbd_inv h
      refine lw_callR hW Z (as := [.inl (xs (nx (x3 + (1 : Int32)))), .inl (xs (nx (x3 + (2 : Int32)))), .inl (1 : Int32)]) (st := [.inl r245]) (m12_way_met (zGR_ok hW) rfl hc252) cwL_163 m12_way_in m12_way_se rfl ⟨by exact Nat.le_of_ble_eq_true rfl, by exact Nat.le_of_ble_eq_true rfl⟩ rfl (by decide +kernel) hnk ?_
      refine zic_eq Z (off := 312) (tgt := 1669) (by decide +kernel) (by decide) (fun hb253 => ?_) (fun hb253 => ?_)
      · replace h := zite_t h hb253
        cases h
        exact K
      · replace h := zite_f h hb253
        cases h
def mL_35 (L : Nat) (xs : Nat → Int32) (x3 : Int32) (MC : cM) (MR : rM) : Option (cM × rM) := zgd (zin (x3 + (1 : Int32)) L) (zgd (zin (x3 + (2 : Int32)) L) (zbd (m11_ear (xs (nx (x3 + (1 : Int32)))) (xs (nx (x3 + (2 : Int32)))) MC) (fun r256 MC256 => zgd (zin (x3 + (1 : Int32)) L) (zgd (zin (x3 + (2 : Int32)) L) (zbd (m12_ear (xs (nx (x3 + (1 : Int32)))) (xs (nx (x3 + (2 : Int32)))) MR) (fun r259 MR259 => (if r256 = r259 then some (MC256, MR259) else none)))))))
set_option maxHeartbeats 4000000 in
theorem mL_35_ok {p : Program} {l : Launch} {e : Env} {s : State} {m : MethodId} {args : Array Value} {below : List Frame} {meth : Method} {c : Code} {Q : State → Prop} {D : va_G} {ad : zR → Nat} {ca : Nat → ClassId} {A : Nat → Prop} {base n k : Nat} {L : Nat} {xs : Nat → Int32} {x3 : Int32} {MC MC' : cM} {MR MR' : rM} (hW : zWh zUA base ad A) (Z : zOK (zCm p l e room_1 s m args below meth c Q code 4 R_law tbL (zGL D ad ca A))) (hX : va_X (ad (2200, 0)) L xs s s.heap ∧ ad (2200, 0) < s.heap.size ∧ ¬ A (ad (2200, 0))) (hnk : n ≤ room_1.cells ∧ k ≤ room_1.slots) (h : mL_35 L xs x3 MC MR = some (MC', MR')) (K : zGo (zCm p l e room_1 s m args below meth c Q code 4 R_law tbL (zGL D ad ca A)) n k (1669, [(0, .inr (.inr (some (2200, 0)))), (1, .inr (.inr (some (11, 0)))), (2, .inr (.inr (some (12, 0)))), (3, .inl x3)], [], zmix MC' MR')) : zGo (zCm p l e room_1 s m args below meth c Q code 4 R_law tbL (zGL D ad ca A)) n k (1362, [(0, .inr (.inr (some (2200, 0)))), (1, .inr (.inr (some (11, 0)))), (2, .inr (.inr (some (12, 0)))), (3, .inl x3)], [], zmix MC MR) := by
  unfold mL_35 at h
  refine zblq Z rfl [(.aload 1, 1), (.aload 0, 1), (.iload 3, 1), (.iconst 1, 1), (.iadd, 1)] (S' := (1367, [(0, .inr (.inr (some (2200, 0)))), (1, .inr (.inr (some (11, 0)))), (2, .inr (.inr (some (12, 0)))), (3, .inl x3)], [.inl (x3 + (1 : Int32)), .inr (.inr (some (2200, 0))), .inr (.inr (some (11, 0)))], zmix MC MR)) (b := true) (by decide +kernel) rfl rfl ?_
  obtain ⟨hg254, h⟩ := zgd_inv h
  refine c_sld Z hX hg254 (by decide +kernel) ?_
  refine zblq Z rfl [(.aload 0, 1), (.iload 3, 1), (.iconst 2, 1), (.iadd, 1)] (S' := (1372, [(0, .inr (.inr (some (2200, 0)))), (1, .inr (.inr (some (11, 0)))), (2, .inr (.inr (some (12, 0)))), (3, .inl x3)], [.inl (x3 + (2 : Int32)), .inr (.inr (some (2200, 0))), .inl (xs (nx (x3 + (1 : Int32)))), .inr (.inr (some (11, 0)))], zmix MC MR)) (b := true) (by decide +kernel) rfl rfl ?_
  obtain ⟨hg255, h⟩ := zgd_inv h
  refine c_sld Z hX hg255 (by decide +kernel) ?_
  obtain ⟨r256, MC256, hc256, h⟩ := zbd_inv h
  refine lw_callC hW Z (as := [.inl (xs (nx (x3 + (1 : Int32)))), .inl (xs (nx (x3 + (2 : Int32))))]) (st := []) (m11_ear_met (zGC_ok hW) rfl hc256) cwL_164 m11_ear_in m11_ear_se rfl ⟨by exact Nat.le_of_ble_eq_true rfl, by exact Nat.le_of_ble_eq_true rfl⟩ rfl (by decide +kernel) hnk ?_
  refine zblq Z rfl [(.aload 2, 1), (.aload 0, 1), (.iload 3, 1), (.iconst 1, 1), (.iadd, 1)] (S' := (1381, [(0, .inr (.inr (some (2200, 0)))), (1, .inr (.inr (some (11, 0)))), (2, .inr (.inr (some (12, 0)))), (3, .inl x3)], [.inl (x3 + (1 : Int32)), .inr (.inr (some (2200, 0))), .inr (.inr (some (12, 0))), .inl r256], zmix MC256 MR)) (b := true) (by decide +kernel) rfl rfl ?_
  obtain ⟨hg257, h⟩ := zgd_inv h
  refine c_sld Z hX hg257 (by decide +kernel) ?_
  refine zblq Z rfl [(.aload 0, 1), (.iload 3, 1), (.iconst 2, 1), (.iadd, 1)] (S' := (1386, [(0, .inr (.inr (some (2200, 0)))), (1, .inr (.inr (some (11, 0)))), (2, .inr (.inr (some (12, 0)))), (3, .inl x3)], [.inl (x3 + (2 : Int32)), .inr (.inr (some (2200, 0))), .inl (xs (nx (x3 + (1 : Int32)))), .inr (.inr (some (12, 0))), .inl r256], zmix MC256 MR)) (b := true) (by decide +kernel) rfl rfl ?_
  obtain ⟨hg258, h⟩ := zgd_inv h
  refine c_sld Z hX hg258 (by decide +kernel) ?_
  obtain ⟨r259, MR259, hc259, h⟩ := zbd_inv h
  refine lw_callR hW Z (as := [.inl (xs (nx (x3 + (1 : Int32)))), .inl (xs (nx (x3 + (2 : Int32))))]) (st := [.inl r256]) (m12_ear_met (zGR_ok hW) rfl hc259) cwL_167 m12_ear_in m12_ear_se rfl ⟨by exact Nat.le_of_ble_eq_true rfl, by exact Nat.le_of_ble_eq_true rfl⟩ rfl (by decide +kernel) hnk ?_
  refine zic_eq Z (off := 279) (tgt := 1669) (by decide +kernel) (by decide) (fun hb260 => ?_) (fun hb260 => ?_)
  · replace h := zite_t h hb260
    cases h
    exact K
  · replace h := zite_f h hb260
    cases h
def mL_36 (L : Nat) (xs : Nat → Int32) (x3 : Int32) (MC : cM) (MR : rM) : Option (cM × rM) := zgd (zin (x3 + (1 : Int32)) L) (zgd (zin (x3 + (2 : Int32)) L) (zgd (zin (x3 + (3 : Int32)) L) (zbd (m11_log (xs (nx (x3 + (1 : Int32)))) (xs (nx (x3 + (2 : Int32)))) (xs (nx (x3 + (3 : Int32)))) MC) (fun r264 MC264 => zgd (zin (x3 + (1 : Int32)) L) (zgd (zin (x3 + (2 : Int32)) L) (zgd (zin (x3 + (3 : Int32)) L) (zbd (m12_log (xs (nx (x3 + (1 : Int32)))) (xs (nx (x3 + (2 : Int32)))) (xs (nx (x3 + (3 : Int32)))) MR) (fun r268 MR268 => (if r264 = r268 then some (MC264, MR268) else none)))))))))
set_option maxHeartbeats 4000000 in
theorem mL_36_ok {p : Program} {l : Launch} {e : Env} {s : State} {m : MethodId} {args : Array Value} {below : List Frame} {meth : Method} {c : Code} {Q : State → Prop} {D : va_G} {ad : zR → Nat} {ca : Nat → ClassId} {A : Nat → Prop} {base n k : Nat} {L : Nat} {xs : Nat → Int32} {x3 : Int32} {MC MC' : cM} {MR MR' : rM} (hW : zWh zUA base ad A) (Z : zOK (zCm p l e room_1 s m args below meth c Q code 4 R_law tbL (zGL D ad ca A))) (hX : va_X (ad (2200, 0)) L xs s s.heap ∧ ad (2200, 0) < s.heap.size ∧ ¬ A (ad (2200, 0))) (hnk : n ≤ room_1.cells ∧ k ≤ room_1.slots) (h : mL_36 L xs x3 MC MR = some (MC', MR')) (K : zGo (zCm p l e room_1 s m args below meth c Q code 4 R_law tbL (zGL D ad ca A)) n k (1669, [(0, .inr (.inr (some (2200, 0)))), (1, .inr (.inr (some (11, 0)))), (2, .inr (.inr (some (12, 0)))), (3, .inl x3)], [], zmix MC' MR')) : zGo (zCm p l e room_1 s m args below meth c Q code 4 R_law tbL (zGL D ad ca A)) n k (1395, [(0, .inr (.inr (some (2200, 0)))), (1, .inr (.inr (some (11, 0)))), (2, .inr (.inr (some (12, 0)))), (3, .inl x3)], [], zmix MC MR) := by
  unfold mL_36 at h
  refine zblq Z rfl [(.aload 1, 1), (.aload 0, 1), (.iload 3, 1), (.iconst 1, 1), (.iadd, 1)] (S' := (1400, [(0, .inr (.inr (some (2200, 0)))), (1, .inr (.inr (some (11, 0)))), (2, .inr (.inr (some (12, 0)))), (3, .inl x3)], [.inl (x3 + (1 : Int32)), .inr (.inr (some (2200, 0))), .inr (.inr (some (11, 0)))], zmix MC MR)) (b := true) (by decide +kernel) rfl rfl ?_
  obtain ⟨hg261, h⟩ := zgd_inv h
  refine c_sld Z hX hg261 (by decide +kernel) ?_
  refine zblq Z rfl [(.aload 0, 1), (.iload 3, 1), (.iconst 2, 1), (.iadd, 1)] (S' := (1405, [(0, .inr (.inr (some (2200, 0)))), (1, .inr (.inr (some (11, 0)))), (2, .inr (.inr (some (12, 0)))), (3, .inl x3)], [.inl (x3 + (2 : Int32)), .inr (.inr (some (2200, 0))), .inl (xs (nx (x3 + (1 : Int32)))), .inr (.inr (some (11, 0)))], zmix MC MR)) (b := true) (by decide +kernel) rfl rfl ?_
  obtain ⟨hg262, h⟩ := zgd_inv h
  refine c_sld Z hX hg262 (by decide +kernel) ?_
  refine zblq Z rfl [(.aload 0, 1), (.iload 3, 1), (.iconst 3, 1), (.iadd, 1)] (S' := (1410, [(0, .inr (.inr (some (2200, 0)))), (1, .inr (.inr (some (11, 0)))), (2, .inr (.inr (some (12, 0)))), (3, .inl x3)], [.inl (x3 + (3 : Int32)), .inr (.inr (some (2200, 0))), .inl (xs (nx (x3 + (2 : Int32)))), .inl (xs (nx (x3 + (1 : Int32)))), .inr (.inr (some (11, 0)))], zmix MC MR)) (b := true) (by decide +kernel) rfl rfl ?_
  obtain ⟨hg263, h⟩ := zgd_inv h
  refine c_sld Z hX hg263 (by decide +kernel) ?_
  obtain ⟨r264, MC264, hc264, h⟩ := zbd_inv h
  refine lw_callC hW Z (as := [.inl (xs (nx (x3 + (1 : Int32)))), .inl (xs (nx (x3 + (2 : Int32)))), .inl (xs (nx (x3 + (3 : Int32))))]) (st := []) (m11_log_met (zGC_ok hW) rfl hc264) cwL_168 m11_log_in m11_log_se rfl ⟨by exact Nat.le_of_ble_eq_true rfl, by exact Nat.le_of_ble_eq_true rfl⟩ rfl (by decide +kernel) hnk ?_
  refine zblq Z rfl [(.aload 2, 1), (.aload 0, 1), (.iload 3, 1), (.iconst 1, 1), (.iadd, 1)] (S' := (1419, [(0, .inr (.inr (some (2200, 0)))), (1, .inr (.inr (some (11, 0)))), (2, .inr (.inr (some (12, 0)))), (3, .inl x3)], [.inl (x3 + (1 : Int32)), .inr (.inr (some (2200, 0))), .inr (.inr (some (12, 0))), .inl r264], zmix MC264 MR)) (b := true) (by decide +kernel) rfl rfl ?_
  obtain ⟨hg265, h⟩ := zgd_inv h
  refine c_sld Z hX hg265 (by decide +kernel) ?_
  refine zblq Z rfl [(.aload 0, 1), (.iload 3, 1), (.iconst 2, 1), (.iadd, 1)] (S' := (1424, [(0, .inr (.inr (some (2200, 0)))), (1, .inr (.inr (some (11, 0)))), (2, .inr (.inr (some (12, 0)))), (3, .inl x3)], [.inl (x3 + (2 : Int32)), .inr (.inr (some (2200, 0))), .inl (xs (nx (x3 + (1 : Int32)))), .inr (.inr (some (12, 0))), .inl r264], zmix MC264 MR)) (b := true) (by decide +kernel) rfl rfl ?_
  obtain ⟨hg266, h⟩ := zgd_inv h
  refine c_sld Z hX hg266 (by decide +kernel) ?_
  refine zblq Z rfl [(.aload 0, 1), (.iload 3, 1), (.iconst 3, 1), (.iadd, 1)] (S' := (1429, [(0, .inr (.inr (some (2200, 0)))), (1, .inr (.inr (some (11, 0)))), (2, .inr (.inr (some (12, 0)))), (3, .inl x3)], [.inl (x3 + (3 : Int32)), .inr (.inr (some (2200, 0))), .inl (xs (nx (x3 + (2 : Int32)))), .inl (xs (nx (x3 + (1 : Int32)))), .inr (.inr (some (12, 0))), .inl r264], zmix MC264 MR)) (b := true) (by decide +kernel) rfl rfl ?_
  obtain ⟨hg267, h⟩ := zgd_inv h
  refine c_sld Z hX hg267 (by decide +kernel) ?_
  obtain ⟨r268, MR268, hc268, h⟩ := zbd_inv h
  refine lw_callR hW Z (as := [.inl (xs (nx (x3 + (1 : Int32)))), .inl (xs (nx (x3 + (2 : Int32)))), .inl (xs (nx (x3 + (3 : Int32))))]) (st := [.inl r264]) (m12_log_met (zGR_ok hW) rfl hc268) cwL_171 m12_log_in m12_log_se rfl ⟨by exact Nat.le_of_ble_eq_true rfl, by exact Nat.le_of_ble_eq_true rfl⟩ rfl (by decide +kernel) hnk ?_
  refine zic_eq Z (off := 236) (tgt := 1669) (by decide +kernel) (by decide) (fun hb269 => ?_) (fun hb269 => ?_)
  · replace h := zite_t h hb269
    cases h
    exact K
  · replace h := zite_f h hb269
    cases h
def mL_37 (L : Nat) (xs : Nat → Int32) (x3 : Int32) (MC : cM) (MR : rM) : Option (cM × rM) := zgd (zin (x3 + (1 : Int32)) L) (zbd (m11_liars (xs (nx (x3 + (1 : Int32)))) MC) (fun r271 MC271 => zgd (zin (x3 + (1 : Int32)) L) (zbd (m12_liars (xs (nx (x3 + (1 : Int32)))) MR) (fun r273 MR273 => (if r271 = r273 then some (MC271, MR273) else none)))))
set_option maxHeartbeats 4000000 in
theorem mL_37_ok {p : Program} {l : Launch} {e : Env} {s : State} {m : MethodId} {args : Array Value} {below : List Frame} {meth : Method} {c : Code} {Q : State → Prop} {D : va_G} {ad : zR → Nat} {ca : Nat → ClassId} {A : Nat → Prop} {base n k : Nat} {L : Nat} {xs : Nat → Int32} {x3 : Int32} {MC MC' : cM} {MR MR' : rM} (hW : zWh zUA base ad A) (Z : zOK (zCm p l e room_1 s m args below meth c Q code 4 R_law tbL (zGL D ad ca A))) (hX : va_X (ad (2200, 0)) L xs s s.heap ∧ ad (2200, 0) < s.heap.size ∧ ¬ A (ad (2200, 0))) (hnk : n ≤ room_1.cells ∧ k ≤ room_1.slots) (h : mL_37 L xs x3 MC MR = some (MC', MR')) (K : zGo (zCm p l e room_1 s m args below meth c Q code 4 R_law tbL (zGL D ad ca A)) n k (1669, [(0, .inr (.inr (some (2200, 0)))), (1, .inr (.inr (some (11, 0)))), (2, .inr (.inr (some (12, 0)))), (3, .inl x3)], [], zmix MC' MR')) : zGo (zCm p l e room_1 s m args below meth c Q code 4 R_law tbL (zGL D ad ca A)) n k (1438, [(0, .inr (.inr (some (2200, 0)))), (1, .inr (.inr (some (11, 0)))), (2, .inr (.inr (some (12, 0)))), (3, .inl x3)], [], zmix MC MR) := by
  unfold mL_37 at h
  refine zblq Z rfl [(.aload 1, 1), (.aload 0, 1), (.iload 3, 1), (.iconst 1, 1), (.iadd, 1)] (S' := (1443, [(0, .inr (.inr (some (2200, 0)))), (1, .inr (.inr (some (11, 0)))), (2, .inr (.inr (some (12, 0)))), (3, .inl x3)], [.inl (x3 + (1 : Int32)), .inr (.inr (some (2200, 0))), .inr (.inr (some (11, 0)))], zmix MC MR)) (b := true) (by decide +kernel) rfl rfl ?_
  obtain ⟨hg270, h⟩ := zgd_inv h
  refine c_sld Z hX hg270 (by decide +kernel) ?_
  obtain ⟨r271, MC271, hc271, h⟩ := zbd_inv h
  refine lw_callC hW Z (as := [.inl (xs (nx (x3 + (1 : Int32))))]) (st := []) (m11_liars_met (zGC_ok hW) rfl hc271) cwL_172 m11_liars_in m11_liars_se rfl ⟨by exact Nat.le_of_ble_eq_true rfl, by exact Nat.le_of_ble_eq_true rfl⟩ rfl (by decide +kernel) hnk ?_
  refine zblq Z rfl [(.aload 2, 1), (.aload 0, 1), (.iload 3, 1), (.iconst 1, 1), (.iadd, 1)] (S' := (1452, [(0, .inr (.inr (some (2200, 0)))), (1, .inr (.inr (some (11, 0)))), (2, .inr (.inr (some (12, 0)))), (3, .inl x3)], [.inl (x3 + (1 : Int32)), .inr (.inr (some (2200, 0))), .inr (.inr (some (12, 0))), .inl r271], zmix MC271 MR)) (b := true) (by decide +kernel) rfl rfl ?_
  obtain ⟨hg272, h⟩ := zgd_inv h
  refine c_sld Z hX hg272 (by decide +kernel) ?_
  obtain ⟨r273, MR273, hc273, h⟩ := zbd_inv h
  refine lw_callR hW Z (as := [.inl (xs (nx (x3 + (1 : Int32))))]) (st := [.inl r271]) (m12_liars_met (zGR_ok hW) rfl hc273) cwL_175 m12_liars_in m12_liars_se rfl ⟨by exact Nat.le_of_ble_eq_true rfl, by exact Nat.le_of_ble_eq_true rfl⟩ rfl (by decide +kernel) hnk ?_
  refine zic_eq Z (off := 213) (tgt := 1669) (by decide +kernel) (by decide) (fun hb274 => ?_) (fun hb274 => ?_)
  · replace h := zite_t h hb274
    cases h
    exact K
  · replace h := zite_f h hb274
    cases h
def mL_38 (L : Nat) (xs : Nat → Int32) (x3 : Int32) (MC : cM) (MR : rM) : Option (cM × rM) := zbd (m11_courses MC) (fun r275 MC275 => zbd (m12_courses MR) (fun r276 MR276 => (if r275 = r276 then some (MC275, MR276) else none)))
set_option maxHeartbeats 4000000 in
theorem mL_38_ok {p : Program} {l : Launch} {e : Env} {s : State} {m : MethodId} {args : Array Value} {below : List Frame} {meth : Method} {c : Code} {Q : State → Prop} {D : va_G} {ad : zR → Nat} {ca : Nat → ClassId} {A : Nat → Prop} {base n k : Nat} {L : Nat} {xs : Nat → Int32} {x3 : Int32} {MC MC' : cM} {MR MR' : rM} (hW : zWh zUA base ad A) (Z : zOK (zCm p l e room_1 s m args below meth c Q code 4 R_law tbL (zGL D ad ca A))) (hX : va_X (ad (2200, 0)) L xs s s.heap ∧ ad (2200, 0) < s.heap.size ∧ ¬ A (ad (2200, 0))) (hnk : n ≤ room_1.cells ∧ k ≤ room_1.slots) (h : mL_38 L xs x3 MC MR = some (MC', MR')) (K : zGo (zCm p l e room_1 s m args below meth c Q code 4 R_law tbL (zGL D ad ca A)) n k (1669, [(0, .inr (.inr (some (2200, 0)))), (1, .inr (.inr (some (11, 0)))), (2, .inr (.inr (some (12, 0)))), (3, .inl x3)], [], zmix MC' MR')) : zGo (zCm p l e room_1 s m args below meth c Q code 4 R_law tbL (zGL D ad ca A)) n k (1461, [(0, .inr (.inr (some (2200, 0)))), (1, .inr (.inr (some (11, 0)))), (2, .inr (.inr (some (12, 0)))), (3, .inl x3)], [], zmix MC MR) := by
  unfold mL_38 at h
  refine zblq Z rfl [(.aload 1, 1)] (S' := (1462, [(0, .inr (.inr (some (2200, 0)))), (1, .inr (.inr (some (11, 0)))), (2, .inr (.inr (some (12, 0)))), (3, .inl x3)], [.inr (.inr (some (11, 0)))], zmix MC MR)) (b := true) (by decide +kernel) rfl rfl ?_
  obtain ⟨r275, MC275, hc275, h⟩ := zbd_inv h
  refine lw_callC hW Z (as := []) (st := []) (m11_courses_met (zGC_ok hW) rfl hc275) cwL_176 m11_courses_in m11_courses_se rfl ⟨by exact Nat.le_of_ble_eq_true rfl, by exact Nat.le_of_ble_eq_true rfl⟩ rfl (by decide +kernel) hnk ?_
  refine zblq Z rfl [(.aload 2, 1)] (S' := (1466, [(0, .inr (.inr (some (2200, 0)))), (1, .inr (.inr (some (11, 0)))), (2, .inr (.inr (some (12, 0)))), (3, .inl x3)], [.inr (.inr (some (12, 0))), .inl r275], zmix MC275 MR)) (b := true) (by decide +kernel) rfl rfl ?_
  obtain ⟨r276, MR276, hc276, h⟩ := zbd_inv h
  refine lw_callR hW Z (as := []) (st := [.inl r275]) (m12_courses_met (zGR_ok hW) rfl hc276) cwL_179 m12_courses_in m12_courses_se rfl ⟨by exact Nat.le_of_ble_eq_true rfl, by exact Nat.le_of_ble_eq_true rfl⟩ rfl (by decide +kernel) hnk ?_
  refine zic_eq Z (off := 200) (tgt := 1669) (by decide +kernel) (by decide) (fun hb277 => ?_) (fun hb277 => ?_)
  · replace h := zite_t h hb277
    cases h
    exact K
  · replace h := zite_f h hb277
    cases h
def mL_39 (L : Nat) (xs : Nat → Int32) (x3 : Int32) (MC : cM) (MR : rM) : Option (cM × rM) := zgd (zin (x3 + (1 : Int32)) L) (zgd (zin (x3 + (2 : Int32)) L) (zbd (m11_course (xs (nx (x3 + (1 : Int32)))) (xs (nx (x3 + (2 : Int32)))) MC) (fun r280 MC280 => zgd (zin (x3 + (1 : Int32)) L) (zgd (zin (x3 + (2 : Int32)) L) (zbd (m12_course (xs (nx (x3 + (1 : Int32)))) (xs (nx (x3 + (2 : Int32)))) MR) (fun r283 MR283 => (if r280 = r283 then some (MC280, MR283) else none)))))))
set_option maxHeartbeats 4000000 in
theorem mL_39_ok {p : Program} {l : Launch} {e : Env} {s : State} {m : MethodId} {args : Array Value} {below : List Frame} {meth : Method} {c : Code} {Q : State → Prop} {D : va_G} {ad : zR → Nat} {ca : Nat → ClassId} {A : Nat → Prop} {base n k : Nat} {L : Nat} {xs : Nat → Int32} {x3 : Int32} {MC MC' : cM} {MR MR' : rM} (hW : zWh zUA base ad A) (Z : zOK (zCm p l e room_1 s m args below meth c Q code 4 R_law tbL (zGL D ad ca A))) (hX : va_X (ad (2200, 0)) L xs s s.heap ∧ ad (2200, 0) < s.heap.size ∧ ¬ A (ad (2200, 0))) (hnk : n ≤ room_1.cells ∧ k ≤ room_1.slots) (h : mL_39 L xs x3 MC MR = some (MC', MR')) (K : zGo (zCm p l e room_1 s m args below meth c Q code 4 R_law tbL (zGL D ad ca A)) n k (1669, [(0, .inr (.inr (some (2200, 0)))), (1, .inr (.inr (some (11, 0)))), (2, .inr (.inr (some (12, 0)))), (3, .inl x3)], [], zmix MC' MR')) : zGo (zCm p l e room_1 s m args below meth c Q code 4 R_law tbL (zGL D ad ca A)) n k (1474, [(0, .inr (.inr (some (2200, 0)))), (1, .inr (.inr (some (11, 0)))), (2, .inr (.inr (some (12, 0)))), (3, .inl x3)], [], zmix MC MR) := by
  unfold mL_39 at h
  refine zblq Z rfl [(.aload 1, 1), (.aload 0, 1), (.iload 3, 1), (.iconst 1, 1), (.iadd, 1)] (S' := (1479, [(0, .inr (.inr (some (2200, 0)))), (1, .inr (.inr (some (11, 0)))), (2, .inr (.inr (some (12, 0)))), (3, .inl x3)], [.inl (x3 + (1 : Int32)), .inr (.inr (some (2200, 0))), .inr (.inr (some (11, 0)))], zmix MC MR)) (b := true) (by decide +kernel) rfl rfl ?_
  obtain ⟨hg278, h⟩ := zgd_inv h
  refine c_sld Z hX hg278 (by decide +kernel) ?_
  refine zblq Z rfl [(.aload 0, 1), (.iload 3, 1), (.iconst 2, 1), (.iadd, 1)] (S' := (1484, [(0, .inr (.inr (some (2200, 0)))), (1, .inr (.inr (some (11, 0)))), (2, .inr (.inr (some (12, 0)))), (3, .inl x3)], [.inl (x3 + (2 : Int32)), .inr (.inr (some (2200, 0))), .inl (xs (nx (x3 + (1 : Int32)))), .inr (.inr (some (11, 0)))], zmix MC MR)) (b := true) (by decide +kernel) rfl rfl ?_
  obtain ⟨hg279, h⟩ := zgd_inv h
  refine c_sld Z hX hg279 (by decide +kernel) ?_
  obtain ⟨r280, MC280, hc280, h⟩ := zbd_inv h
  refine lw_callC hW Z (as := [.inl (xs (nx (x3 + (1 : Int32)))), .inl (xs (nx (x3 + (2 : Int32))))]) (st := []) (m11_course_met (zGC_ok hW) rfl hc280) cwL_180 m11_course_in m11_course_se rfl ⟨by exact Nat.le_of_ble_eq_true rfl, by exact Nat.le_of_ble_eq_true rfl⟩ rfl (by decide +kernel) hnk ?_
  refine zblq Z rfl [(.aload 2, 1), (.aload 0, 1), (.iload 3, 1), (.iconst 1, 1), (.iadd, 1)] (S' := (1493, [(0, .inr (.inr (some (2200, 0)))), (1, .inr (.inr (some (11, 0)))), (2, .inr (.inr (some (12, 0)))), (3, .inl x3)], [.inl (x3 + (1 : Int32)), .inr (.inr (some (2200, 0))), .inr (.inr (some (12, 0))), .inl r280], zmix MC280 MR)) (b := true) (by decide +kernel) rfl rfl ?_
  obtain ⟨hg281, h⟩ := zgd_inv h
  refine c_sld Z hX hg281 (by decide +kernel) ?_
  refine zblq Z rfl [(.aload 0, 1), (.iload 3, 1), (.iconst 2, 1), (.iadd, 1)] (S' := (1498, [(0, .inr (.inr (some (2200, 0)))), (1, .inr (.inr (some (11, 0)))), (2, .inr (.inr (some (12, 0)))), (3, .inl x3)], [.inl (x3 + (2 : Int32)), .inr (.inr (some (2200, 0))), .inl (xs (nx (x3 + (1 : Int32)))), .inr (.inr (some (12, 0))), .inl r280], zmix MC280 MR)) (b := true) (by decide +kernel) rfl rfl ?_
  obtain ⟨hg282, h⟩ := zgd_inv h
  refine c_sld Z hX hg282 (by decide +kernel) ?_
  obtain ⟨r283, MR283, hc283, h⟩ := zbd_inv h
  refine lw_callR hW Z (as := [.inl (xs (nx (x3 + (1 : Int32)))), .inl (xs (nx (x3 + (2 : Int32))))]) (st := [.inl r280]) (m12_course_met (zGR_ok hW) rfl hc283) cwL_183 m12_course_in m12_course_se rfl ⟨by exact Nat.le_of_ble_eq_true rfl, by exact Nat.le_of_ble_eq_true rfl⟩ rfl (by decide +kernel) hnk ?_
  refine zic_eq Z (off := 167) (tgt := 1669) (by decide +kernel) (by decide) (fun hb284 => ?_) (fun hb284 => ?_)
  · replace h := zite_t h hb284
    cases h
    exact K
  · replace h := zite_f h hb284
    cases h
def mL_40 (L : Nat) (xs : Nat → Int32) (x3 : Int32) (MC : cM) (MR : rM) : Option (cM × rM) := zgd (zin (x3 + (1 : Int32)) L) (zgd (zin (x3 + (2 : Int32)) L) (zgd (zin (x3 + (3 : Int32)) L) (zgd (zin (x3 + (4 : Int32)) L) (zgd (zin (x3 + (5 : Int32)) L) (zbd (m11_judge (xs (nx (x3 + (1 : Int32)))) (xs (nx (x3 + (2 : Int32)))) (xs (nx (x3 + (3 : Int32)))) (xs (nx (x3 + (4 : Int32)))) (xs (nx (x3 + (5 : Int32)))) MC) (fun r290 MC290 => zgd (zin (x3 + (1 : Int32)) L) (zgd (zin (x3 + (2 : Int32)) L) (zgd (zin (x3 + (3 : Int32)) L) (zgd (zin (x3 + (4 : Int32)) L) (zgd (zin (x3 + (5 : Int32)) L) (zbd (m12_judge (xs (nx (x3 + (1 : Int32)))) (xs (nx (x3 + (2 : Int32)))) (xs (nx (x3 + (3 : Int32)))) (xs (nx (x3 + (4 : Int32)))) (xs (nx (x3 + (5 : Int32)))) MR) (fun r296 MR296 => (if r290 = r296 then some (MC290, MR296) else none)))))))))))))
set_option maxHeartbeats 4000000 in
theorem mL_40_ok {p : Program} {l : Launch} {e : Env} {s : State} {m : MethodId} {args : Array Value} {below : List Frame} {meth : Method} {c : Code} {Q : State → Prop} {D : va_G} {ad : zR → Nat} {ca : Nat → ClassId} {A : Nat → Prop} {base n k : Nat} {L : Nat} {xs : Nat → Int32} {x3 : Int32} {MC MC' : cM} {MR MR' : rM} (hW : zWh zUA base ad A) (Z : zOK (zCm p l e room_1 s m args below meth c Q code 4 R_law tbL (zGL D ad ca A))) (hX : va_X (ad (2200, 0)) L xs s s.heap ∧ ad (2200, 0) < s.heap.size ∧ ¬ A (ad (2200, 0))) (hnk : n ≤ room_1.cells ∧ k ≤ room_1.slots) (h : mL_40 L xs x3 MC MR = some (MC', MR')) (K : zGo (zCm p l e room_1 s m args below meth c Q code 4 R_law tbL (zGL D ad ca A)) n k (1669, [(0, .inr (.inr (some (2200, 0)))), (1, .inr (.inr (some (11, 0)))), (2, .inr (.inr (some (12, 0)))), (3, .inl x3)], [], zmix MC' MR')) : zGo (zCm p l e room_1 s m args below meth c Q code 4 R_law tbL (zGL D ad ca A)) n k (1507, [(0, .inr (.inr (some (2200, 0)))), (1, .inr (.inr (some (11, 0)))), (2, .inr (.inr (some (12, 0)))), (3, .inl x3)], [], zmix MC MR) := by
  unfold mL_40 at h
  refine zblq Z rfl [(.aload 1, 1), (.aload 0, 1), (.iload 3, 1), (.iconst 1, 1), (.iadd, 1)] (S' := (1512, [(0, .inr (.inr (some (2200, 0)))), (1, .inr (.inr (some (11, 0)))), (2, .inr (.inr (some (12, 0)))), (3, .inl x3)], [.inl (x3 + (1 : Int32)), .inr (.inr (some (2200, 0))), .inr (.inr (some (11, 0)))], zmix MC MR)) (b := true) (by decide +kernel) rfl rfl ?_
  obtain ⟨hg285, h⟩ := zgd_inv h
  refine c_sld Z hX hg285 (by decide +kernel) ?_
  refine zblq Z rfl [(.aload 0, 1), (.iload 3, 1), (.iconst 2, 1), (.iadd, 1)] (S' := (1517, [(0, .inr (.inr (some (2200, 0)))), (1, .inr (.inr (some (11, 0)))), (2, .inr (.inr (some (12, 0)))), (3, .inl x3)], [.inl (x3 + (2 : Int32)), .inr (.inr (some (2200, 0))), .inl (xs (nx (x3 + (1 : Int32)))), .inr (.inr (some (11, 0)))], zmix MC MR)) (b := true) (by decide +kernel) rfl rfl ?_
  obtain ⟨hg286, h⟩ := zgd_inv h
  refine c_sld Z hX hg286 (by decide +kernel) ?_
  refine zblq Z rfl [(.aload 0, 1), (.iload 3, 1), (.iconst 3, 1), (.iadd, 1)] (S' := (1522, [(0, .inr (.inr (some (2200, 0)))), (1, .inr (.inr (some (11, 0)))), (2, .inr (.inr (some (12, 0)))), (3, .inl x3)], [.inl (x3 + (3 : Int32)), .inr (.inr (some (2200, 0))), .inl (xs (nx (x3 + (2 : Int32)))), .inl (xs (nx (x3 + (1 : Int32)))), .inr (.inr (some (11, 0)))], zmix MC MR)) (b := true) (by decide +kernel) rfl rfl ?_
  obtain ⟨hg287, h⟩ := zgd_inv h
  refine c_sld Z hX hg287 (by decide +kernel) ?_
  refine zblq Z rfl [(.aload 0, 1), (.iload 3, 1), (.iconst 4, 1), (.iadd, 1)] (S' := (1527, [(0, .inr (.inr (some (2200, 0)))), (1, .inr (.inr (some (11, 0)))), (2, .inr (.inr (some (12, 0)))), (3, .inl x3)], [.inl (x3 + (4 : Int32)), .inr (.inr (some (2200, 0))), .inl (xs (nx (x3 + (3 : Int32)))), .inl (xs (nx (x3 + (2 : Int32)))), .inl (xs (nx (x3 + (1 : Int32)))), .inr (.inr (some (11, 0)))], zmix MC MR)) (b := true) (by decide +kernel) rfl rfl ?_
  obtain ⟨hg288, h⟩ := zgd_inv h
  refine c_sld Z hX hg288 (by decide +kernel) ?_
  refine zblq Z rfl [(.aload 0, 1), (.iload 3, 1), (.iconst 5, 1), (.iadd, 1)] (S' := (1532, [(0, .inr (.inr (some (2200, 0)))), (1, .inr (.inr (some (11, 0)))), (2, .inr (.inr (some (12, 0)))), (3, .inl x3)], [.inl (x3 + (5 : Int32)), .inr (.inr (some (2200, 0))), .inl (xs (nx (x3 + (4 : Int32)))), .inl (xs (nx (x3 + (3 : Int32)))), .inl (xs (nx (x3 + (2 : Int32)))), .inl (xs (nx (x3 + (1 : Int32)))), .inr (.inr (some (11, 0)))], zmix MC MR)) (b := true) (by decide +kernel) rfl rfl ?_
  obtain ⟨hg289, h⟩ := zgd_inv h
  refine c_sld Z hX hg289 (by decide +kernel) ?_
  obtain ⟨r290, MC290, hc290, h⟩ := zbd_inv h
  refine lw_callC hW Z (as := [.inl (xs (nx (x3 + (1 : Int32)))), .inl (xs (nx (x3 + (2 : Int32)))), .inl (xs (nx (x3 + (3 : Int32)))), .inl (xs (nx (x3 + (4 : Int32)))), .inl (xs (nx (x3 + (5 : Int32))))]) (st := []) (m11_judge_met (zGC_ok hW) rfl hc290) cwL_184 m11_judge_in m11_judge_se rfl ⟨by exact Nat.le_of_ble_eq_true rfl, by exact Nat.le_of_ble_eq_true rfl⟩ rfl (by decide +kernel) hnk ?_
  refine zblq Z rfl [(.aload 2, 1), (.aload 0, 1), (.iload 3, 1), (.iconst 1, 1), (.iadd, 1)] (S' := (1541, [(0, .inr (.inr (some (2200, 0)))), (1, .inr (.inr (some (11, 0)))), (2, .inr (.inr (some (12, 0)))), (3, .inl x3)], [.inl (x3 + (1 : Int32)), .inr (.inr (some (2200, 0))), .inr (.inr (some (12, 0))), .inl r290], zmix MC290 MR)) (b := true) (by decide +kernel) rfl rfl ?_
  obtain ⟨hg291, h⟩ := zgd_inv h
  refine c_sld Z hX hg291 (by decide +kernel) ?_
  refine zblq Z rfl [(.aload 0, 1), (.iload 3, 1), (.iconst 2, 1), (.iadd, 1)] (S' := (1546, [(0, .inr (.inr (some (2200, 0)))), (1, .inr (.inr (some (11, 0)))), (2, .inr (.inr (some (12, 0)))), (3, .inl x3)], [.inl (x3 + (2 : Int32)), .inr (.inr (some (2200, 0))), .inl (xs (nx (x3 + (1 : Int32)))), .inr (.inr (some (12, 0))), .inl r290], zmix MC290 MR)) (b := true) (by decide +kernel) rfl rfl ?_
  obtain ⟨hg292, h⟩ := zgd_inv h
  refine c_sld Z hX hg292 (by decide +kernel) ?_
  refine zblq Z rfl [(.aload 0, 1), (.iload 3, 1), (.iconst 3, 1), (.iadd, 1)] (S' := (1551, [(0, .inr (.inr (some (2200, 0)))), (1, .inr (.inr (some (11, 0)))), (2, .inr (.inr (some (12, 0)))), (3, .inl x3)], [.inl (x3 + (3 : Int32)), .inr (.inr (some (2200, 0))), .inl (xs (nx (x3 + (2 : Int32)))), .inl (xs (nx (x3 + (1 : Int32)))), .inr (.inr (some (12, 0))), .inl r290], zmix MC290 MR)) (b := true) (by decide +kernel) rfl rfl ?_
  obtain ⟨hg293, h⟩ := zgd_inv h
  refine c_sld Z hX hg293 (by decide +kernel) ?_
  refine zblq Z rfl [(.aload 0, 1), (.iload 3, 1), (.iconst 4, 1), (.iadd, 1)] (S' := (1556, [(0, .inr (.inr (some (2200, 0)))), (1, .inr (.inr (some (11, 0)))), (2, .inr (.inr (some (12, 0)))), (3, .inl x3)], [.inl (x3 + (4 : Int32)), .inr (.inr (some (2200, 0))), .inl (xs (nx (x3 + (3 : Int32)))), .inl (xs (nx (x3 + (2 : Int32)))), .inl (xs (nx (x3 + (1 : Int32)))), .inr (.inr (some (12, 0))), .inl r290], zmix MC290 MR)) (b := true) (by decide +kernel) rfl rfl ?_
  obtain ⟨hg294, h⟩ := zgd_inv h
  refine c_sld Z hX hg294 (by decide +kernel) ?_
  refine zblq Z rfl [(.aload 0, 1), (.iload 3, 1), (.iconst 5, 1), (.iadd, 1)] (S' := (1561, [(0, .inr (.inr (some (2200, 0)))), (1, .inr (.inr (some (11, 0)))), (2, .inr (.inr (some (12, 0)))), (3, .inl x3)], [.inl (x3 + (5 : Int32)), .inr (.inr (some (2200, 0))), .inl (xs (nx (x3 + (4 : Int32)))), .inl (xs (nx (x3 + (3 : Int32)))), .inl (xs (nx (x3 + (2 : Int32)))), .inl (xs (nx (x3 + (1 : Int32)))), .inr (.inr (some (12, 0))), .inl r290], zmix MC290 MR)) (b := true) (by decide +kernel) rfl rfl ?_
  obtain ⟨hg295, h⟩ := zgd_inv h
  refine c_sld Z hX hg295 (by decide +kernel) ?_
  obtain ⟨r296, MR296, hc296, h⟩ := zbd_inv h
  refine lw_callR hW Z (as := [.inl (xs (nx (x3 + (1 : Int32)))), .inl (xs (nx (x3 + (2 : Int32)))), .inl (xs (nx (x3 + (3 : Int32)))), .inl (xs (nx (x3 + (4 : Int32)))), .inl (xs (nx (x3 + (5 : Int32))))]) (st := [.inl r290]) (m12_judge_met (zGR_ok hW) rfl hc296) cwL_187 m12_judge_in m12_judge_se rfl ⟨by exact Nat.le_of_ble_eq_true rfl, by exact Nat.le_of_ble_eq_true rfl⟩ rfl (by decide +kernel) hnk ?_
  refine zic_eq Z (off := 104) (tgt := 1669) (by decide +kernel) (by decide) (fun hb297 => ?_) (fun hb297 => ?_)
  · replace h := zite_t h hb297
    cases h
    exact K
  · replace h := zite_f h hb297
    cases h
def mL_41 (L : Nat) (xs : Nat → Int32) (x3 : Int32) (MC : cM) (MR : rM) : Option (cM × rM) := zbd (m11_quarrel MC) (fun r298 MC298 => zbd (m12_quarrel MR) (fun r299 MR299 => (if r298 = r299 then some (MC298, MR299) else none)))
set_option maxHeartbeats 4000000 in
theorem mL_41_ok {p : Program} {l : Launch} {e : Env} {s : State} {m : MethodId} {args : Array Value} {below : List Frame} {meth : Method} {c : Code} {Q : State → Prop} {D : va_G} {ad : zR → Nat} {ca : Nat → ClassId} {A : Nat → Prop} {base n k : Nat} {L : Nat} {xs : Nat → Int32} {x3 : Int32} {MC MC' : cM} {MR MR' : rM} (hW : zWh zUA base ad A) (Z : zOK (zCm p l e room_1 s m args below meth c Q code 4 R_law tbL (zGL D ad ca A))) (hX : va_X (ad (2200, 0)) L xs s s.heap ∧ ad (2200, 0) < s.heap.size ∧ ¬ A (ad (2200, 0))) (hnk : n ≤ room_1.cells ∧ k ≤ room_1.slots) (h : mL_41 L xs x3 MC MR = some (MC', MR')) (K : zGo (zCm p l e room_1 s m args below meth c Q code 4 R_law tbL (zGL D ad ca A)) n k (1669, [(0, .inr (.inr (some (2200, 0)))), (1, .inr (.inr (some (11, 0)))), (2, .inr (.inr (some (12, 0)))), (3, .inl x3)], [], zmix MC' MR')) : zGo (zCm p l e room_1 s m args below meth c Q code 4 R_law tbL (zGL D ad ca A)) n k (1570, [(0, .inr (.inr (some (2200, 0)))), (1, .inr (.inr (some (11, 0)))), (2, .inr (.inr (some (12, 0)))), (3, .inl x3)], [], zmix MC MR) := by
  unfold mL_41 at h
  refine zblq Z rfl [(.aload 1, 1)] (S' := (1571, [(0, .inr (.inr (some (2200, 0)))), (1, .inr (.inr (some (11, 0)))), (2, .inr (.inr (some (12, 0)))), (3, .inl x3)], [.inr (.inr (some (11, 0)))], zmix MC MR)) (b := true) (by decide +kernel) rfl rfl ?_
  obtain ⟨r298, MC298, hc298, h⟩ := zbd_inv h
  refine lw_callC hW Z (as := []) (st := []) (m11_quarrel_met (zGC_ok hW) rfl hc298) cwL_188 m11_quarrel_in m11_quarrel_se rfl ⟨by exact Nat.le_of_ble_eq_true rfl, by exact Nat.le_of_ble_eq_true rfl⟩ rfl (by decide +kernel) hnk ?_
  refine zblq Z rfl [(.aload 2, 1)] (S' := (1575, [(0, .inr (.inr (some (2200, 0)))), (1, .inr (.inr (some (11, 0)))), (2, .inr (.inr (some (12, 0)))), (3, .inl x3)], [.inr (.inr (some (12, 0))), .inl r298], zmix MC298 MR)) (b := true) (by decide +kernel) rfl rfl ?_
  obtain ⟨r299, MR299, hc299, h⟩ := zbd_inv h
  refine lw_callR hW Z (as := []) (st := [.inl r298]) (m12_quarrel_met (zGR_ok hW) rfl hc299) cwL_191 m12_quarrel_in m12_quarrel_se rfl ⟨by exact Nat.le_of_ble_eq_true rfl, by exact Nat.le_of_ble_eq_true rfl⟩ rfl (by decide +kernel) hnk ?_
  refine zic_eq Z (off := 91) (tgt := 1669) (by decide +kernel) (by decide) (fun hb300 => ?_) (fun hb300 => ?_)
  · replace h := zite_t h hb300
    cases h
    exact K
  · replace h := zite_f h hb300
    cases h
def mL_42 (L : Nat) (xs : Nat → Int32) (x3 : Int32) (MC : cM) (MR : rM) : Option (cM × rM) := zgd (zin (x3 + (1 : Int32)) L) (zgd (zin (x3 + (2 : Int32)) L) (zgd (zin (x3 + (3 : Int32)) L) (zgd (zin (x3 + (4 : Int32)) L) (zgd (zin (x3 + (5 : Int32)) L) (zbd (m11_settle (xs (nx (x3 + (1 : Int32)))) (xs (nx (x3 + (2 : Int32)))) (xs (nx (x3 + (3 : Int32)))) (xs (nx (x3 + (4 : Int32)))) (xs (nx (x3 + (5 : Int32)))) MC) (fun r306 MC306 => zgd (zin (x3 + (1 : Int32)) L) (zgd (zin (x3 + (2 : Int32)) L) (zgd (zin (x3 + (3 : Int32)) L) (zgd (zin (x3 + (4 : Int32)) L) (zgd (zin (x3 + (5 : Int32)) L) (zbd (m12_settle (xs (nx (x3 + (1 : Int32)))) (xs (nx (x3 + (2 : Int32)))) (xs (nx (x3 + (3 : Int32)))) (xs (nx (x3 + (4 : Int32)))) (xs (nx (x3 + (5 : Int32)))) MR) (fun r312 MR312 => (if r306 = r312 then some (MC306, MR312) else none)))))))))))))
set_option maxHeartbeats 4000000 in
theorem mL_42_ok {p : Program} {l : Launch} {e : Env} {s : State} {m : MethodId} {args : Array Value} {below : List Frame} {meth : Method} {c : Code} {Q : State → Prop} {D : va_G} {ad : zR → Nat} {ca : Nat → ClassId} {A : Nat → Prop} {base n k : Nat} {L : Nat} {xs : Nat → Int32} {x3 : Int32} {MC MC' : cM} {MR MR' : rM} (hW : zWh zUA base ad A) (Z : zOK (zCm p l e room_1 s m args below meth c Q code 4 R_law tbL (zGL D ad ca A))) (hX : va_X (ad (2200, 0)) L xs s s.heap ∧ ad (2200, 0) < s.heap.size ∧ ¬ A (ad (2200, 0))) (hnk : n ≤ room_1.cells ∧ k ≤ room_1.slots) (h : mL_42 L xs x3 MC MR = some (MC', MR')) (K : zGo (zCm p l e room_1 s m args below meth c Q code 4 R_law tbL (zGL D ad ca A)) n k (1669, [(0, .inr (.inr (some (2200, 0)))), (1, .inr (.inr (some (11, 0)))), (2, .inr (.inr (some (12, 0)))), (3, .inl x3)], [], zmix MC' MR')) : zGo (zCm p l e room_1 s m args below meth c Q code 4 R_law tbL (zGL D ad ca A)) n k (1583, [(0, .inr (.inr (some (2200, 0)))), (1, .inr (.inr (some (11, 0)))), (2, .inr (.inr (some (12, 0)))), (3, .inl x3)], [], zmix MC MR) := by
  unfold mL_42 at h
  refine zblq Z rfl [(.aload 1, 1), (.aload 0, 1), (.iload 3, 1), (.iconst 1, 1), (.iadd, 1)] (S' := (1588, [(0, .inr (.inr (some (2200, 0)))), (1, .inr (.inr (some (11, 0)))), (2, .inr (.inr (some (12, 0)))), (3, .inl x3)], [.inl (x3 + (1 : Int32)), .inr (.inr (some (2200, 0))), .inr (.inr (some (11, 0)))], zmix MC MR)) (b := true) (by decide +kernel) rfl rfl ?_
  obtain ⟨hg301, h⟩ := zgd_inv h
  refine c_sld Z hX hg301 (by decide +kernel) ?_
  refine zblq Z rfl [(.aload 0, 1), (.iload 3, 1), (.iconst 2, 1), (.iadd, 1)] (S' := (1593, [(0, .inr (.inr (some (2200, 0)))), (1, .inr (.inr (some (11, 0)))), (2, .inr (.inr (some (12, 0)))), (3, .inl x3)], [.inl (x3 + (2 : Int32)), .inr (.inr (some (2200, 0))), .inl (xs (nx (x3 + (1 : Int32)))), .inr (.inr (some (11, 0)))], zmix MC MR)) (b := true) (by decide +kernel) rfl rfl ?_
  obtain ⟨hg302, h⟩ := zgd_inv h
  refine c_sld Z hX hg302 (by decide +kernel) ?_
  refine zblq Z rfl [(.aload 0, 1), (.iload 3, 1), (.iconst 3, 1), (.iadd, 1)] (S' := (1598, [(0, .inr (.inr (some (2200, 0)))), (1, .inr (.inr (some (11, 0)))), (2, .inr (.inr (some (12, 0)))), (3, .inl x3)], [.inl (x3 + (3 : Int32)), .inr (.inr (some (2200, 0))), .inl (xs (nx (x3 + (2 : Int32)))), .inl (xs (nx (x3 + (1 : Int32)))), .inr (.inr (some (11, 0)))], zmix MC MR)) (b := true) (by decide +kernel) rfl rfl ?_
  obtain ⟨hg303, h⟩ := zgd_inv h
  refine c_sld Z hX hg303 (by decide +kernel) ?_
  refine zblq Z rfl [(.aload 0, 1), (.iload 3, 1), (.iconst 4, 1), (.iadd, 1)] (S' := (1603, [(0, .inr (.inr (some (2200, 0)))), (1, .inr (.inr (some (11, 0)))), (2, .inr (.inr (some (12, 0)))), (3, .inl x3)], [.inl (x3 + (4 : Int32)), .inr (.inr (some (2200, 0))), .inl (xs (nx (x3 + (3 : Int32)))), .inl (xs (nx (x3 + (2 : Int32)))), .inl (xs (nx (x3 + (1 : Int32)))), .inr (.inr (some (11, 0)))], zmix MC MR)) (b := true) (by decide +kernel) rfl rfl ?_
  obtain ⟨hg304, h⟩ := zgd_inv h
  refine c_sld Z hX hg304 (by decide +kernel) ?_
  refine zblq Z rfl [(.aload 0, 1), (.iload 3, 1), (.iconst 5, 1), (.iadd, 1)] (S' := (1608, [(0, .inr (.inr (some (2200, 0)))), (1, .inr (.inr (some (11, 0)))), (2, .inr (.inr (some (12, 0)))), (3, .inl x3)], [.inl (x3 + (5 : Int32)), .inr (.inr (some (2200, 0))), .inl (xs (nx (x3 + (4 : Int32)))), .inl (xs (nx (x3 + (3 : Int32)))), .inl (xs (nx (x3 + (2 : Int32)))), .inl (xs (nx (x3 + (1 : Int32)))), .inr (.inr (some (11, 0)))], zmix MC MR)) (b := true) (by decide +kernel) rfl rfl ?_
  obtain ⟨hg305, h⟩ := zgd_inv h
  refine c_sld Z hX hg305 (by decide +kernel) ?_
  obtain ⟨r306, MC306, hc306, h⟩ := zbd_inv h
  refine lw_callC hW Z (as := [.inl (xs (nx (x3 + (1 : Int32)))), .inl (xs (nx (x3 + (2 : Int32)))), .inl (xs (nx (x3 + (3 : Int32)))), .inl (xs (nx (x3 + (4 : Int32)))), .inl (xs (nx (x3 + (5 : Int32))))]) (st := []) (m11_settle_met (zGC_ok hW) rfl hc306) cwL_192 m11_settle_in m11_settle_se rfl ⟨by exact Nat.le_of_ble_eq_true rfl, by exact Nat.le_of_ble_eq_true rfl⟩ rfl (by decide +kernel) hnk ?_
  refine zblq Z rfl [(.aload 2, 1), (.aload 0, 1), (.iload 3, 1), (.iconst 1, 1), (.iadd, 1)] (S' := (1617, [(0, .inr (.inr (some (2200, 0)))), (1, .inr (.inr (some (11, 0)))), (2, .inr (.inr (some (12, 0)))), (3, .inl x3)], [.inl (x3 + (1 : Int32)), .inr (.inr (some (2200, 0))), .inr (.inr (some (12, 0))), .inl r306], zmix MC306 MR)) (b := true) (by decide +kernel) rfl rfl ?_
  obtain ⟨hg307, h⟩ := zgd_inv h
  refine c_sld Z hX hg307 (by decide +kernel) ?_
  refine zblq Z rfl [(.aload 0, 1), (.iload 3, 1), (.iconst 2, 1), (.iadd, 1)] (S' := (1622, [(0, .inr (.inr (some (2200, 0)))), (1, .inr (.inr (some (11, 0)))), (2, .inr (.inr (some (12, 0)))), (3, .inl x3)], [.inl (x3 + (2 : Int32)), .inr (.inr (some (2200, 0))), .inl (xs (nx (x3 + (1 : Int32)))), .inr (.inr (some (12, 0))), .inl r306], zmix MC306 MR)) (b := true) (by decide +kernel) rfl rfl ?_
  obtain ⟨hg308, h⟩ := zgd_inv h
  refine c_sld Z hX hg308 (by decide +kernel) ?_
  refine zblq Z rfl [(.aload 0, 1), (.iload 3, 1), (.iconst 3, 1), (.iadd, 1)] (S' := (1627, [(0, .inr (.inr (some (2200, 0)))), (1, .inr (.inr (some (11, 0)))), (2, .inr (.inr (some (12, 0)))), (3, .inl x3)], [.inl (x3 + (3 : Int32)), .inr (.inr (some (2200, 0))), .inl (xs (nx (x3 + (2 : Int32)))), .inl (xs (nx (x3 + (1 : Int32)))), .inr (.inr (some (12, 0))), .inl r306], zmix MC306 MR)) (b := true) (by decide +kernel) rfl rfl ?_
  obtain ⟨hg309, h⟩ := zgd_inv h
  refine c_sld Z hX hg309 (by decide +kernel) ?_
  refine zblq Z rfl [(.aload 0, 1), (.iload 3, 1), (.iconst 4, 1), (.iadd, 1)] (S' := (1632, [(0, .inr (.inr (some (2200, 0)))), (1, .inr (.inr (some (11, 0)))), (2, .inr (.inr (some (12, 0)))), (3, .inl x3)], [.inl (x3 + (4 : Int32)), .inr (.inr (some (2200, 0))), .inl (xs (nx (x3 + (3 : Int32)))), .inl (xs (nx (x3 + (2 : Int32)))), .inl (xs (nx (x3 + (1 : Int32)))), .inr (.inr (some (12, 0))), .inl r306], zmix MC306 MR)) (b := true) (by decide +kernel) rfl rfl ?_
  obtain ⟨hg310, h⟩ := zgd_inv h
  refine c_sld Z hX hg310 (by decide +kernel) ?_
  refine zblq Z rfl [(.aload 0, 1), (.iload 3, 1), (.iconst 5, 1), (.iadd, 1)] (S' := (1637, [(0, .inr (.inr (some (2200, 0)))), (1, .inr (.inr (some (11, 0)))), (2, .inr (.inr (some (12, 0)))), (3, .inl x3)], [.inl (x3 + (5 : Int32)), .inr (.inr (some (2200, 0))), .inl (xs (nx (x3 + (4 : Int32)))), .inl (xs (nx (x3 + (3 : Int32)))), .inl (xs (nx (x3 + (2 : Int32)))), .inl (xs (nx (x3 + (1 : Int32)))), .inr (.inr (some (12, 0))), .inl r306], zmix MC306 MR)) (b := true) (by decide +kernel) rfl rfl ?_
  obtain ⟨hg311, h⟩ := zgd_inv h
  refine c_sld Z hX hg311 (by decide +kernel) ?_
  obtain ⟨r312, MR312, hc312, h⟩ := zbd_inv h
  refine lw_callR hW Z (as := [.inl (xs (nx (x3 + (1 : Int32)))), .inl (xs (nx (x3 + (2 : Int32)))), .inl (xs (nx (x3 + (3 : Int32)))), .inl (xs (nx (x3 + (4 : Int32)))), .inl (xs (nx (x3 + (5 : Int32))))]) (st := [.inl r306]) (m12_settle_met (zGR_ok hW) rfl hc312) cwL_195 m12_settle_in m12_settle_se rfl ⟨by exact Nat.le_of_ble_eq_true rfl, by exact Nat.le_of_ble_eq_true rfl⟩ rfl (by decide +kernel) hnk ?_
  refine zic_eq Z (off := 28) (tgt := 1669) (by decide +kernel) (by decide) (fun hb313 => ?_) (fun hb313 => ?_)
  · replace h := zite_t h hb313
    cases h
    exact K
  · replace h := zite_f h hb313
    cases h
def mL_43 (L : Nat) (xs : Nat → Int32) (x3 : Int32) (MC : cM) (MR : rM) : Option (cM × rM) := zgd (zin (x3 + (1 : Int32)) L) (zbd (m11_count (xs (nx (x3 + (1 : Int32)))) MC) (fun r315 MC315 => zgd (zin (x3 + (1 : Int32)) L) (zbd (m12_count (xs (nx (x3 + (1 : Int32)))) MR) (fun r317 MR317 => (if r315 = r317 then some (MC315, MR317) else none)))))
set_option maxHeartbeats 4000000 in
theorem mL_43_ok {p : Program} {l : Launch} {e : Env} {s : State} {m : MethodId} {args : Array Value} {below : List Frame} {meth : Method} {c : Code} {Q : State → Prop} {D : va_G} {ad : zR → Nat} {ca : Nat → ClassId} {A : Nat → Prop} {base n k : Nat} {L : Nat} {xs : Nat → Int32} {x3 : Int32} {MC MC' : cM} {MR MR' : rM} (hW : zWh zUA base ad A) (Z : zOK (zCm p l e room_1 s m args below meth c Q code 4 R_law tbL (zGL D ad ca A))) (hX : va_X (ad (2200, 0)) L xs s s.heap ∧ ad (2200, 0) < s.heap.size ∧ ¬ A (ad (2200, 0))) (hnk : n ≤ room_1.cells ∧ k ≤ room_1.slots) (h : mL_43 L xs x3 MC MR = some (MC', MR')) (K : zGo (zCm p l e room_1 s m args below meth c Q code 4 R_law tbL (zGL D ad ca A)) n k (1669, [(0, .inr (.inr (some (2200, 0)))), (1, .inr (.inr (some (11, 0)))), (2, .inr (.inr (some (12, 0)))), (3, .inl x3)], [], zmix MC' MR')) : zGo (zCm p l e room_1 s m args below meth c Q code 4 R_law tbL (zGL D ad ca A)) n k (1646, [(0, .inr (.inr (some (2200, 0)))), (1, .inr (.inr (some (11, 0)))), (2, .inr (.inr (some (12, 0)))), (3, .inl x3)], [], zmix MC MR) := by
  unfold mL_43 at h
  refine zblq Z rfl [(.aload 1, 1), (.aload 0, 1), (.iload 3, 1), (.iconst 1, 1), (.iadd, 1)] (S' := (1651, [(0, .inr (.inr (some (2200, 0)))), (1, .inr (.inr (some (11, 0)))), (2, .inr (.inr (some (12, 0)))), (3, .inl x3)], [.inl (x3 + (1 : Int32)), .inr (.inr (some (2200, 0))), .inr (.inr (some (11, 0)))], zmix MC MR)) (b := true) (by decide +kernel) rfl rfl ?_
  obtain ⟨hg314, h⟩ := zgd_inv h
  refine c_sld Z hX hg314 (by decide +kernel) ?_
  obtain ⟨r315, MC315, hc315, h⟩ := zbd_inv h
  refine lw_callC hW Z (as := [.inl (xs (nx (x3 + (1 : Int32))))]) (st := []) (m11_count_met (zGC_ok hW) rfl hc315) cwL_196 m11_count_in m11_count_se rfl ⟨by exact Nat.le_of_ble_eq_true rfl, by exact Nat.le_of_ble_eq_true rfl⟩ rfl (by decide +kernel) hnk ?_
  refine zblq Z rfl [(.aload 2, 1), (.aload 0, 1), (.iload 3, 1), (.iconst 1, 1), (.iadd, 1)] (S' := (1660, [(0, .inr (.inr (some (2200, 0)))), (1, .inr (.inr (some (11, 0)))), (2, .inr (.inr (some (12, 0)))), (3, .inl x3)], [.inl (x3 + (1 : Int32)), .inr (.inr (some (2200, 0))), .inr (.inr (some (12, 0))), .inl r315], zmix MC315 MR)) (b := true) (by decide +kernel) rfl rfl ?_
  obtain ⟨hg316, h⟩ := zgd_inv h
  refine c_sld Z hX hg316 (by decide +kernel) ?_
  obtain ⟨r317, MR317, hc317, h⟩ := zbd_inv h
  refine lw_callR hW Z (as := [.inl (xs (nx (x3 + (1 : Int32))))]) (st := [.inl r315]) (m12_count_met (zGR_ok hW) rfl hc317) cwL_199 m12_count_in m12_count_se rfl ⟨by exact Nat.le_of_ble_eq_true rfl, by exact Nat.le_of_ble_eq_true rfl⟩ rfl (by decide +kernel) hnk ?_
  refine zic_eq Z (off := 5) (tgt := 1669) (by decide +kernel) (by decide) (fun hb318 => ?_) (fun hb318 => ?_)
  · replace h := zite_t h hb318
    cases h
    exact K
  · replace h := zite_f h hb318
    cases h
